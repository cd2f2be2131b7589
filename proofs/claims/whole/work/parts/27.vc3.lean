set_option maxRecDepth 100000 in
theorem vc_40_0 (xs : Option (List Int32)) (d : Nat) (s : zS)  (Q : zS → Prop) (h : zWv xs d 41 0 [(0, .ref 26)] s (fun s1 => zWv xs (d + 1) 40 8 [(0, .ref 26), (1, .int 1), (2, .int 0)] s1 Q)) : zWv xs (d + 1) 40 0 [(0, .ref 26)] s Q := by
  unfold zWv
  refine am_wh 1 (pc1 := 1) (lv1 := [(0, .ref 26)]) (st1 := [.ref 26]) rfl ?_
  refine am_wc rfl rfl rfl ?_
  refine am_ww h ?_
  rintro _ _ ⟨s1, rfl, rfl, h2⟩
  show am_W _ _ 40 4 [(0, .ref 26)] [] (zH s1) _
  refine am_wh 4 (pc1 := 8) (lv1 := [(2, .int 0), (1, .int 1), (0, .ref 26)]) (st1 := []) rfl ?_
  exact am_wm h2 ⟨rfl, rfl, rfl, trivial⟩
set_option maxRecDepth 100000 in
theorem vc_40_8 (xs : Option (List Int32)) (d : Nat) (s : zS) (a1 : Int32) (a2 : Int32) (Q : zS → Prop) (h : (a2.toInt < (s.1 2).toInt → ((a1.toInt = 0 → (Q s)) ∧ (¬ a1.toInt = 0 → (((s.1 9).toInt = 7 → (Q s)) ∧ (¬ (s.1 9).toInt = 7 → (zWi xs d 42 0 [(0, .ref 26), (1, .int 0)] s (fun v17 s15 => zWv xs (d + 1) 40 8 [(0, .ref 26), (1, .int v17), (2, .int (a2 + 1))] s15 Q))))))) ∧ (¬ a2.toInt < (s.1 2).toInt → (Q s))) : zWv xs (d + 1) 40 8 [(0, .ref 26), (1, .int a1), (2, .int a2)] s Q := by
  unfold zWv
  refine am_wh 4 (pc1 := 16) (lv1 := [(0, .ref 26), (1, .int a1), (2, .int a2)]) (st1 := [.int (s.1 2), .int a2]) rfl ?_
  obtain ⟨h2, h3⟩ := h
  by_cases c1 : a2.toInt < (s.1 2).toInt
  · refine am_wb2 rfl false (zn_ge (zq_a _) (zq_a _) (zr_t _) (zr_t _) c1) rfl ?_
    have h4 := h2 c1
    refine am_wh 1 (pc1 := 20) (lv1 := [(0, .ref 26), (1, .int a1), (2, .int a2)]) (st1 := [.int a1]) rfl ?_
    obtain ⟨h6, h7⟩ := h4
    by_cases c5 : a1.toInt = 0
    · refine am_wb1 rfl true (zt_eq (zq_a _) (by decide) (zr_t _) ⟨by decide, by decide⟩ c5) rfl ?_
      have h8 := h6 c5
      refine am_wr rfl rfl rfl ?_
      exact ⟨_, rfl, rfl, h8⟩
    · refine am_wb1 rfl false (zn_eq (zq_a _) (by decide) (zr_t _) ⟨by decide, by decide⟩ c5) rfl ?_
      have h9 := h7 c5
      refine am_wh 3 (pc1 := 29) (lv1 := [(0, .ref 26), (1, .int a1), (2, .int a2)]) (st1 := [.int 7, .int (s.1 9)]) rfl ?_
      obtain ⟨h11, h12⟩ := h9
      by_cases c10 : (s.1 9).toInt = 7
      · refine am_wb2 rfl true (zt_eq (zq_a _) (by decide) (zr_t _) ⟨by decide, by decide⟩ c10) rfl ?_
        have h13 := h11 c10
        refine am_wr rfl rfl rfl ?_
        exact ⟨_, rfl, rfl, h13⟩
      · refine am_wb2 rfl false (zn_eq (zq_a _) (by decide) (zr_t _) ⟨by decide, by decide⟩ c10) rfl ?_
        have h14 := h12 c10
        refine am_wh 2 (pc1 := 34) (lv1 := [(0, .ref 26), (1, .int a1), (2, .int a2)]) (st1 := [.int 0, .ref 26]) rfl ?_
        refine am_wc rfl rfl rfl ?_
        refine am_ww h14 ?_
        rintro _ _ ⟨v17, s15, rfl, rfl, h16⟩
        show am_W _ _ 40 37 [(0, .ref 26), (1, .int a1), (2, .int a2)] [.int v17] (zH s15) _
        refine am_wh 3 (pc1 := 8) (lv1 := [(2, .int (a2 + 1)), (1, .int v17), (0, .ref 26)]) (st1 := []) rfl ?_
        exact am_wm h16 ⟨rfl, rfl, rfl, trivial⟩
  · refine am_wb2 rfl true (zt_ge (zq_a _) (zq_a _) (zr_t _) (zr_t _) c1) rfl ?_
    have h18 := h3 c1
    refine am_wr rfl rfl rfl ?_
    exact ⟨_, rfl, rfl, h18⟩
set_option maxRecDepth 100000 in
theorem vc_41_0 (xs : Option (List Int32)) (d : Nat) (s : zS)  (Q : zS → Prop) (h : zWv xs d 69 0 [(0, .ref 13)] s (fun s1 => zWv xs d 66 0 [(0, .ref 26)] (zf (zf (zf (zf (zf (zf (zf (zf (zf (zf s1 7 0) 5 0) 12 0) 13 0) 14 0) 15 (-1)) 16 (-1)) 8 (-1)) 9 4) 11 0) (fun s3 => Q s3))) : zWv xs (d + 1) 41 0 [(0, .ref 26)] s Q := by
  unfold zWv
  refine am_wh 2 (pc1 := 4) (lv1 := [(0, .ref 26)]) (st1 := [.ref 13]) rfl ?_
  refine am_wc rfl rfl rfl ?_
  refine am_ww h ?_
  rintro _ _ ⟨s1, rfl, rfl, h2⟩
  show am_W _ _ 41 7 [(0, .ref 26)] [] (zH s1) _
  refine am_wh 3 (pc1 := 12) (lv1 := [(0, .ref 26)]) (st1 := [.int 0, .ref 17]) rfl ?_
  refine am_w0 (z := (15, [(0, .ref 26)], [], zH (zf s1 7 0))) rfl rfl (zp_7 ) ?_
  refine am_wh 3 (pc1 := 20) (lv1 := [(0, .ref 26)]) (st1 := [.int 0, .ref 10]) rfl ?_
  refine am_w0 (z := (23, [(0, .ref 26)], [], zH (zf (zf s1 7 0) 5 0))) rfl rfl (zp_5 ) ?_
  refine am_wh 2 (pc1 := 25) (lv1 := [(0, .ref 26)]) (st1 := [.int 0, .ref 26]) rfl ?_
  refine am_w0 (z := (28, [(0, .ref 26)], [], zH (zf (zf (zf s1 7 0) 5 0) 12 0))) rfl rfl (zp_12 ) ?_
  refine am_wh 2 (pc1 := 30) (lv1 := [(0, .ref 26)]) (st1 := [.int 0, .ref 26]) rfl ?_
  refine am_w0 (z := (33, [(0, .ref 26)], [], zH (zf (zf (zf (zf s1 7 0) 5 0) 12 0) 13 0))) rfl rfl (zp_13 ) ?_
  refine am_wh 2 (pc1 := 35) (lv1 := [(0, .ref 26)]) (st1 := [.int 0, .ref 26]) rfl ?_
  refine am_w0 (z := (38, [(0, .ref 26)], [], zH (zf (zf (zf (zf (zf s1 7 0) 5 0) 12 0) 13 0) 14 0))) rfl rfl (zp_14 ) ?_
  refine am_wh 2 (pc1 := 40) (lv1 := [(0, .ref 26)]) (st1 := [.int (-1), .ref 26]) rfl ?_
  refine am_w0 (z := (43, [(0, .ref 26)], [], zH (zf (zf (zf (zf (zf (zf s1 7 0) 5 0) 12 0) 13 0) 14 0) 15 (-1)))) rfl rfl (zp_15 ) ?_
  refine am_wh 2 (pc1 := 45) (lv1 := [(0, .ref 26)]) (st1 := [.int (-1), .ref 26]) rfl ?_
  refine am_w0 (z := (48, [(0, .ref 26)], [], zH (zf (zf (zf (zf (zf (zf (zf s1 7 0) 5 0) 12 0) 13 0) 14 0) 15 (-1)) 16 (-1)))) rfl rfl (zp_16 ) ?_
  refine am_wh 2 (pc1 := 50) (lv1 := [(0, .ref 26)]) (st1 := [.int (-1), .ref 26]) rfl ?_
  refine am_w0 (z := (53, [(0, .ref 26)], [], zH (zf (zf (zf (zf (zf (zf (zf (zf s1 7 0) 5 0) 12 0) 13 0) 14 0) 15 (-1)) 16 (-1)) 8 (-1)))) rfl rfl (zp_8 ) ?_
  refine am_wh 2 (pc1 := 55) (lv1 := [(0, .ref 26)]) (st1 := [.int 4, .ref 26]) rfl ?_
  refine am_w0 (z := (58, [(0, .ref 26)], [], zH (zf (zf (zf (zf (zf (zf (zf (zf (zf s1 7 0) 5 0) 12 0) 13 0) 14 0) 15 (-1)) 16 (-1)) 8 (-1)) 9 4))) rfl rfl (zp_9 ) ?_
  refine am_wh 2 (pc1 := 60) (lv1 := [(0, .ref 26)]) (st1 := [.int 0, .ref 26]) rfl ?_
  refine am_w0 (z := (63, [(0, .ref 26)], [], zH (zf (zf (zf (zf (zf (zf (zf (zf (zf (zf s1 7 0) 5 0) 12 0) 13 0) 14 0) 15 (-1)) 16 (-1)) 8 (-1)) 9 4) 11 0))) rfl rfl (zp_11 ) ?_
  refine am_wh 1 (pc1 := 64) (lv1 := [(0, .ref 26)]) (st1 := [.ref 26]) rfl ?_
  refine am_wc rfl rfl rfl ?_
  refine am_ww h2 ?_
  rintro _ _ ⟨s3, rfl, rfl, h4⟩
  show am_W _ _ 41 67 [(0, .ref 26)] [] (zH s3) _
  refine am_wr rfl rfl rfl ?_
  exact ⟨_, rfl, rfl, h4⟩
set_option maxRecDepth 100000 in
theorem vc_42_0 (xs : Option (List Int32)) (d : Nat) (s : zS) (a1 : Int32) (Q : Int32 → zS → Prop) (h : zWi xs d 43 0 [(0, .ref 26)] s (fun v3 s1 => (v3.toInt = 0 → (zWi xs d 50 0 [(0, .ref 26), (1, .int a1)] s1 (fun v10 s8 => (v10.toInt = 0 → (Q 0 s8)) ∧ (¬ v10.toInt = 0 → (zWi xs d 62 0 [(0, .ref 26), (1, .int 4)] s8 (fun v18 s16 => (v18.toInt = 0 → (Q 0 s16)) ∧ (¬ v18.toInt = 0 → (zWv xs d 24 0 [(0, .ref 10), (1, .int (s.1 10)), (2, .int (s16.1 11))] s16 (fun s24 => Q 1 s24))))))))) ∧ (¬ v3.toInt = 0 → (zWi xs d 44 0 [(0, .ref 26), (1, .int a1)] s1 (fun v29 s27 => (v29.toInt = 0 → ((v29 = 0 ∨ v29 = 1) ∧ Q v29 s27)) ∧ (¬ v29.toInt = 0 → (zWv xs d 24 0 [(0, .ref 10), (1, .int (s.1 10)), (2, .int (s27.1 11))] s27 (fun s37 => (v29 = 0 ∨ v29 = 1) ∧ Q v29 s37)))))))) : zWi xs (d + 1) 42 0 [(0, .ref 26), (1, .int a1)] s Q := by
  unfold zWi
  refine am_wh 4 (pc1 := 6) (lv1 := [(2, .int (s.1 10)), (0, .ref 26), (1, .int a1)]) (st1 := [.ref 26]) rfl ?_
  refine am_wc rfl rfl rfl ?_
  refine am_ww h ?_
  rintro _ _ ⟨v3, s1, rfl, rfl, h2⟩
  show am_W _ _ 42 9 [(2, .int (s.1 10)), (0, .ref 26), (1, .int a1)] [.int v3] (zH s1) _
  obtain ⟨h5, h6⟩ := h2
  by_cases c4 : v3.toInt = 0
  · refine am_wb1 rfl true (zt_eq (zq_a _) (by decide) (zr_t _) ⟨by decide, by decide⟩ c4) rfl ?_
    have h7 := h5 c4
    refine am_wh 2 (pc1 := 22) (lv1 := [(2, .int (s.1 10)), (0, .ref 26), (1, .int a1)]) (st1 := [.int a1, .ref 26]) rfl ?_
    refine am_wc rfl rfl rfl ?_
    refine am_ww h7 ?_
    rintro _ _ ⟨v10, s8, rfl, rfl, h9⟩
    show am_W _ _ 42 25 [(2, .int (s.1 10)), (0, .ref 26), (1, .int a1)] [.int v10] (zH s8) _
    obtain ⟨h12, h13⟩ := h9
    by_cases c11 : v10.toInt = 0
    · refine am_wb1 rfl true (zt_eq (zq_a _) (by decide) (zr_t _) ⟨by decide, by decide⟩ c11) rfl ?_
      have h14 := h12 c11
      refine am_wh 5 (pc1 := 59) (lv1 := [(3, .int 0), (2, .int (s.1 10)), (0, .ref 26), (1, .int a1)]) (st1 := [.int 0]) rfl ?_
      refine am_wr rfl rfl rfl ?_
      exact ⟨_, _, rfl, rfl, h14⟩
    · refine am_wb1 rfl false (zn_eq (zq_a _) (by decide) (zr_t _) ⟨by decide, by decide⟩ c11) rfl ?_
      have h15 := h13 c11
      refine am_wh 2 (pc1 := 30) (lv1 := [(2, .int (s.1 10)), (0, .ref 26), (1, .int a1)]) (st1 := [.int 4, .ref 26]) rfl ?_
      refine am_wc rfl rfl rfl ?_
      refine am_ww h15 ?_
      rintro _ _ ⟨v18, s16, rfl, rfl, h17⟩
      show am_W _ _ 42 33 [(2, .int (s.1 10)), (0, .ref 26), (1, .int a1)] [.int v18] (zH s16) _
      obtain ⟨h20, h21⟩ := h17
      by_cases c19 : v18.toInt = 0
      · refine am_wb1 rfl true (zt_eq (zq_a _) (by decide) (zr_t _) ⟨by decide, by decide⟩ c19) rfl ?_
        have h22 := h20 c19
        refine am_wh 5 (pc1 := 59) (lv1 := [(3, .int 0), (2, .int (s.1 10)), (0, .ref 26), (1, .int a1)]) (st1 := [.int 0]) rfl ?_
        refine am_wr rfl rfl rfl ?_
        exact ⟨_, _, rfl, rfl, h22⟩
      · refine am_wb1 rfl false (zn_eq (zq_a _) (by decide) (zr_t _) ⟨by decide, by decide⟩ c19) rfl ?_
        have h23 := h21 c19
        refine am_wh 10 (pc1 := 55) (lv1 := [(3, .int 1), (2, .int (s.1 10)), (0, .ref 26), (1, .int a1)]) (st1 := [.int (s16.1 11), .int (s.1 10), .ref 10]) rfl ?_
        refine am_wc rfl rfl rfl ?_
        refine am_ww h23 ?_
        rintro _ _ ⟨s24, rfl, rfl, h25⟩
        show am_W _ _ 42 58 [(3, .int 1), (2, .int (s.1 10)), (0, .ref 26), (1, .int a1)] [] (zH s24) _
        refine am_wh 1 (pc1 := 59) (lv1 := [(3, .int 1), (2, .int (s.1 10)), (0, .ref 26), (1, .int a1)]) (st1 := [.int 1]) rfl ?_
        refine am_wr rfl rfl rfl ?_
        exact ⟨_, _, rfl, rfl, h25⟩
  · refine am_wb1 rfl false (zn_eq (zq_a _) (by decide) (zr_t _) ⟨by decide, by decide⟩ c4) rfl ?_
    have h26 := h6 c4
    refine am_wh 2 (pc1 := 14) (lv1 := [(2, .int (s.1 10)), (0, .ref 26), (1, .int a1)]) (st1 := [.int a1, .ref 26]) rfl ?_
    refine am_wc rfl rfl rfl ?_
    refine am_ww h26 ?_
    rintro _ _ ⟨v29, s27, rfl, rfl, h28⟩
    show am_W _ _ 42 17 [(2, .int (s.1 10)), (0, .ref 26), (1, .int a1)] [.int v29] (zH s27) _
    refine am_wh 3 (pc1 := 43) (lv1 := [(3, .int v29), (2, .int (s.1 10)), (0, .ref 26), (1, .int a1)]) (st1 := [.int v29]) rfl ?_
    obtain ⟨h31, h32⟩ := h28
    by_cases c30 : v29.toInt = 0
    · refine am_wb1 rfl true (zt_eq (zq_a _) (by decide) (zr_t _) ⟨by decide, by decide⟩ c30) rfl ?_
      have h33 := h31 c30
      refine am_wh 1 (pc1 := 59) (lv1 := [(3, .int v29), (2, .int (s.1 10)), (0, .ref 26), (1, .int a1)]) (st1 := [.int v29]) rfl ?_
      obtain ⟨o34, h35⟩ := h33
      refine am_wr rfl rfl (zr_b o34) ?_
      exact ⟨_, _, rfl, rfl, h35⟩
    · refine am_wb1 rfl false (zn_eq (zq_a _) (by decide) (zr_t _) ⟨by decide, by decide⟩ c30) rfl ?_
      have h36 := h32 c30
      refine am_wh 5 (pc1 := 55) (lv1 := [(3, .int v29), (2, .int (s.1 10)), (0, .ref 26), (1, .int a1)]) (st1 := [.int (s27.1 11), .int (s.1 10), .ref 10]) rfl ?_
      refine am_wc rfl rfl rfl ?_
      refine am_ww h36 ?_
      rintro _ _ ⟨s37, rfl, rfl, h38⟩
      show am_W _ _ 42 58 [(3, .int v29), (2, .int (s.1 10)), (0, .ref 26), (1, .int a1)] [] (zH s37) _
      refine am_wh 1 (pc1 := 59) (lv1 := [(3, .int v29), (2, .int (s.1 10)), (0, .ref 26), (1, .int a1)]) (st1 := [.int v29]) rfl ?_
      obtain ⟨o39, h40⟩ := h38
      refine am_wr rfl rfl (zr_b o39) ?_
      exact ⟨_, _, rfl, rfl, h40⟩
set_option maxRecDepth 100000 in
theorem vc_43_0 (xs : Option (List Int32)) (d : Nat) (s : zS)  (Q : Int32 → zS → Prop) (h : ((s.1 9).toInt = 16 ∨ (s.1 9).toInt = 17 ∨ (s.1 9).toInt = 20 ∨ (s.1 9).toInt = 22 ∨ (s.1 9).toInt = 29 → (Q 1 s)) ∧ (¬ (s.1 9).toInt = 16 ∧ ¬ (s.1 9).toInt = 17 ∧ ¬ (s.1 9).toInt = 20 ∧ ¬ (s.1 9).toInt = 22 ∧ ¬ (s.1 9).toInt = 29 → (Q 0 s))) : zWi xs d 43 0 [(0, .ref 26)] s Q := by
  unfold zWi
  refine am_wh 2 (pc1 := 4) (lv1 := [(0, .ref 26)]) (st1 := [.int (s.1 9)]) rfl ?_
  obtain ⟨h1, h2⟩ := h
  by_cases c3 : (s.1 9).toInt = 16 ∨ (s.1 9).toInt = 17 ∨ (s.1 9).toInt = 20 ∨ (s.1 9).toInt = 22 ∨ (s.1 9).toInt = 29
  · refine am_wsw (tgt := 76) rfl (by rcases c3 with e | e | e | e | e <;> (rw [(show (s.1 9) = zI (s.1 9).toInt from (zq_a _)), e]; rfl)) ?_
    have h4 := h1 c3
    refine am_wh 1 (pc1 := 77) (lv1 := [(0, .ref 26)]) (st1 := [.int 1]) rfl ?_
    refine am_wr rfl rfl rfl ?_
    exact ⟨_, _, rfl, rfl, h4⟩
  have c6 : ¬ (s.1 9).toInt = 16 ∧ ¬ (s.1 9).toInt = 17 ∧ ¬ (s.1 9).toInt = 20 ∧ ¬ (s.1 9).toInt = 22 ∧ ¬ (s.1 9).toInt = 29 := by omega
  refine am_wsw (tgt := 78) rfl ?_ ?_
  · rw [(show (s.1 9) = zI (s.1 9).toInt from (zq_a _))]
    rcases (show ((s.1 9).toInt < 16 ∨ 29 < (s.1 9).toInt) ∨ (s.1 9).toInt = 18 ∨ (s.1 9).toInt = 19 ∨ (s.1 9).toInt = 21 ∨ (s.1 9).toInt = 23 ∨ (s.1 9).toInt = 24 ∨ (s.1 9).toInt = 25 ∨ (s.1 9).toInt = 26 ∨ (s.1 9).toInt = 27 ∨ (s.1 9).toInt = 28 by omega) with e | e | e | e | e | e | e | e | e | e
    · unfold am_ts
      rw [zI_t (zr_t _), if_pos e]
      rfl
    · rw [e]; rfl
    · rw [e]; rfl
    · rw [e]; rfl
    · rw [e]; rfl
    · rw [e]; rfl
    · rw [e]; rfl
    · rw [e]; rfl
    · rw [e]; rfl
    · rw [e]; rfl
  have h5 := h2 c6
  refine am_wh 1 (pc1 := 79) (lv1 := [(0, .ref 26)]) (st1 := [.int 0]) rfl ?_
  refine am_wr rfl rfl rfl ?_
  exact ⟨_, _, rfl, rfl, h5⟩
set_option maxRecDepth 100000 in
theorem vc_44_0 (xs : Option (List Int32)) (d : Nat) (s : zS) (a1 : Int32) (Q : Int32 → zS → Prop) (h : ((s.1 9).toInt = 16 → (zWi xs d 46 0 [(0, .ref 26), (1, .int a1)] s (fun v10 s8 => (v10 = 0 ∨ v10 = 1) ∧ Q v10 s8))) ∧ ((s.1 9).toInt = 17 → (zWi xs d 45 0 [(0, .ref 26), (1, .int a1)] s (fun v17 s15 => (v17 = 0 ∨ v17 = 1) ∧ Q v17 s15))) ∧ ((s.1 9).toInt = 22 → (zWi xs d 47 0 [(0, .ref 26), (1, .int a1)] s (fun v24 s22 => (v24 = 0 ∨ v24 = 1) ∧ Q v24 s22))) ∧ ((s.1 9).toInt = 29 → (zWi xs d 62 0 [(0, .ref 26), (1, .int 29)] s (fun v31 s29 => (v31.toInt = 0 → (Q 0 s29)) ∧ (¬ v31.toInt = 0 → (zWi xs d 54 0 [(0, .ref 26), (1, .int a1)] s29 (fun v39 s37 => (v39.toInt = 0 → (Q 0 s37)) ∧ (¬ v39.toInt = 0 → (zWi xs d 48 0 [(0, .ref 26), (1, .int a1)] s37 (fun v47 s45 => (v47.toInt = 0 → (Q 0 s45)) ∧ (¬ v47.toInt = 0 → (Q 1 s45))))))))))) ∧ (¬ (s.1 9).toInt = 16 ∧ ¬ (s.1 9).toInt = 17 ∧ ¬ (s.1 9).toInt = 22 ∧ ¬ (s.1 9).toInt = 29 → (zWi xs d 62 0 [(0, .ref 26), (1, .int 20)] s (fun v57 s55 => (v57.toInt = 0 → (Q 0 s55)) ∧ (¬ v57.toInt = 0 → (zWi xs d 64 0 [(0, .ref 26), (1, .int 2)] s55 (fun v65 s63 => (v65.toInt = 0 → (Q 0 s63)) ∧ (¬ v65.toInt = 0 → (zWi xs d 62 0 [(0, .ref 26), (1, .int 24)] s63 (fun v73 s71 => (v73.toInt = 0 → (Q 0 s71)) ∧ (¬ v73.toInt = 0 → (zWi xs d 54 0 [(0, .ref 26), (1, .int a1)] s71 (fun v81 s79 => (v81.toInt = 0 → (Q 0 s79)) ∧ (¬ v81.toInt = 0 → (zWi xs d 48 0 [(0, .ref 26), (1, .int a1)] s79 (fun v89 s87 => (v89.toInt = 0 → (Q 0 s87)) ∧ (¬ v89.toInt = 0 → (Q 1 s87)))))))))))))))))) : zWi xs (d + 1) 44 0 [(0, .ref 26), (1, .int a1)] s Q := by
  unfold zWi
  refine am_wh 2 (pc1 := 4) (lv1 := [(0, .ref 26), (1, .int a1)]) (st1 := [.int (s.1 9)]) rfl ?_
  obtain ⟨h1, h2, h3, h4, h5⟩ := h
  by_cases c6 : (s.1 9).toInt = 16
  · refine zw_lk (tgt := 54) rfl (by rw [(show (s.1 9) = zI (s.1 9).toInt from (zq_a _)), c6]; rfl) ?_
    have h7 := h1 c6
    refine am_wh 2 (pc1 := 56) (lv1 := [(0, .ref 26), (1, .int a1)]) (st1 := [.int a1, .ref 26]) rfl ?_
    refine am_wc rfl rfl rfl ?_
    refine am_ww h7 ?_
    rintro _ _ ⟨v10, s8, rfl, rfl, h9⟩
    show am_W _ _ 44 59 [(0, .ref 26), (1, .int a1)] [.int v10] (zH s8) _
    obtain ⟨o11, h12⟩ := h9
    refine am_wr rfl rfl (zr_b o11) ?_
    exact ⟨_, _, rfl, rfl, h12⟩
  by_cases c13 : (s.1 9).toInt = 17
  · refine zw_lk (tgt := 48) rfl (by rw [(show (s.1 9) = zI (s.1 9).toInt from (zq_a _)), c13]; rfl) ?_
    have h14 := h2 c13
    refine am_wh 2 (pc1 := 50) (lv1 := [(0, .ref 26), (1, .int a1)]) (st1 := [.int a1, .ref 26]) rfl ?_
    refine am_wc rfl rfl rfl ?_
    refine am_ww h14 ?_
    rintro _ _ ⟨v17, s15, rfl, rfl, h16⟩
    show am_W _ _ 44 53 [(0, .ref 26), (1, .int a1)] [.int v17] (zH s15) _
    obtain ⟨o18, h19⟩ := h16
    refine am_wr rfl rfl (zr_b o18) ?_
    exact ⟨_, _, rfl, rfl, h19⟩
  by_cases c20 : (s.1 9).toInt = 22
  · refine zw_lk (tgt := 60) rfl (by rw [(show (s.1 9) = zI (s.1 9).toInt from (zq_a _)), c20]; rfl) ?_
    have h21 := h3 c20
    refine am_wh 2 (pc1 := 62) (lv1 := [(0, .ref 26), (1, .int a1)]) (st1 := [.int a1, .ref 26]) rfl ?_
    refine am_wc rfl rfl rfl ?_
    refine am_ww h21 ?_
    rintro _ _ ⟨v24, s22, rfl, rfl, h23⟩
    show am_W _ _ 44 65 [(0, .ref 26), (1, .int a1)] [.int v24] (zH s22) _
    obtain ⟨o25, h26⟩ := h23
    refine am_wr rfl rfl (zr_b o25) ?_
    exact ⟨_, _, rfl, rfl, h26⟩
  by_cases c27 : (s.1 9).toInt = 29
  · refine zw_lk (tgt := 66) rfl (by rw [(show (s.1 9) = zI (s.1 9).toInt from (zq_a _)), c27]; rfl) ?_
    have h28 := h4 c27
    refine am_wh 2 (pc1 := 69) (lv1 := [(0, .ref 26), (1, .int a1)]) (st1 := [.int 29, .ref 26]) rfl ?_
    refine am_wc rfl rfl rfl ?_
    refine am_ww h28 ?_
    rintro _ _ ⟨v31, s29, rfl, rfl, h30⟩
    show am_W _ _ 44 72 [(0, .ref 26), (1, .int a1)] [.int v31] (zH s29) _
    obtain ⟨h33, h34⟩ := h30
    by_cases c32 : v31.toInt = 0
    · refine am_wb1 rfl true (zt_eq (zq_a _) (by decide) (zr_t _) ⟨by decide, by decide⟩ c32) rfl ?_
      have h35 := h33 c32
      refine am_wh 1 (pc1 := 96) (lv1 := [(0, .ref 26), (1, .int a1)]) (st1 := [.int 0]) rfl ?_
      refine am_wr rfl rfl rfl ?_
      exact ⟨_, _, rfl, rfl, h35⟩
    · refine am_wb1 rfl false (zn_eq (zq_a _) (by decide) (zr_t _) ⟨by decide, by decide⟩ c32) rfl ?_
      have h36 := h34 c32
      refine am_wh 2 (pc1 := 77) (lv1 := [(0, .ref 26), (1, .int a1)]) (st1 := [.int a1, .ref 26]) rfl ?_
      refine am_wc rfl rfl rfl ?_
      refine am_ww h36 ?_
      rintro _ _ ⟨v39, s37, rfl, rfl, h38⟩
      show am_W _ _ 44 80 [(0, .ref 26), (1, .int a1)] [.int v39] (zH s37) _
      obtain ⟨h41, h42⟩ := h38
      by_cases c40 : v39.toInt = 0
      · refine am_wb1 rfl true (zt_eq (zq_a _) (by decide) (zr_t _) ⟨by decide, by decide⟩ c40) rfl ?_
        have h43 := h41 c40
        refine am_wh 1 (pc1 := 96) (lv1 := [(0, .ref 26), (1, .int a1)]) (st1 := [.int 0]) rfl ?_
        refine am_wr rfl rfl rfl ?_
        exact ⟨_, _, rfl, rfl, h43⟩
      · refine am_wb1 rfl false (zn_eq (zq_a _) (by decide) (zr_t _) ⟨by decide, by decide⟩ c40) rfl ?_
        have h44 := h42 c40
        refine am_wh 2 (pc1 := 85) (lv1 := [(0, .ref 26), (1, .int a1)]) (st1 := [.int a1, .ref 26]) rfl ?_
        refine am_wc rfl rfl rfl ?_
        refine am_ww h44 ?_
        rintro _ _ ⟨v47, s45, rfl, rfl, h46⟩
        show am_W _ _ 44 88 [(0, .ref 26), (1, .int a1)] [.int v47] (zH s45) _
        obtain ⟨h49, h50⟩ := h46
        by_cases c48 : v47.toInt = 0
        · refine am_wb1 rfl true (zt_eq (zq_a _) (by decide) (zr_t _) ⟨by decide, by decide⟩ c48) rfl ?_
          have h51 := h49 c48
          refine am_wh 1 (pc1 := 96) (lv1 := [(0, .ref 26), (1, .int a1)]) (st1 := [.int 0]) rfl ?_
          refine am_wr rfl rfl rfl ?_
          exact ⟨_, _, rfl, rfl, h51⟩
        · refine am_wb1 rfl false (zn_eq (zq_a _) (by decide) (zr_t _) ⟨by decide, by decide⟩ c48) rfl ?_
          have h52 := h50 c48
          refine am_wh 2 (pc1 := 96) (lv1 := [(0, .ref 26), (1, .int a1)]) (st1 := [.int 1]) rfl ?_
          refine am_wr rfl rfl rfl ?_
          exact ⟨_, _, rfl, rfl, h52⟩
  have c54 : ¬ (s.1 9).toInt = 16 ∧ ¬ (s.1 9).toInt = 17 ∧ ¬ (s.1 9).toInt = 22 ∧ ¬ (s.1 9).toInt = 29 := by omega
  refine zw_lk (tgt := 97) rfl ?_ ?_
  · show am_to 4 (if (16 : Int) = (s.1 9).toInt then (50 : Int) else if (17 : Int) = (s.1 9).toInt then (44 : Int) else if (22 : Int) = (s.1 9).toInt then (56 : Int) else if (29 : Int) = (s.1 9).toInt then (62 : Int) else 93) = _
    rw [if_neg (by omega), if_neg (by omega), if_neg (by omega), if_neg (by omega)]
    rfl
  have h53 := h5 c54
  refine am_wh 2 (pc1 := 100) (lv1 := [(0, .ref 26), (1, .int a1)]) (st1 := [.int 20, .ref 26]) rfl ?_
  refine am_wc rfl rfl rfl ?_
  refine am_ww h53 ?_
  rintro _ _ ⟨v57, s55, rfl, rfl, h56⟩
  show am_W _ _ 44 103 [(0, .ref 26), (1, .int a1)] [.int v57] (zH s55) _
  obtain ⟨h59, h60⟩ := h56
  by_cases c58 : v57.toInt = 0
  · refine am_wb1 rfl true (zt_eq (zq_a _) (by decide) (zr_t _) ⟨by decide, by decide⟩ c58) rfl ?_
    have h61 := h59 c58
    refine am_wh 1 (pc1 := 144) (lv1 := [(0, .ref 26), (1, .int a1)]) (st1 := [.int 0]) rfl ?_
    refine am_wr rfl rfl rfl ?_
    exact ⟨_, _, rfl, rfl, h61⟩
  · refine am_wb1 rfl false (zn_eq (zq_a _) (by decide) (zr_t _) ⟨by decide, by decide⟩ c58) rfl ?_
    have h62 := h60 c58
    refine am_wh 2 (pc1 := 108) (lv1 := [(0, .ref 26), (1, .int a1)]) (st1 := [.int 2, .ref 26]) rfl ?_
    refine am_wc rfl rfl rfl ?_
    refine am_ww h62 ?_
    rintro _ _ ⟨v65, s63, rfl, rfl, h64⟩
    show am_W _ _ 44 111 [(0, .ref 26), (1, .int a1)] [.int v65] (zH s63) _
    obtain ⟨h67, h68⟩ := h64
    by_cases c66 : v65.toInt = 0
    · refine am_wb1 rfl true (zt_eq (zq_a _) (by decide) (zr_t _) ⟨by decide, by decide⟩ c66) rfl ?_
      have h69 := h67 c66
      refine am_wh 1 (pc1 := 144) (lv1 := [(0, .ref 26), (1, .int a1)]) (st1 := [.int 0]) rfl ?_
      refine am_wr rfl rfl rfl ?_
      exact ⟨_, _, rfl, rfl, h69⟩
    · refine am_wb1 rfl false (zn_eq (zq_a _) (by decide) (zr_t _) ⟨by decide, by decide⟩ c66) rfl ?_
      have h70 := h68 c66
      refine am_wh 2 (pc1 := 117) (lv1 := [(0, .ref 26), (1, .int a1)]) (st1 := [.int 24, .ref 26]) rfl ?_
      refine am_wc rfl rfl rfl ?_
      refine am_ww h70 ?_
      rintro _ _ ⟨v73, s71, rfl, rfl, h72⟩
      show am_W _ _ 44 120 [(0, .ref 26), (1, .int a1)] [.int v73] (zH s71) _
      obtain ⟨h75, h76⟩ := h72
      by_cases c74 : v73.toInt = 0
      · refine am_wb1 rfl true (zt_eq (zq_a _) (by decide) (zr_t _) ⟨by decide, by decide⟩ c74) rfl ?_
        have h77 := h75 c74
        refine am_wh 1 (pc1 := 144) (lv1 := [(0, .ref 26), (1, .int a1)]) (st1 := [.int 0]) rfl ?_
        refine am_wr rfl rfl rfl ?_
        exact ⟨_, _, rfl, rfl, h77⟩
      · refine am_wb1 rfl false (zn_eq (zq_a _) (by decide) (zr_t _) ⟨by decide, by decide⟩ c74) rfl ?_
        have h78 := h76 c74
        refine am_wh 2 (pc1 := 125) (lv1 := [(0, .ref 26), (1, .int a1)]) (st1 := [.int a1, .ref 26]) rfl ?_
        refine am_wc rfl rfl rfl ?_
        refine am_ww h78 ?_
        rintro _ _ ⟨v81, s79, rfl, rfl, h80⟩
        show am_W _ _ 44 128 [(0, .ref 26), (1, .int a1)] [.int v81] (zH s79) _
        obtain ⟨h83, h84⟩ := h80
        by_cases c82 : v81.toInt = 0
        · refine am_wb1 rfl true (zt_eq (zq_a _) (by decide) (zr_t _) ⟨by decide, by decide⟩ c82) rfl ?_
          have h85 := h83 c82
          refine am_wh 1 (pc1 := 144) (lv1 := [(0, .ref 26), (1, .int a1)]) (st1 := [.int 0]) rfl ?_
          refine am_wr rfl rfl rfl ?_
          exact ⟨_, _, rfl, rfl, h85⟩
        · refine am_wb1 rfl false (zn_eq (zq_a _) (by decide) (zr_t _) ⟨by decide, by decide⟩ c82) rfl ?_
          have h86 := h84 c82
          refine am_wh 2 (pc1 := 133) (lv1 := [(0, .ref 26), (1, .int a1)]) (st1 := [.int a1, .ref 26]) rfl ?_
          refine am_wc rfl rfl rfl ?_
          refine am_ww h86 ?_
          rintro _ _ ⟨v89, s87, rfl, rfl, h88⟩
          show am_W _ _ 44 136 [(0, .ref 26), (1, .int a1)] [.int v89] (zH s87) _
          obtain ⟨h91, h92⟩ := h88
          by_cases c90 : v89.toInt = 0
          · refine am_wb1 rfl true (zt_eq (zq_a _) (by decide) (zr_t _) ⟨by decide, by decide⟩ c90) rfl ?_
            have h93 := h91 c90
            refine am_wh 1 (pc1 := 144) (lv1 := [(0, .ref 26), (1, .int a1)]) (st1 := [.int 0]) rfl ?_
            refine am_wr rfl rfl rfl ?_
            exact ⟨_, _, rfl, rfl, h93⟩
          · refine am_wb1 rfl false (zn_eq (zq_a _) (by decide) (zr_t _) ⟨by decide, by decide⟩ c90) rfl ?_
            have h94 := h92 c90
            refine am_wh 2 (pc1 := 144) (lv1 := [(0, .ref 26), (1, .int a1)]) (st1 := [.int 1]) rfl ?_
            refine am_wr rfl rfl rfl ?_
            exact ⟨_, _, rfl, rfl, h94⟩
set_option maxRecDepth 100000 in
theorem vc_45_0 (xs : Option (List Int32)) (d : Nat) (s : zS) (a1 : Int32) (Q : Int32 → zS → Prop) (h : zWi xs d 62 0 [(0, .ref 26), (1, .int 17)] s (fun v3 s1 => (v3.toInt = 0 → (Q 0 s1)) ∧ (¬ v3.toInt = 0 → (zWi xs d 64 0 [(0, .ref 26), (1, .int 2)] s1 (fun v11 s9 => (v11.toInt = 0 → (Q 0 s9)) ∧ (¬ v11.toInt = 0 → (zWi xs d 62 0 [(0, .ref 26), (1, .int 40)] s9 (fun v19 s17 => (v19.toInt = 0 → (Q 0 s17)) ∧ (¬ v19.toInt = 0 → (zWi xs d 70 0 [(0, .ref 13), (1, .int 1), (2, .int (s17.1 12))] s17 (fun v27 s25 => zWi xs d 52 0 [(0, .ref 26)] (zf s25 12 v27) (fun v30 s28 => (v30.toInt = 0 → (Q 0 (zf s28 12 (s17.1 12)))) ∧ (¬ v30.toInt = 0 → (zWi xs d 62 0 [(0, .ref 26), (1, .int 41)] s28 (fun v38 s36 => (v38.toInt = 0 → (Q 0 (zf s36 12 (s17.1 12)))) ∧ (¬ v38.toInt = 0 → (zWi xs d 48 0 [(0, .ref 26), (1, .int a1)] s36 (fun v46 s44 => (v46.toInt = 0 → (Q 0 (zf s44 12 (s17.1 12)))) ∧ (¬ v46.toInt = 0 → (Q 1 (zf s44 12 (s17.1 12)))))))))))))))))))))) : zWi xs (d + 1) 45 0 [(0, .ref 26), (1, .int a1)] s Q := by
  unfold zWi
  refine am_wh 2 (pc1 := 3) (lv1 := [(0, .ref 26), (1, .int a1)]) (st1 := [.int 17, .ref 26]) rfl ?_
  refine am_wc rfl rfl rfl ?_
  refine am_ww h ?_
  rintro _ _ ⟨v3, s1, rfl, rfl, h2⟩
  show am_W _ _ 45 6 [(0, .ref 26), (1, .int a1)] [.int v3] (zH s1) _
  obtain ⟨h5, h6⟩ := h2
  by_cases c4 : v3.toInt = 0
  · refine am_wb1 rfl true (zt_eq (zq_a _) (by decide) (zr_t _) ⟨by decide, by decide⟩ c4) rfl ?_
    have h7 := h5 c4
    refine am_wh 1 (pc1 := 27) (lv1 := [(0, .ref 26), (1, .int a1)]) (st1 := [.int 0]) rfl ?_
    refine am_wr rfl rfl rfl ?_
    exact ⟨_, _, rfl, rfl, h7⟩
  · refine am_wb1 rfl false (zn_eq (zq_a _) (by decide) (zr_t _) ⟨by decide, by decide⟩ c4) rfl ?_
    have h8 := h6 c4
    refine am_wh 2 (pc1 := 11) (lv1 := [(0, .ref 26), (1, .int a1)]) (st1 := [.int 2, .ref 26]) rfl ?_
    refine am_wc rfl rfl rfl ?_
    refine am_ww h8 ?_
    rintro _ _ ⟨v11, s9, rfl, rfl, h10⟩
    show am_W _ _ 45 14 [(0, .ref 26), (1, .int a1)] [.int v11] (zH s9) _
    obtain ⟨h13, h14⟩ := h10
    by_cases c12 : v11.toInt = 0
    · refine am_wb1 rfl true (zt_eq (zq_a _) (by decide) (zr_t _) ⟨by decide, by decide⟩ c12) rfl ?_
      have h15 := h13 c12
      refine am_wh 1 (pc1 := 27) (lv1 := [(0, .ref 26), (1, .int a1)]) (st1 := [.int 0]) rfl ?_
      refine am_wr rfl rfl rfl ?_
      exact ⟨_, _, rfl, rfl, h15⟩
    · refine am_wb1 rfl false (zn_eq (zq_a _) (by decide) (zr_t _) ⟨by decide, by decide⟩ c12) rfl ?_
      have h16 := h14 c12
      refine am_wh 2 (pc1 := 20) (lv1 := [(0, .ref 26), (1, .int a1)]) (st1 := [.int 40, .ref 26]) rfl ?_
      refine am_wc rfl rfl rfl ?_
      refine am_ww h16 ?_
      rintro _ _ ⟨v19, s17, rfl, rfl, h18⟩
      show am_W _ _ 45 23 [(0, .ref 26), (1, .int a1)] [.int v19] (zH s17) _
      obtain ⟨h21, h22⟩ := h18
      by_cases c20 : v19.toInt = 0
      · refine am_wb1 rfl false (zn_ne (zq_a _) (by decide) (zr_t _) ⟨by decide, by decide⟩ c20) rfl ?_
        have h23 := h21 c20
        refine am_wh 1 (pc1 := 27) (lv1 := [(0, .ref 26), (1, .int a1)]) (st1 := [.int 0]) rfl ?_
        refine am_wr rfl rfl rfl ?_
        exact ⟨_, _, rfl, rfl, h23⟩
      · refine am_wb1 rfl true (zt_ne (zq_a _) (by decide) (zr_t _) ⟨by decide, by decide⟩ c20) rfl ?_
        have h24 := h22 c20
        refine am_wh 8 (pc1 := 40) (lv1 := [(2, .int (s17.1 12)), (0, .ref 26), (1, .int a1)]) (st1 := [.int (s17.1 12), .int 1, .ref 13, .ref 26]) rfl ?_
        refine am_wc rfl rfl rfl ?_
        refine am_ww h24 ?_
        rintro _ _ ⟨v27, s25, rfl, rfl, h26⟩
        show am_W _ _ 45 43 [(2, .int (s17.1 12)), (0, .ref 26), (1, .int a1)] [.int v27, .ref 26] (zH s25) _
        refine am_w0 (z := (46, [(2, .int (s17.1 12)), (0, .ref 26), (1, .int a1)], [], zH (zf s25 12 v27))) rfl rfl (zp_12 ) ?_
        refine am_wh 1 (pc1 := 47) (lv1 := [(2, .int (s17.1 12)), (0, .ref 26), (1, .int a1)]) (st1 := [.ref 26]) rfl ?_
        refine am_wc rfl rfl rfl ?_
        refine am_ww h26 ?_
        rintro _ _ ⟨v30, s28, rfl, rfl, h29⟩
        show am_W _ _ 45 50 [(2, .int (s17.1 12)), (0, .ref 26), (1, .int a1)] [.int v30] (zH s28) _
        obtain ⟨h32, h33⟩ := h29
        by_cases c31 : v30.toInt = 0
        · refine am_wb1 rfl true (zt_eq (zq_a _) (by decide) (zr_t _) ⟨by decide, by decide⟩ c31) rfl ?_
          have h34 := h32 c31
          refine am_wh 4 (pc1 := 78) (lv1 := [(3, .int 0), (2, .int (s17.1 12)), (0, .ref 26), (1, .int a1)]) (st1 := [.int (s17.1 12), .ref 26]) rfl ?_
          refine am_w0 (z := (81, [(3, .int 0), (2, .int (s17.1 12)), (0, .ref 26), (1, .int a1)], [], zH (zf s28 12 (s17.1 12)))) rfl rfl (zp_12 ) ?_
          refine am_wh 1 (pc1 := 82) (lv1 := [(3, .int 0), (2, .int (s17.1 12)), (0, .ref 26), (1, .int a1)]) (st1 := [.int 0]) rfl ?_
          refine am_wr rfl rfl rfl ?_
          exact ⟨_, _, rfl, rfl, h34⟩
        · refine am_wb1 rfl false (zn_eq (zq_a _) (by decide) (zr_t _) ⟨by decide, by decide⟩ c31) rfl ?_
          have h35 := h33 c31
          refine am_wh 2 (pc1 := 56) (lv1 := [(2, .int (s17.1 12)), (0, .ref 26), (1, .int a1)]) (st1 := [.int 41, .ref 26]) rfl ?_
          refine am_wc rfl rfl rfl ?_
          refine am_ww h35 ?_
          rintro _ _ ⟨v38, s36, rfl, rfl, h37⟩
          show am_W _ _ 45 59 [(2, .int (s17.1 12)), (0, .ref 26), (1, .int a1)] [.int v38] (zH s36) _
          obtain ⟨h40, h41⟩ := h37
          by_cases c39 : v38.toInt = 0
          · refine am_wb1 rfl true (zt_eq (zq_a _) (by decide) (zr_t _) ⟨by decide, by decide⟩ c39) rfl ?_
            have h42 := h40 c39
            refine am_wh 4 (pc1 := 78) (lv1 := [(3, .int 0), (2, .int (s17.1 12)), (0, .ref 26), (1, .int a1)]) (st1 := [.int (s17.1 12), .ref 26]) rfl ?_
            refine am_w0 (z := (81, [(3, .int 0), (2, .int (s17.1 12)), (0, .ref 26), (1, .int a1)], [], zH (zf s36 12 (s17.1 12)))) rfl rfl (zp_12 ) ?_
            refine am_wh 1 (pc1 := 82) (lv1 := [(3, .int 0), (2, .int (s17.1 12)), (0, .ref 26), (1, .int a1)]) (st1 := [.int 0]) rfl ?_
            refine am_wr rfl rfl rfl ?_
            exact ⟨_, _, rfl, rfl, h42⟩
          · refine am_wb1 rfl false (zn_eq (zq_a _) (by decide) (zr_t _) ⟨by decide, by decide⟩ c39) rfl ?_
            have h43 := h41 c39
            refine am_wh 2 (pc1 := 64) (lv1 := [(2, .int (s17.1 12)), (0, .ref 26), (1, .int a1)]) (st1 := [.int a1, .ref 26]) rfl ?_
            refine am_wc rfl rfl rfl ?_
            refine am_ww h43 ?_
            rintro _ _ ⟨v46, s44, rfl, rfl, h45⟩
            show am_W _ _ 45 67 [(2, .int (s17.1 12)), (0, .ref 26), (1, .int a1)] [.int v46] (zH s44) _
            obtain ⟨h48, h49⟩ := h45
            by_cases c47 : v46.toInt = 0
            · refine am_wb1 rfl true (zt_eq (zq_a _) (by decide) (zr_t _) ⟨by decide, by decide⟩ c47) rfl ?_
              have h50 := h48 c47
              refine am_wh 4 (pc1 := 78) (lv1 := [(3, .int 0), (2, .int (s17.1 12)), (0, .ref 26), (1, .int a1)]) (st1 := [.int (s17.1 12), .ref 26]) rfl ?_
              refine am_w0 (z := (81, [(3, .int 0), (2, .int (s17.1 12)), (0, .ref 26), (1, .int a1)], [], zH (zf s44 12 (s17.1 12)))) rfl rfl (zp_12 ) ?_
              refine am_wh 1 (pc1 := 82) (lv1 := [(3, .int 0), (2, .int (s17.1 12)), (0, .ref 26), (1, .int a1)]) (st1 := [.int 0]) rfl ?_
              refine am_wr rfl rfl rfl ?_
              exact ⟨_, _, rfl, rfl, h50⟩
            · refine am_wb1 rfl false (zn_eq (zq_a _) (by decide) (zr_t _) ⟨by decide, by decide⟩ c47) rfl ?_
              have h51 := h49 c47
              refine am_wh 5 (pc1 := 78) (lv1 := [(3, .int 1), (2, .int (s17.1 12)), (0, .ref 26), (1, .int a1)]) (st1 := [.int (s17.1 12), .ref 26]) rfl ?_
              refine am_w0 (z := (81, [(3, .int 1), (2, .int (s17.1 12)), (0, .ref 26), (1, .int a1)], [], zH (zf s44 12 (s17.1 12)))) rfl rfl (zp_12 ) ?_
              refine am_wh 1 (pc1 := 82) (lv1 := [(3, .int 1), (2, .int (s17.1 12)), (0, .ref 26), (1, .int a1)]) (st1 := [.int 1]) rfl ?_
              refine am_wr rfl rfl rfl ?_
              exact ⟨_, _, rfl, rfl, h51⟩
set_option maxRecDepth 100000 in
theorem vc_46_0 (xs : Option (List Int32)) (d : Nat) (s : zS) (a1 : Int32) (Q : Int32 → zS → Prop) (h : zWi xs d 62 0 [(0, .ref 26), (1, .int 16)] s (fun v3 s1 => (v3.toInt = 0 → (Q 0 s1)) ∧ (¬ v3.toInt = 0 → (zWi xs d 64 0 [(0, .ref 26), (1, .int 2)] s1 (fun v11 s9 => (v11.toInt = 0 → (Q 0 s9)) ∧ (¬ v11.toInt = 0 → (zWi xs d 70 0 [(0, .ref 13), (1, .int 2), (2, .int (s9.1 12))] s9 (fun v19 s17 => zWi xs d 48 0 [(0, .ref 26), (1, .int a1)] (zf s17 12 v19) (fun v22 s20 => (v22 = 0 ∨ v22 = 1) ∧ Q v22 (zf s20 12 (s9.1 12))))))))))) : zWi xs (d + 1) 46 0 [(0, .ref 26), (1, .int a1)] s Q := by
  unfold zWi
  refine am_wh 2 (pc1 := 3) (lv1 := [(0, .ref 26), (1, .int a1)]) (st1 := [.int 16, .ref 26]) rfl ?_
  refine am_wc rfl rfl rfl ?_
  refine am_ww h ?_
  rintro _ _ ⟨v3, s1, rfl, rfl, h2⟩
  show am_W _ _ 46 6 [(0, .ref 26), (1, .int a1)] [.int v3] (zH s1) _
  obtain ⟨h5, h6⟩ := h2
  by_cases c4 : v3.toInt = 0
  · refine am_wb1 rfl true (zt_eq (zq_a _) (by decide) (zr_t _) ⟨by decide, by decide⟩ c4) rfl ?_
    have h7 := h5 c4
    refine am_wh 1 (pc1 := 18) (lv1 := [(0, .ref 26), (1, .int a1)]) (st1 := [.int 0]) rfl ?_
    refine am_wr rfl rfl rfl ?_
    exact ⟨_, _, rfl, rfl, h7⟩
  · refine am_wb1 rfl false (zn_eq (zq_a _) (by decide) (zr_t _) ⟨by decide, by decide⟩ c4) rfl ?_
    have h8 := h6 c4
    refine am_wh 2 (pc1 := 11) (lv1 := [(0, .ref 26), (1, .int a1)]) (st1 := [.int 2, .ref 26]) rfl ?_
    refine am_wc rfl rfl rfl ?_
    refine am_ww h8 ?_
    rintro _ _ ⟨v11, s9, rfl, rfl, h10⟩
    show am_W _ _ 46 14 [(0, .ref 26), (1, .int a1)] [.int v11] (zH s9) _
    obtain ⟨h13, h14⟩ := h10
    by_cases c12 : v11.toInt = 0
    · refine am_wb1 rfl false (zn_ne (zq_a _) (by decide) (zr_t _) ⟨by decide, by decide⟩ c12) rfl ?_
      have h15 := h13 c12
      refine am_wh 1 (pc1 := 18) (lv1 := [(0, .ref 26), (1, .int a1)]) (st1 := [.int 0]) rfl ?_
      refine am_wr rfl rfl rfl ?_
      exact ⟨_, _, rfl, rfl, h15⟩
    · refine am_wb1 rfl true (zt_ne (zq_a _) (by decide) (zr_t _) ⟨by decide, by decide⟩ c12) rfl ?_
      have h16 := h14 c12
      refine am_wh 8 (pc1 := 31) (lv1 := [(2, .int (s9.1 12)), (0, .ref 26), (1, .int a1)]) (st1 := [.int (s9.1 12), .int 2, .ref 13, .ref 26]) rfl ?_
      refine am_wc rfl rfl rfl ?_
      refine am_ww h16 ?_
      rintro _ _ ⟨v19, s17, rfl, rfl, h18⟩
      show am_W _ _ 46 34 [(2, .int (s9.1 12)), (0, .ref 26), (1, .int a1)] [.int v19, .ref 26] (zH s17) _
      refine am_w0 (z := (37, [(2, .int (s9.1 12)), (0, .ref 26), (1, .int a1)], [], zH (zf s17 12 v19))) rfl rfl (zp_12 ) ?_
      refine am_wh 2 (pc1 := 39) (lv1 := [(2, .int (s9.1 12)), (0, .ref 26), (1, .int a1)]) (st1 := [.int a1, .ref 26]) rfl ?_
      refine am_wc rfl rfl rfl ?_
      refine am_ww h18 ?_
      rintro _ _ ⟨v22, s20, rfl, rfl, h21⟩
      show am_W _ _ 46 42 [(2, .int (s9.1 12)), (0, .ref 26), (1, .int a1)] [.int v22] (zH s20) _
      refine am_wh 3 (pc1 := 45) (lv1 := [(3, .int v22), (2, .int (s9.1 12)), (0, .ref 26), (1, .int a1)]) (st1 := [.int (s9.1 12), .ref 26]) rfl ?_
      refine am_w0 (z := (48, [(3, .int v22), (2, .int (s9.1 12)), (0, .ref 26), (1, .int a1)], [], zH (zf s20 12 (s9.1 12)))) rfl rfl (zp_12 ) ?_
      refine am_wh 1 (pc1 := 49) (lv1 := [(3, .int v22), (2, .int (s9.1 12)), (0, .ref 26), (1, .int a1)]) (st1 := [.int v22]) rfl ?_
      obtain ⟨o23, h24⟩ := h21
      refine am_wr rfl rfl (zr_b o23) ?_
      exact ⟨_, _, rfl, rfl, h24⟩
set_option maxRecDepth 100000 in
theorem vc_47_0 (xs : Option (List Int32)) (d : Nat) (s : zS) (a1 : Int32) (Q : Int32 → zS → Prop) (h : zWi xs d 62 0 [(0, .ref 26), (1, .int 22)] s (fun v3 s1 => (v3.toInt = 0 → (Q 0 s1)) ∧ (¬ v3.toInt = 0 → (zWi xs d 54 0 [(0, .ref 26), (1, .int a1)] s1 (fun v11 s9 => (v11.toInt = 0 → (Q 0 s9)) ∧ (¬ v11.toInt = 0 → (zWi xs d 48 0 [(0, .ref 26), (1, .int a1)] s9 (fun v19 s17 => (v19.toInt = 0 → (Q 0 s17)) ∧ (¬ v19.toInt = 0 → (((s17.1 9).toInt = 19 → (zWi xs d 62 0 [(0, .ref 26), (1, .int 19)] s17 (fun v31 s29 => (v31.toInt = 0 → (Q 0 s29)) ∧ (¬ v31.toInt = 0 → (zWi xs d 48 0 [(0, .ref 26), (1, .int a1)] s29 (fun v39 s37 => (v39.toInt = 0 → (Q 0 s37)) ∧ (¬ v39.toInt = 0 → (Q 1 s37)))))))) ∧ (¬ (s17.1 9).toInt = 19 → (Q 1 s17)))))))))))) : zWi xs (d + 1) 47 0 [(0, .ref 26), (1, .int a1)] s Q := by
  unfold zWi
  refine am_wh 2 (pc1 := 3) (lv1 := [(0, .ref 26), (1, .int a1)]) (st1 := [.int 22, .ref 26]) rfl ?_
  refine am_wc rfl rfl rfl ?_
  refine am_ww h ?_
  rintro _ _ ⟨v3, s1, rfl, rfl, h2⟩
  show am_W _ _ 47 6 [(0, .ref 26), (1, .int a1)] [.int v3] (zH s1) _
  obtain ⟨h5, h6⟩ := h2
  by_cases c4 : v3.toInt = 0
  · refine am_wb1 rfl true (zt_eq (zq_a _) (by decide) (zr_t _) ⟨by decide, by decide⟩ c4) rfl ?_
    have h7 := h5 c4
    refine am_wh 1 (pc1 := 26) (lv1 := [(0, .ref 26), (1, .int a1)]) (st1 := [.int 0]) rfl ?_
    refine am_wr rfl rfl rfl ?_
    exact ⟨_, _, rfl, rfl, h7⟩
  · refine am_wb1 rfl false (zn_eq (zq_a _) (by decide) (zr_t _) ⟨by decide, by decide⟩ c4) rfl ?_
    have h8 := h6 c4
    refine am_wh 2 (pc1 := 11) (lv1 := [(0, .ref 26), (1, .int a1)]) (st1 := [.int a1, .ref 26]) rfl ?_
    refine am_wc rfl rfl rfl ?_
    refine am_ww h8 ?_
    rintro _ _ ⟨v11, s9, rfl, rfl, h10⟩
    show am_W _ _ 47 14 [(0, .ref 26), (1, .int a1)] [.int v11] (zH s9) _
    obtain ⟨h13, h14⟩ := h10
    by_cases c12 : v11.toInt = 0
    · refine am_wb1 rfl true (zt_eq (zq_a _) (by decide) (zr_t _) ⟨by decide, by decide⟩ c12) rfl ?_
      have h15 := h13 c12
      refine am_wh 1 (pc1 := 26) (lv1 := [(0, .ref 26), (1, .int a1)]) (st1 := [.int 0]) rfl ?_
      refine am_wr rfl rfl rfl ?_
      exact ⟨_, _, rfl, rfl, h15⟩
    · refine am_wb1 rfl false (zn_eq (zq_a _) (by decide) (zr_t _) ⟨by decide, by decide⟩ c12) rfl ?_
      have h16 := h14 c12
      refine am_wh 2 (pc1 := 19) (lv1 := [(0, .ref 26), (1, .int a1)]) (st1 := [.int a1, .ref 26]) rfl ?_
      refine am_wc rfl rfl rfl ?_
      refine am_ww h16 ?_
      rintro _ _ ⟨v19, s17, rfl, rfl, h18⟩
      show am_W _ _ 47 22 [(0, .ref 26), (1, .int a1)] [.int v19] (zH s17) _
      obtain ⟨h21, h22⟩ := h18
      by_cases c20 : v19.toInt = 0
      · refine am_wb1 rfl false (zn_ne (zq_a _) (by decide) (zr_t _) ⟨by decide, by decide⟩ c20) rfl ?_
        have h23 := h21 c20
        refine am_wh 1 (pc1 := 26) (lv1 := [(0, .ref 26), (1, .int a1)]) (st1 := [.int 0]) rfl ?_
        refine am_wr rfl rfl rfl ?_
        exact ⟨_, _, rfl, rfl, h23⟩
      · refine am_wb1 rfl true (zt_ne (zq_a _) (by decide) (zr_t _) ⟨by decide, by decide⟩ c20) rfl ?_
        have h24 := h22 c20
        refine am_wh 3 (pc1 := 33) (lv1 := [(0, .ref 26), (1, .int a1)]) (st1 := [.int 19, .int (s17.1 9)]) rfl ?_
        obtain ⟨h26, h27⟩ := h24
        by_cases c25 : (s17.1 9).toInt = 19
        · refine am_wb2 rfl false (zn_ne (zq_a _) (by decide) (zr_t _) ⟨by decide, by decide⟩ c25) rfl ?_
          have h28 := h26 c25
          refine am_wh 2 (pc1 := 39) (lv1 := [(0, .ref 26), (1, .int a1)]) (st1 := [.int 19, .ref 26]) rfl ?_
          refine am_wc rfl rfl rfl ?_
          refine am_ww h28 ?_
          rintro _ _ ⟨v31, s29, rfl, rfl, h30⟩
          show am_W _ _ 47 42 [(0, .ref 26), (1, .int a1)] [.int v31] (zH s29) _
          obtain ⟨h33, h34⟩ := h30
          by_cases c32 : v31.toInt = 0
          · refine am_wb1 rfl true (zt_eq (zq_a _) (by decide) (zr_t _) ⟨by decide, by decide⟩ c32) rfl ?_
            have h35 := h33 c32
            refine am_wh 1 (pc1 := 58) (lv1 := [(0, .ref 26), (1, .int a1)]) (st1 := [.int 0]) rfl ?_
            refine am_wr rfl rfl rfl ?_
            exact ⟨_, _, rfl, rfl, h35⟩
          · refine am_wb1 rfl false (zn_eq (zq_a _) (by decide) (zr_t _) ⟨by decide, by decide⟩ c32) rfl ?_
            have h36 := h34 c32
            refine am_wh 2 (pc1 := 47) (lv1 := [(0, .ref 26), (1, .int a1)]) (st1 := [.int a1, .ref 26]) rfl ?_
            refine am_wc rfl rfl rfl ?_
            refine am_ww h36 ?_
            rintro _ _ ⟨v39, s37, rfl, rfl, h38⟩
            show am_W _ _ 47 50 [(0, .ref 26), (1, .int a1)] [.int v39] (zH s37) _
            obtain ⟨h41, h42⟩ := h38
            by_cases c40 : v39.toInt = 0
            · refine am_wb1 rfl true (zt_eq (zq_a _) (by decide) (zr_t _) ⟨by decide, by decide⟩ c40) rfl ?_
              have h43 := h41 c40
              refine am_wh 1 (pc1 := 58) (lv1 := [(0, .ref 26), (1, .int a1)]) (st1 := [.int 0]) rfl ?_
              refine am_wr rfl rfl rfl ?_
              exact ⟨_, _, rfl, rfl, h43⟩
            · refine am_wb1 rfl false (zn_eq (zq_a _) (by decide) (zr_t _) ⟨by decide, by decide⟩ c40) rfl ?_
              have h44 := h42 c40
              refine am_wh 2 (pc1 := 58) (lv1 := [(0, .ref 26), (1, .int a1)]) (st1 := [.int 1]) rfl ?_
              refine am_wr rfl rfl rfl ?_
              exact ⟨_, _, rfl, rfl, h44⟩
        · refine am_wb2 rfl true (zt_ne (zq_a _) (by decide) (zr_t _) ⟨by decide, by decide⟩ c25) rfl ?_
          have h45 := h27 c25
          refine am_wh 2 (pc1 := 58) (lv1 := [(0, .ref 26), (1, .int a1)]) (st1 := [.int 1]) rfl ?_
          refine am_wr rfl rfl rfl ?_
          exact ⟨_, _, rfl, rfl, h45⟩
set_option maxRecDepth 100000 in
theorem vc_48_0 (xs : Option (List Int32)) (d : Nat) (s : zS) (a1 : Int32) (Q : Int32 → zS → Prop) (h : zWi xs d 63 0 [(0, .ref 26), (1, .int 58), (2, .int a1)] s (fun v3 s1 => (v3.toInt = 0 → (Q 0 s1)) ∧ (¬ v3.toInt = 0 → (((s1.1 9).toInt = 4 → (zWi xs d 62 0 [(0, .ref 26), (1, .int 4)] s1 (fun v15 s13 => (v15.toInt = 0 → (Q 0 s13)) ∧ (¬ v15.toInt = 0 → (zWi xs d 62 0 [(0, .ref 26), (1, .int 5)] s13 (fun v23 s21 => (v23.toInt = 0 → (Q 0 s21)) ∧ (¬ v23.toInt = 0 → (zWi xs d 49 0 [(0, .ref 26), (1, .int (a1 + 1))] s21 (fun v31 s29 => (v31.toInt = 0 → (Q 0 s29)) ∧ (¬ v31.toInt = 0 → (Q 1 s29))))))))))) ∧ (¬ (s1.1 9).toInt = 4 → (zWi xs d 50 0 [(0, .ref 26), (1, .int (a1 + 1))] s1 (fun v40 s38 => (v40.toInt = 0 → (Q 0 s38)) ∧ (¬ v40.toInt = 0 → (zWi xs d 62 0 [(0, .ref 26), (1, .int 4)] s38 (fun v48 s46 => (v48.toInt = 0 → (Q 0 s46)) ∧ (¬ v48.toInt = 0 → (Q 1 s46)))))))))))) : zWi xs (d + 1) 48 0 [(0, .ref 26), (1, .int a1)] s Q := by
  unfold zWi
  refine am_wh 3 (pc1 := 4) (lv1 := [(0, .ref 26), (1, .int a1)]) (st1 := [.int a1, .int 58, .ref 26]) rfl ?_
  refine am_wc rfl rfl rfl ?_
  refine am_ww h ?_
  rintro _ _ ⟨v3, s1, rfl, rfl, h2⟩
  show am_W _ _ 48 7 [(0, .ref 26), (1, .int a1)] [.int v3] (zH s1) _
  obtain ⟨h5, h6⟩ := h2
  by_cases c4 : v3.toInt = 0
  · refine am_wb1 rfl false (zn_ne (zq_a _) (by decide) (zr_t _) ⟨by decide, by decide⟩ c4) rfl ?_
    have h7 := h5 c4
    refine am_wh 1 (pc1 := 11) (lv1 := [(0, .ref 26), (1, .int a1)]) (st1 := [.int 0]) rfl ?_
    refine am_wr rfl rfl rfl ?_
    exact ⟨_, _, rfl, rfl, h7⟩
  · refine am_wb1 rfl true (zt_ne (zq_a _) (by decide) (zr_t _) ⟨by decide, by decide⟩ c4) rfl ?_
    have h8 := h6 c4
    refine am_wh 3 (pc1 := 17) (lv1 := [(0, .ref 26), (1, .int a1)]) (st1 := [.int 4, .int (s1.1 9)]) rfl ?_
    obtain ⟨h10, h11⟩ := h8
    by_cases c9 : (s1.1 9).toInt = 4
    · refine am_wb2 rfl true (zt_eq (zq_a _) (by decide) (zr_t _) ⟨by decide, by decide⟩ c9) rfl ?_
      have h12 := h10 c9
      refine am_wh 2 (pc1 := 46) (lv1 := [(0, .ref 26), (1, .int a1)]) (st1 := [.int 4, .ref 26]) rfl ?_
      refine am_wc rfl rfl rfl ?_
      refine am_ww h12 ?_
      rintro _ _ ⟨v15, s13, rfl, rfl, h14⟩
      show am_W _ _ 48 49 [(0, .ref 26), (1, .int a1)] [.int v15] (zH s13) _
      obtain ⟨h17, h18⟩ := h14
      by_cases c16 : v15.toInt = 0
      · refine am_wb1 rfl true (zt_eq (zq_a _) (by decide) (zr_t _) ⟨by decide, by decide⟩ c16) rfl ?_
        have h19 := h17 c16
        refine am_wh 1 (pc1 := 75) (lv1 := [(0, .ref 26), (1, .int a1)]) (st1 := [.int 0]) rfl ?_
        refine am_wr rfl rfl rfl ?_
        exact ⟨_, _, rfl, rfl, h19⟩
      · refine am_wb1 rfl false (zn_eq (zq_a _) (by decide) (zr_t _) ⟨by decide, by decide⟩ c16) rfl ?_
        have h20 := h18 c16
        refine am_wh 2 (pc1 := 54) (lv1 := [(0, .ref 26), (1, .int a1)]) (st1 := [.int 5, .ref 26]) rfl ?_
        refine am_wc rfl rfl rfl ?_
        refine am_ww h20 ?_
        rintro _ _ ⟨v23, s21, rfl, rfl, h22⟩
        show am_W _ _ 48 57 [(0, .ref 26), (1, .int a1)] [.int v23] (zH s21) _
        obtain ⟨h25, h26⟩ := h22
        by_cases c24 : v23.toInt = 0
        · refine am_wb1 rfl true (zt_eq (zq_a _) (by decide) (zr_t _) ⟨by decide, by decide⟩ c24) rfl ?_
          have h27 := h25 c24
          refine am_wh 1 (pc1 := 75) (lv1 := [(0, .ref 26), (1, .int a1)]) (st1 := [.int 0]) rfl ?_
          refine am_wr rfl rfl rfl ?_
          exact ⟨_, _, rfl, rfl, h27⟩
        · refine am_wb1 rfl false (zn_eq (zq_a _) (by decide) (zr_t _) ⟨by decide, by decide⟩ c24) rfl ?_
          have h28 := h26 c24
          refine am_wh 4 (pc1 := 64) (lv1 := [(0, .ref 26), (1, .int a1)]) (st1 := [.int (a1 + 1), .ref 26]) rfl ?_
          refine am_wc rfl rfl rfl ?_
          refine am_ww h28 ?_
          rintro _ _ ⟨v31, s29, rfl, rfl, h30⟩
          show am_W _ _ 48 67 [(0, .ref 26), (1, .int a1)] [.int v31] (zH s29) _
          obtain ⟨h33, h34⟩ := h30
          by_cases c32 : v31.toInt = 0
          · refine am_wb1 rfl true (zt_eq (zq_a _) (by decide) (zr_t _) ⟨by decide, by decide⟩ c32) rfl ?_
            have h35 := h33 c32
            refine am_wh 1 (pc1 := 75) (lv1 := [(0, .ref 26), (1, .int a1)]) (st1 := [.int 0]) rfl ?_
            refine am_wr rfl rfl rfl ?_
            exact ⟨_, _, rfl, rfl, h35⟩
          · refine am_wb1 rfl false (zn_eq (zq_a _) (by decide) (zr_t _) ⟨by decide, by decide⟩ c32) rfl ?_
            have h36 := h34 c32
            refine am_wh 2 (pc1 := 75) (lv1 := [(0, .ref 26), (1, .int a1)]) (st1 := [.int 1]) rfl ?_
            refine am_wr rfl rfl rfl ?_
            exact ⟨_, _, rfl, rfl, h36⟩
    · refine am_wb2 rfl false (zn_eq (zq_a _) (by decide) (zr_t _) ⟨by decide, by decide⟩ c9) rfl ?_
      have h37 := h11 c9
      refine am_wh 4 (pc1 := 24) (lv1 := [(0, .ref 26), (1, .int a1)]) (st1 := [.int (a1 + 1), .ref 26]) rfl ?_
      refine am_wc rfl rfl rfl ?_
      refine am_ww h37 ?_
      rintro _ _ ⟨v40, s38, rfl, rfl, h39⟩
      show am_W _ _ 48 27 [(0, .ref 26), (1, .int a1)] [.int v40] (zH s38) _
      obtain ⟨h42, h43⟩ := h39
      by_cases c41 : v40.toInt = 0
      · refine am_wb1 rfl true (zt_eq (zq_a _) (by decide) (zr_t _) ⟨by decide, by decide⟩ c41) rfl ?_
        have h44 := h42 c41
        refine am_wh 1 (pc1 := 43) (lv1 := [(0, .ref 26), (1, .int a1)]) (st1 := [.int 0]) rfl ?_
        refine am_wr rfl rfl rfl ?_
        exact ⟨_, _, rfl, rfl, h44⟩
      · refine am_wb1 rfl false (zn_eq (zq_a _) (by decide) (zr_t _) ⟨by decide, by decide⟩ c41) rfl ?_
        have h45 := h43 c41
        refine am_wh 2 (pc1 := 32) (lv1 := [(0, .ref 26), (1, .int a1)]) (st1 := [.int 4, .ref 26]) rfl ?_
        refine am_wc rfl rfl rfl ?_
        refine am_ww h45 ?_
        rintro _ _ ⟨v48, s46, rfl, rfl, h47⟩
        show am_W _ _ 48 35 [(0, .ref 26), (1, .int a1)] [.int v48] (zH s46) _
        obtain ⟨h50, h51⟩ := h47
        by_cases c49 : v48.toInt = 0
        · refine am_wb1 rfl true (zt_eq (zq_a _) (by decide) (zr_t _) ⟨by decide, by decide⟩ c49) rfl ?_
          have h52 := h50 c49
          refine am_wh 1 (pc1 := 43) (lv1 := [(0, .ref 26), (1, .int a1)]) (st1 := [.int 0]) rfl ?_
          refine am_wr rfl rfl rfl ?_
          exact ⟨_, _, rfl, rfl, h52⟩
        · refine am_wb1 rfl false (zn_eq (zq_a _) (by decide) (zr_t _) ⟨by decide, by decide⟩ c49) rfl ?_
          have h53 := h51 c49
          refine am_wh 2 (pc1 := 43) (lv1 := [(0, .ref 26), (1, .int a1)]) (st1 := [.int 1]) rfl ?_
          refine am_wr rfl rfl rfl ?_
          exact ⟨_, _, rfl, rfl, h53⟩
set_option maxRecDepth 100000 in
theorem vc_49_0 (xs : Option (List Int32)) (d : Nat) (s : zS) (a1 : Int32) (Q : Int32 → zS → Prop) (h : zWi xs d 42 0 [(0, .ref 26), (1, .int a1)] s (fun v3 s1 => zWi xs (d + 1) 49 8 [(0, .ref 26), (1, .int a1), (2, .int v3), (3, .int 0)] s1 Q)) : zWi xs (d + 1) 49 0 [(0, .ref 26), (1, .int a1)] s Q := by
  unfold zWi
  refine am_wh 2 (pc1 := 2) (lv1 := [(0, .ref 26), (1, .int a1)]) (st1 := [.int a1, .ref 26]) rfl ?_
  refine am_wc rfl rfl rfl ?_
  refine am_ww h ?_
  rintro _ _ ⟨v3, s1, rfl, rfl, h2⟩
  show am_W _ _ 49 5 [(0, .ref 26), (1, .int a1)] [.int v3] (zH s1) _
  refine am_wh 3 (pc1 := 8) (lv1 := [(3, .int 0), (2, .int v3), (0, .ref 26), (1, .int a1)]) (st1 := []) rfl ?_
  exact am_wm h2 ⟨rfl, rfl, rfl, rfl, trivial⟩
set_option maxRecDepth 100000 in
theorem vc_49_8 (xs : Option (List Int32)) (d : Nat) (s : zS) (a1 : Int32) (a2 : Int32) (a3 : Int32) (Q : Int32 → zS → Prop) (h : (a3.toInt < (s.1 2).toInt → ((a2.toInt = 0 → (Q 0 s)) ∧ (¬ a2.toInt = 0 → (((s.1 9).toInt = 6 → (zWi xs d 62 0 [(0, .ref 26), (1, .int 6)] s (fun v16 s14 => (v16.toInt = 0 → (Q 0 s14)) ∧ (¬ v16.toInt = 0 → (Q 1 s14))))) ∧ (¬ (s.1 9).toInt = 6 → (zWi xs d 42 0 [(0, .ref 26), (1, .int a1)] s (fun v25 s23 => zWi xs (d + 1) 49 8 [(0, .ref 26), (1, .int a1), (2, .int v25), (3, .int (a3 + 1))] s23 Q))))))) ∧ (¬ a3.toInt < (s.1 2).toInt → ((a2.toInt = 0 → (Q 0 s)) ∧ (¬ a2.toInt = 0 → (zWi xs d 62 0 [(0, .ref 26), (1, .int 6)] s (fun v34 s32 => (v34.toInt = 0 → (Q 0 s32)) ∧ (¬ v34.toInt = 0 → (Q 1 s32)))))))) : zWi xs (d + 1) 49 8 [(0, .ref 26), (1, .int a1), (2, .int a2), (3, .int a3)] s Q := by
  unfold zWi
  refine am_wh 4 (pc1 := 16) (lv1 := [(0, .ref 26), (1, .int a1), (2, .int a2), (3, .int a3)]) (st1 := [.int (s.1 2), .int a3]) rfl ?_
  obtain ⟨h2, h3⟩ := h
  by_cases c1 : a3.toInt < (s.1 2).toInt
  · refine am_wb2 rfl false (zn_ge (zq_a _) (zq_a _) (zr_t _) (zr_t _) c1) rfl ?_
    have h4 := h2 c1
    refine am_wh 1 (pc1 := 20) (lv1 := [(0, .ref 26), (1, .int a1), (2, .int a2), (3, .int a3)]) (st1 := [.int a2]) rfl ?_
    obtain ⟨h6, h7⟩ := h4
    by_cases c5 : a2.toInt = 0
    · refine am_wb1 rfl true (zt_eq (zq_a _) (by decide) (zr_t _) ⟨by decide, by decide⟩ c5) rfl ?_
      have h8 := h6 c5
      refine am_wh 1 (pc1 := 45) (lv1 := [(0, .ref 26), (1, .int a1), (2, .int a2), (3, .int a3)]) (st1 := [.int a2]) rfl ?_
      refine am_wb1 rfl true (zt_eq (zq_a _) (by decide) (zr_t _) ⟨by decide, by decide⟩ c5) rfl ?_
      refine am_wh 1 (pc1 := 62) (lv1 := [(0, .ref 26), (1, .int a1), (2, .int a2), (3, .int a3)]) (st1 := [.int 0]) rfl ?_
      refine am_wr rfl rfl rfl ?_
      exact ⟨_, _, rfl, rfl, h8⟩
    · refine am_wb1 rfl false (zn_eq (zq_a _) (by decide) (zr_t _) ⟨by decide, by decide⟩ c5) rfl ?_
      have h9 := h7 c5
      refine am_wh 3 (pc1 := 29) (lv1 := [(0, .ref 26), (1, .int a1), (2, .int a2), (3, .int a3)]) (st1 := [.int 6, .int (s.1 9)]) rfl ?_
      obtain ⟨h11, h12⟩ := h9
      by_cases c10 : (s.1 9).toInt = 6
      · refine am_wb2 rfl true (zt_eq (zq_a _) (by decide) (zr_t _) ⟨by decide, by decide⟩ c10) rfl ?_
        have h13 := h11 c10
        refine am_wh 1 (pc1 := 45) (lv1 := [(0, .ref 26), (1, .int a1), (2, .int a2), (3, .int a3)]) (st1 := [.int a2]) rfl ?_
        refine am_wb1 rfl false (zn_eq (zq_a _) (by decide) (zr_t _) ⟨by decide, by decide⟩ c5) rfl ?_
        refine am_wh 2 (pc1 := 51) (lv1 := [(0, .ref 26), (1, .int a1), (2, .int a2), (3, .int a3)]) (st1 := [.int 6, .ref 26]) rfl ?_
        refine am_wc rfl rfl rfl ?_
        refine am_ww h13 ?_
        rintro _ _ ⟨v16, s14, rfl, rfl, h15⟩
        show am_W _ _ 49 54 [(0, .ref 26), (1, .int a1), (2, .int a2), (3, .int a3)] [.int v16] (zH s14) _
        obtain ⟨h18, h19⟩ := h15
        by_cases c17 : v16.toInt = 0
        · refine am_wb1 rfl true (zt_eq (zq_a _) (by decide) (zr_t _) ⟨by decide, by decide⟩ c17) rfl ?_
          have h20 := h18 c17
          refine am_wh 1 (pc1 := 62) (lv1 := [(0, .ref 26), (1, .int a1), (2, .int a2), (3, .int a3)]) (st1 := [.int 0]) rfl ?_
          refine am_wr rfl rfl rfl ?_
          exact ⟨_, _, rfl, rfl, h20⟩
        · refine am_wb1 rfl false (zn_eq (zq_a _) (by decide) (zr_t _) ⟨by decide, by decide⟩ c17) rfl ?_
          have h21 := h19 c17
          refine am_wh 2 (pc1 := 62) (lv1 := [(0, .ref 26), (1, .int a1), (2, .int a2), (3, .int a3)]) (st1 := [.int 1]) rfl ?_
          refine am_wr rfl rfl rfl ?_
          exact ⟨_, _, rfl, rfl, h21⟩
      · refine am_wb2 rfl false (zn_eq (zq_a _) (by decide) (zr_t _) ⟨by decide, by decide⟩ c10) rfl ?_
        have h22 := h12 c10
        refine am_wh 2 (pc1 := 34) (lv1 := [(0, .ref 26), (1, .int a1), (2, .int a2), (3, .int a3)]) (st1 := [.int a1, .ref 26]) rfl ?_
        refine am_wc rfl rfl rfl ?_
        refine am_ww h22 ?_
        rintro _ _ ⟨v25, s23, rfl, rfl, h24⟩
        show am_W _ _ 49 37 [(0, .ref 26), (1, .int a1), (2, .int a2), (3, .int a3)] [.int v25] (zH s23) _
        refine am_wh 3 (pc1 := 8) (lv1 := [(3, .int (a3 + 1)), (2, .int v25), (0, .ref 26), (1, .int a1)]) (st1 := []) rfl ?_
        exact am_wm h24 ⟨rfl, rfl, rfl, rfl, trivial⟩
  · refine am_wb2 rfl true (zt_ge (zq_a _) (zq_a _) (zr_t _) (zr_t _) c1) rfl ?_
    have h26 := h3 c1
    refine am_wh 1 (pc1 := 45) (lv1 := [(0, .ref 26), (1, .int a1), (2, .int a2), (3, .int a3)]) (st1 := [.int a2]) rfl ?_
    obtain ⟨h28, h29⟩ := h26
    by_cases c27 : a2.toInt = 0
    · refine am_wb1 rfl true (zt_eq (zq_a _) (by decide) (zr_t _) ⟨by decide, by decide⟩ c27) rfl ?_
      have h30 := h28 c27
      refine am_wh 1 (pc1 := 62) (lv1 := [(0, .ref 26), (1, .int a1), (2, .int a2), (3, .int a3)]) (st1 := [.int 0]) rfl ?_
      refine am_wr rfl rfl rfl ?_
      exact ⟨_, _, rfl, rfl, h30⟩
    · refine am_wb1 rfl false (zn_eq (zq_a _) (by decide) (zr_t _) ⟨by decide, by decide⟩ c27) rfl ?_
      have h31 := h29 c27
      refine am_wh 2 (pc1 := 51) (lv1 := [(0, .ref 26), (1, .int a1), (2, .int a2), (3, .int a3)]) (st1 := [.int 6, .ref 26]) rfl ?_
      refine am_wc rfl rfl rfl ?_
      refine am_ww h31 ?_
      rintro _ _ ⟨v34, s32, rfl, rfl, h33⟩
      show am_W _ _ 49 54 [(0, .ref 26), (1, .int a1), (2, .int a2), (3, .int a3)] [.int v34] (zH s32) _
      obtain ⟨h36, h37⟩ := h33
      by_cases c35 : v34.toInt = 0
      · refine am_wb1 rfl true (zt_eq (zq_a _) (by decide) (zr_t _) ⟨by decide, by decide⟩ c35) rfl ?_
        have h38 := h36 c35
        refine am_wh 1 (pc1 := 62) (lv1 := [(0, .ref 26), (1, .int a1), (2, .int a2), (3, .int a3)]) (st1 := [.int 0]) rfl ?_
        refine am_wr rfl rfl rfl ?_
        exact ⟨_, _, rfl, rfl, h38⟩
      · refine am_wb1 rfl false (zn_eq (zq_a _) (by decide) (zr_t _) ⟨by decide, by decide⟩ c35) rfl ?_
        have h39 := h37 c35
        refine am_wh 2 (pc1 := 62) (lv1 := [(0, .ref 26), (1, .int a1), (2, .int a2), (3, .int a3)]) (st1 := [.int 1]) rfl ?_
        refine am_wr rfl rfl rfl ?_
        exact ⟨_, _, rfl, rfl, h39⟩
set_option maxRecDepth 100000 in
theorem vc_50_0 (xs : Option (List Int32)) (d : Nat) (s : zS) (a1 : Int32) (Q : Int32 → zS → Prop) (h : ((s.1 9).toInt = 18 → (zWi xs d 62 0 [(0, .ref 26), (1, .int 18)] s (fun v12 s10 => (v12.toInt = 0 → (Q 0 s10)) ∧ (¬ v12.toInt = 0 → (zWi xs d 64 0 [(0, .ref 26), (1, .int 2)] s10 (fun v20 s18 => (v20.toInt = 0 → (Q 0 s18)) ∧ (¬ v20.toInt = 0 → (Q 1 s18)))))))) ∧ ((s.1 9).toInt = 21 → (zWi xs d 62 0 [(0, .ref 26), (1, .int 21)] s (fun v30 s28 => (v30.toInt = 0 → (Q 0 s28)) ∧ (¬ v30.toInt = 0 → (zWi xs d 53 0 [(0, .ref 26), (1, .int 4)] s28 (fun v38 s36 => (v38.toInt = 0 → (Q 0 s36)) ∧ (¬ v38.toInt = 0 → (Q 1 s36)))))))) ∧ ((s.1 9).toInt = 23 → (zWi xs d 62 0 [(0, .ref 26), (1, .int 23)] s (fun v48 s46 => (v48.toInt = 0 → (Q 0 s46)) ∧ (¬ v48.toInt = 0 → (zWi xs d 64 0 [(0, .ref 26), (1, .int 2)] s46 (fun v56 s54 => (v56.toInt = 0 → (Q 0 s54)) ∧ (¬ v56.toInt = 0 → (Q 1 s54)))))))) ∧ ((s.1 9).toInt = 26 → (zWi xs d 62 0 [(0, .ref 26), (1, .int 26)] s (fun v66 s64 => (v66.toInt = 0 → (Q 0 s64)) ∧ (¬ v66.toInt = 0 → (zWi xs d 53 0 [(0, .ref 26), (1, .int 8)] s64 (fun v74 s72 => (v74.toInt = 0 → (Q 0 s72)) ∧ (¬ v74.toInt = 0 → (Q 1 s72)))))))) ∧ ((s.1 9).toInt = 27 → (zWi xs d 62 0 [(0, .ref 26), (1, .int 27)] s (fun v84 s82 => (v84 = 0 ∨ v84 = 1) ∧ Q v84 s82))) ∧ ((s.1 9).toInt = 28 → (zWv xs d 51 0 [(0, .ref 26)] s (fun s89 => zWi xs d 62 0 [(0, .ref 26), (1, .int 28)] s89 (fun v93 s91 => (v93.toInt = 0 → (Q 0 s91)) ∧ (¬ v93.toInt = 0 → (((s91.1 9).toInt = 4 → (Q 1 s91)) ∧ (¬ (s91.1 9).toInt = 4 → (zWi xs d 54 0 [(0, .ref 26), (1, .int a1)] s91 (fun v106 s104 => (v106.toInt = 0 → (Q 0 s104)) ∧ (¬ v106.toInt = 0 → (Q 1 s104))))))))))) ∧ (¬ (s.1 9).toInt = 18 ∧ ¬ (s.1 9).toInt = 21 ∧ ¬ (s.1 9).toInt = 23 ∧ ¬ (s.1 9).toInt = 26 ∧ ¬ (s.1 9).toInt = 27 ∧ ¬ (s.1 9).toInt = 28 → (zWi xs d 61 0 [(0, .ref 26), (1, .int 61)] s (fun v116 s114 => (v116.toInt = 0 → (zWi xs d 54 0 [(0, .ref 26), (1, .int a1)] s114 (fun v123 s121 => (v123 = 0 ∨ v123 = 1) ∧ Q v123 s121))) ∧ (¬ v116.toInt = 0 → (zWi xs d 64 0 [(0, .ref 26), (1, .int 2)] s114 (fun v129 s127 => (v129.toInt = 0 → (Q 0 s127)) ∧ (¬ v129.toInt = 0 → (zWi xs d 62 0 [(0, .ref 26), (1, .int 61)] s127 (fun v137 s135 => (v137.toInt = 0 → (Q 0 s135)) ∧ (¬ v137.toInt = 0 → (zWi xs d 54 0 [(0, .ref 26), (1, .int a1)] s135 (fun v145 s143 => (v145.toInt = 0 → (Q 0 s143)) ∧ (¬ v145.toInt = 0 → (Q 1 s143))))))))))))))) : zWi xs (d + 1) 50 0 [(0, .ref 26), (1, .int a1)] s Q := by
  unfold zWi
  refine am_wh 2 (pc1 := 4) (lv1 := [(0, .ref 26), (1, .int a1)]) (st1 := [.int (s.1 9)]) rfl ?_
  obtain ⟨h1, h2, h3, h4, h5, h6, h7⟩ := h
  by_cases c8 : (s.1 9).toInt = 18
  · refine am_wsw (tgt := 118) rfl (by rw [(show (s.1 9) = zI (s.1 9).toInt from (zq_a _)), c8]; rfl) ?_
    have h9 := h1 c8
    refine am_wh 2 (pc1 := 121) (lv1 := [(0, .ref 26), (1, .int a1)]) (st1 := [.int 18, .ref 26]) rfl ?_
    refine am_wc rfl rfl rfl ?_
    refine am_ww h9 ?_
    rintro _ _ ⟨v12, s10, rfl, rfl, h11⟩
    show am_W _ _ 50 124 [(0, .ref 26), (1, .int a1)] [.int v12] (zH s10) _
    obtain ⟨h14, h15⟩ := h11
    by_cases c13 : v12.toInt = 0
    · refine am_wb1 rfl true (zt_eq (zq_a _) (by decide) (zr_t _) ⟨by decide, by decide⟩ c13) rfl ?_
      have h16 := h14 c13
      refine am_wh 1 (pc1 := 140) (lv1 := [(0, .ref 26), (1, .int a1)]) (st1 := [.int 0]) rfl ?_
      refine am_wr rfl rfl rfl ?_
      exact ⟨_, _, rfl, rfl, h16⟩
    · refine am_wb1 rfl false (zn_eq (zq_a _) (by decide) (zr_t _) ⟨by decide, by decide⟩ c13) rfl ?_
      have h17 := h15 c13
      refine am_wh 2 (pc1 := 129) (lv1 := [(0, .ref 26), (1, .int a1)]) (st1 := [.int 2, .ref 26]) rfl ?_
      refine am_wc rfl rfl rfl ?_
      refine am_ww h17 ?_
      rintro _ _ ⟨v20, s18, rfl, rfl, h19⟩
      show am_W _ _ 50 132 [(0, .ref 26), (1, .int a1)] [.int v20] (zH s18) _
      obtain ⟨h22, h23⟩ := h19
      by_cases c21 : v20.toInt = 0
      · refine am_wb1 rfl true (zt_eq (zq_a _) (by decide) (zr_t _) ⟨by decide, by decide⟩ c21) rfl ?_
        have h24 := h22 c21
        refine am_wh 1 (pc1 := 140) (lv1 := [(0, .ref 26), (1, .int a1)]) (st1 := [.int 0]) rfl ?_
        refine am_wr rfl rfl rfl ?_
        exact ⟨_, _, rfl, rfl, h24⟩
      · refine am_wb1 rfl false (zn_eq (zq_a _) (by decide) (zr_t _) ⟨by decide, by decide⟩ c21) rfl ?_
        have h25 := h23 c21
        refine am_wh 2 (pc1 := 140) (lv1 := [(0, .ref 26), (1, .int a1)]) (st1 := [.int 1]) rfl ?_
        refine am_wr rfl rfl rfl ?_
        exact ⟨_, _, rfl, rfl, h25⟩
  by_cases c26 : (s.1 9).toInt = 21
  · refine am_wsw (tgt := 71) rfl (by rw [(show (s.1 9) = zI (s.1 9).toInt from (zq_a _)), c26]; rfl) ?_
    have h27 := h2 c26
    refine am_wh 2 (pc1 := 74) (lv1 := [(0, .ref 26), (1, .int a1)]) (st1 := [.int 21, .ref 26]) rfl ?_
    refine am_wc rfl rfl rfl ?_
    refine am_ww h27 ?_
    rintro _ _ ⟨v30, s28, rfl, rfl, h29⟩
    show am_W _ _ 50 77 [(0, .ref 26), (1, .int a1)] [.int v30] (zH s28) _
    obtain ⟨h32, h33⟩ := h29
    by_cases c31 : v30.toInt = 0
    · refine am_wb1 rfl true (zt_eq (zq_a _) (by decide) (zr_t _) ⟨by decide, by decide⟩ c31) rfl ?_
      have h34 := h32 c31
      refine am_wh 1 (pc1 := 93) (lv1 := [(0, .ref 26), (1, .int a1)]) (st1 := [.int 0]) rfl ?_
      refine am_wr rfl rfl rfl ?_
      exact ⟨_, _, rfl, rfl, h34⟩
    · refine am_wb1 rfl false (zn_eq (zq_a _) (by decide) (zr_t _) ⟨by decide, by decide⟩ c31) rfl ?_
      have h35 := h33 c31
      refine am_wh 2 (pc1 := 82) (lv1 := [(0, .ref 26), (1, .int a1)]) (st1 := [.int 4, .ref 26]) rfl ?_
      refine am_wc rfl rfl rfl ?_
      refine am_ww h35 ?_
      rintro _ _ ⟨v38, s36, rfl, rfl, h37⟩
      show am_W _ _ 50 85 [(0, .ref 26), (1, .int a1)] [.int v38] (zH s36) _
      obtain ⟨h40, h41⟩ := h37
      by_cases c39 : v38.toInt = 0
      · refine am_wb1 rfl true (zt_eq (zq_a _) (by decide) (zr_t _) ⟨by decide, by decide⟩ c39) rfl ?_
        have h42 := h40 c39
        refine am_wh 1 (pc1 := 93) (lv1 := [(0, .ref 26), (1, .int a1)]) (st1 := [.int 0]) rfl ?_
        refine am_wr rfl rfl rfl ?_
        exact ⟨_, _, rfl, rfl, h42⟩
      · refine am_wb1 rfl false (zn_eq (zq_a _) (by decide) (zr_t _) ⟨by decide, by decide⟩ c39) rfl ?_
        have h43 := h41 c39
        refine am_wh 2 (pc1 := 93) (lv1 := [(0, .ref 26), (1, .int a1)]) (st1 := [.int 1]) rfl ?_
        refine am_wr rfl rfl rfl ?_
        exact ⟨_, _, rfl, rfl, h43⟩
  by_cases c44 : (s.1 9).toInt = 23
  · refine am_wsw (tgt := 141) rfl (by rw [(show (s.1 9) = zI (s.1 9).toInt from (zq_a _)), c44]; rfl) ?_
    have h45 := h3 c44
    refine am_wh 2 (pc1 := 144) (lv1 := [(0, .ref 26), (1, .int a1)]) (st1 := [.int 23, .ref 26]) rfl ?_
    refine am_wc rfl rfl rfl ?_
    refine am_ww h45 ?_
    rintro _ _ ⟨v48, s46, rfl, rfl, h47⟩
    show am_W _ _ 50 147 [(0, .ref 26), (1, .int a1)] [.int v48] (zH s46) _
    obtain ⟨h50, h51⟩ := h47
    by_cases c49 : v48.toInt = 0
    · refine am_wb1 rfl true (zt_eq (zq_a _) (by decide) (zr_t _) ⟨by decide, by decide⟩ c49) rfl ?_
      have h52 := h50 c49
      refine am_wh 1 (pc1 := 163) (lv1 := [(0, .ref 26), (1, .int a1)]) (st1 := [.int 0]) rfl ?_
      refine am_wr rfl rfl rfl ?_
      exact ⟨_, _, rfl, rfl, h52⟩
    · refine am_wb1 rfl false (zn_eq (zq_a _) (by decide) (zr_t _) ⟨by decide, by decide⟩ c49) rfl ?_
      have h53 := h51 c49
      refine am_wh 2 (pc1 := 152) (lv1 := [(0, .ref 26), (1, .int a1)]) (st1 := [.int 2, .ref 26]) rfl ?_
      refine am_wc rfl rfl rfl ?_
      refine am_ww h53 ?_
      rintro _ _ ⟨v56, s54, rfl, rfl, h55⟩
      show am_W _ _ 50 155 [(0, .ref 26), (1, .int a1)] [.int v56] (zH s54) _
      obtain ⟨h58, h59⟩ := h55
      by_cases c57 : v56.toInt = 0
      · refine am_wb1 rfl true (zt_eq (zq_a _) (by decide) (zr_t _) ⟨by decide, by decide⟩ c57) rfl ?_
        have h60 := h58 c57
        refine am_wh 1 (pc1 := 163) (lv1 := [(0, .ref 26), (1, .int a1)]) (st1 := [.int 0]) rfl ?_
        refine am_wr rfl rfl rfl ?_
        exact ⟨_, _, rfl, rfl, h60⟩
      · refine am_wb1 rfl false (zn_eq (zq_a _) (by decide) (zr_t _) ⟨by decide, by decide⟩ c57) rfl ?_
        have h61 := h59 c57
        refine am_wh 2 (pc1 := 163) (lv1 := [(0, .ref 26), (1, .int a1)]) (st1 := [.int 1]) rfl ?_
        refine am_wr rfl rfl rfl ?_
        exact ⟨_, _, rfl, rfl, h61⟩
  by_cases c62 : (s.1 9).toInt = 26
  · refine am_wsw (tgt := 94) rfl (by rw [(show (s.1 9) = zI (s.1 9).toInt from (zq_a _)), c62]; rfl) ?_
    have h63 := h4 c62
    refine am_wh 2 (pc1 := 97) (lv1 := [(0, .ref 26), (1, .int a1)]) (st1 := [.int 26, .ref 26]) rfl ?_
    refine am_wc rfl rfl rfl ?_
    refine am_ww h63 ?_
    rintro _ _ ⟨v66, s64, rfl, rfl, h65⟩
    show am_W _ _ 50 100 [(0, .ref 26), (1, .int a1)] [.int v66] (zH s64) _
    obtain ⟨h68, h69⟩ := h65
    by_cases c67 : v66.toInt = 0
    · refine am_wb1 rfl true (zt_eq (zq_a _) (by decide) (zr_t _) ⟨by decide, by decide⟩ c67) rfl ?_
      have h70 := h68 c67
      refine am_wh 1 (pc1 := 117) (lv1 := [(0, .ref 26), (1, .int a1)]) (st1 := [.int 0]) rfl ?_
      refine am_wr rfl rfl rfl ?_
      exact ⟨_, _, rfl, rfl, h70⟩
    · refine am_wb1 rfl false (zn_eq (zq_a _) (by decide) (zr_t _) ⟨by decide, by decide⟩ c67) rfl ?_
      have h71 := h69 c67
      refine am_wh 2 (pc1 := 106) (lv1 := [(0, .ref 26), (1, .int a1)]) (st1 := [.int 8, .ref 26]) rfl ?_
      refine am_wc rfl rfl rfl ?_
      refine am_ww h71 ?_
      rintro _ _ ⟨v74, s72, rfl, rfl, h73⟩
      show am_W _ _ 50 109 [(0, .ref 26), (1, .int a1)] [.int v74] (zH s72) _
      obtain ⟨h76, h77⟩ := h73
      by_cases c75 : v74.toInt = 0
      · refine am_wb1 rfl true (zt_eq (zq_a _) (by decide) (zr_t _) ⟨by decide, by decide⟩ c75) rfl ?_
        have h78 := h76 c75
        refine am_wh 1 (pc1 := 117) (lv1 := [(0, .ref 26), (1, .int a1)]) (st1 := [.int 0]) rfl ?_
        refine am_wr rfl rfl rfl ?_
        exact ⟨_, _, rfl, rfl, h78⟩
      · refine am_wb1 rfl false (zn_eq (zq_a _) (by decide) (zr_t _) ⟨by decide, by decide⟩ c75) rfl ?_
        have h79 := h77 c75
        refine am_wh 2 (pc1 := 117) (lv1 := [(0, .ref 26), (1, .int a1)]) (st1 := [.int 1]) rfl ?_
        refine am_wr rfl rfl rfl ?_
        exact ⟨_, _, rfl, rfl, h79⟩
  by_cases c80 : (s.1 9).toInt = 27
  · refine am_wsw (tgt := 64) rfl (by rw [(show (s.1 9) = zI (s.1 9).toInt from (zq_a _)), c80]; rfl) ?_
    have h81 := h5 c80
    refine am_wh 2 (pc1 := 67) (lv1 := [(0, .ref 26), (1, .int a1)]) (st1 := [.int 27, .ref 26]) rfl ?_
    refine am_wc rfl rfl rfl ?_
    refine am_ww h81 ?_
    rintro _ _ ⟨v84, s82, rfl, rfl, h83⟩
    show am_W _ _ 50 70 [(0, .ref 26), (1, .int a1)] [.int v84] (zH s82) _
    obtain ⟨o85, h86⟩ := h83
    refine am_wr rfl rfl (zr_b o85) ?_
    exact ⟨_, _, rfl, rfl, h86⟩
  by_cases c87 : (s.1 9).toInt = 28
  · refine am_wsw (tgt := 164) rfl (by rw [(show (s.1 9) = zI (s.1 9).toInt from (zq_a _)), c87]; rfl) ?_
    have h88 := h6 c87
    refine am_wh 1 (pc1 := 165) (lv1 := [(0, .ref 26), (1, .int a1)]) (st1 := [.ref 26]) rfl ?_
    refine am_wc rfl rfl rfl ?_
    refine am_ww h88 ?_
    rintro _ _ ⟨s89, rfl, rfl, h90⟩
    show am_W _ _ 50 168 [(0, .ref 26), (1, .int a1)] [] (zH s89) _
    refine am_wh 2 (pc1 := 171) (lv1 := [(0, .ref 26), (1, .int a1)]) (st1 := [.int 28, .ref 26]) rfl ?_
    refine am_wc rfl rfl rfl ?_
    refine am_ww h90 ?_
    rintro _ _ ⟨v93, s91, rfl, rfl, h92⟩
    show am_W _ _ 50 174 [(0, .ref 26), (1, .int a1)] [.int v93] (zH s91) _
    obtain ⟨h95, h96⟩ := h92
    by_cases c94 : v93.toInt = 0
    · refine am_wb1 rfl true (zt_eq (zq_a _) (by decide) (zr_t _) ⟨by decide, by decide⟩ c94) rfl ?_
      have h97 := h95 c94
      refine am_wh 1 (pc1 := 198) (lv1 := [(0, .ref 26), (1, .int a1)]) (st1 := [.int 0]) rfl ?_
      refine am_wr rfl rfl rfl ?_
      exact ⟨_, _, rfl, rfl, h97⟩
    · refine am_wb1 rfl false (zn_eq (zq_a _) (by decide) (zr_t _) ⟨by decide, by decide⟩ c94) rfl ?_
      have h98 := h96 c94
      refine am_wh 3 (pc1 := 182) (lv1 := [(0, .ref 26), (1, .int a1)]) (st1 := [.int 4, .int (s91.1 9)]) rfl ?_
      obtain ⟨h100, h101⟩ := h98
      by_cases c99 : (s91.1 9).toInt = 4
      · refine am_wb2 rfl true (zt_eq (zq_a _) (by decide) (zr_t _) ⟨by decide, by decide⟩ c99) rfl ?_
        have h102 := h100 c99
        refine am_wh 2 (pc1 := 198) (lv1 := [(0, .ref 26), (1, .int a1)]) (st1 := [.int 1]) rfl ?_
        refine am_wr rfl rfl rfl ?_
        exact ⟨_, _, rfl, rfl, h102⟩
      · refine am_wb2 rfl false (zn_eq (zq_a _) (by decide) (zr_t _) ⟨by decide, by decide⟩ c99) rfl ?_
        have h103 := h101 c99
        refine am_wh 2 (pc1 := 187) (lv1 := [(0, .ref 26), (1, .int a1)]) (st1 := [.int a1, .ref 26]) rfl ?_
        refine am_wc rfl rfl rfl ?_
        refine am_ww h103 ?_
        rintro _ _ ⟨v106, s104, rfl, rfl, h105⟩
        show am_W _ _ 50 190 [(0, .ref 26), (1, .int a1)] [.int v106] (zH s104) _
        obtain ⟨h108, h109⟩ := h105
        by_cases c107 : v106.toInt = 0
        · refine am_wb1 rfl true (zt_eq (zq_a _) (by decide) (zr_t _) ⟨by decide, by decide⟩ c107) rfl ?_
          have h110 := h108 c107
          refine am_wh 1 (pc1 := 198) (lv1 := [(0, .ref 26), (1, .int a1)]) (st1 := [.int 0]) rfl ?_
          refine am_wr rfl rfl rfl ?_
          exact ⟨_, _, rfl, rfl, h110⟩
        · refine am_wb1 rfl false (zn_eq (zq_a _) (by decide) (zr_t _) ⟨by decide, by decide⟩ c107) rfl ?_
          have h111 := h109 c107
          refine am_wh 2 (pc1 := 198) (lv1 := [(0, .ref 26), (1, .int a1)]) (st1 := [.int 1]) rfl ?_
          refine am_wr rfl rfl rfl ?_
          exact ⟨_, _, rfl, rfl, h111⟩
  have c113 : ¬ (s.1 9).toInt = 18 ∧ ¬ (s.1 9).toInt = 21 ∧ ¬ (s.1 9).toInt = 23 ∧ ¬ (s.1 9).toInt = 26 ∧ ¬ (s.1 9).toInt = 27 ∧ ¬ (s.1 9).toInt = 28 := by omega
  refine am_wsw (tgt := 199) rfl ?_ ?_
  · rw [(show (s.1 9) = zI (s.1 9).toInt from (zq_a _))]
    rcases (show ((s.1 9).toInt < 18 ∨ 28 < (s.1 9).toInt) ∨ (s.1 9).toInt = 19 ∨ (s.1 9).toInt = 20 ∨ (s.1 9).toInt = 22 ∨ (s.1 9).toInt = 24 ∨ (s.1 9).toInt = 25 by omega) with e | e | e | e | e | e
    · unfold am_ts
      rw [zI_t (zr_t _), if_pos e]
      rfl
    · rw [e]; rfl
    · rw [e]; rfl
    · rw [e]; rfl
    · rw [e]; rfl
    · rw [e]; rfl
  have h112 := h7 c113
  refine am_wh 2 (pc1 := 202) (lv1 := [(0, .ref 26), (1, .int a1)]) (st1 := [.int 61, .ref 26]) rfl ?_
  refine am_wc rfl rfl rfl ?_
  refine am_ww h112 ?_
  rintro _ _ ⟨v116, s114, rfl, rfl, h115⟩
  show am_W _ _ 50 205 [(0, .ref 26), (1, .int a1)] [.int v116] (zH s114) _
  obtain ⟨h118, h119⟩ := h115
  by_cases c117 : v116.toInt = 0
  · refine am_wb1 rfl true (zt_eq (zq_a _) (by decide) (zr_t _) ⟨by decide, by decide⟩ c117) rfl ?_
    have h120 := h118 c117
    refine am_wh 2 (pc1 := 241) (lv1 := [(0, .ref 26), (1, .int a1)]) (st1 := [.int a1, .ref 26]) rfl ?_
    refine am_wc rfl rfl rfl ?_
    refine am_ww h120 ?_
    rintro _ _ ⟨v123, s121, rfl, rfl, h122⟩
    show am_W _ _ 50 244 [(0, .ref 26), (1, .int a1)] [.int v123] (zH s121) _
    obtain ⟨o124, h125⟩ := h122
    refine am_wr rfl rfl (zr_b o124) ?_
    exact ⟨_, _, rfl, rfl, h125⟩
  · refine am_wb1 rfl false (zn_eq (zq_a _) (by decide) (zr_t _) ⟨by decide, by decide⟩ c117) rfl ?_
    have h126 := h119 c117
    refine am_wh 2 (pc1 := 210) (lv1 := [(0, .ref 26), (1, .int a1)]) (st1 := [.int 2, .ref 26]) rfl ?_
    refine am_wc rfl rfl rfl ?_
    refine am_ww h126 ?_
    rintro _ _ ⟨v129, s127, rfl, rfl, h128⟩
    show am_W _ _ 50 213 [(0, .ref 26), (1, .int a1)] [.int v129] (zH s127) _
    obtain ⟨h131, h132⟩ := h128
    by_cases c130 : v129.toInt = 0
    · refine am_wb1 rfl true (zt_eq (zq_a _) (by decide) (zr_t _) ⟨by decide, by decide⟩ c130) rfl ?_
      have h133 := h131 c130
      refine am_wh 1 (pc1 := 238) (lv1 := [(0, .ref 26), (1, .int a1)]) (st1 := [.int 0]) rfl ?_
      refine am_wr rfl rfl rfl ?_
      exact ⟨_, _, rfl, rfl, h133⟩
    · refine am_wb1 rfl false (zn_eq (zq_a _) (by decide) (zr_t _) ⟨by decide, by decide⟩ c130) rfl ?_
      have h134 := h132 c130
      refine am_wh 2 (pc1 := 219) (lv1 := [(0, .ref 26), (1, .int a1)]) (st1 := [.int 61, .ref 26]) rfl ?_
      refine am_wc rfl rfl rfl ?_
      refine am_ww h134 ?_
      rintro _ _ ⟨v137, s135, rfl, rfl, h136⟩
      show am_W _ _ 50 222 [(0, .ref 26), (1, .int a1)] [.int v137] (zH s135) _
      obtain ⟨h139, h140⟩ := h136
      by_cases c138 : v137.toInt = 0
      · refine am_wb1 rfl true (zt_eq (zq_a _) (by decide) (zr_t _) ⟨by decide, by decide⟩ c138) rfl ?_
        have h141 := h139 c138
        refine am_wh 1 (pc1 := 238) (lv1 := [(0, .ref 26), (1, .int a1)]) (st1 := [.int 0]) rfl ?_
        refine am_wr rfl rfl rfl ?_
        exact ⟨_, _, rfl, rfl, h141⟩
      · refine am_wb1 rfl false (zn_eq (zq_a _) (by decide) (zr_t _) ⟨by decide, by decide⟩ c138) rfl ?_
        have h142 := h140 c138
        refine am_wh 2 (pc1 := 227) (lv1 := [(0, .ref 26), (1, .int a1)]) (st1 := [.int a1, .ref 26]) rfl ?_
        refine am_wc rfl rfl rfl ?_
        refine am_ww h142 ?_
        rintro _ _ ⟨v145, s143, rfl, rfl, h144⟩
        show am_W _ _ 50 230 [(0, .ref 26), (1, .int a1)] [.int v145] (zH s143) _
        obtain ⟨h147, h148⟩ := h144
        by_cases c146 : v145.toInt = 0
        · refine am_wb1 rfl true (zt_eq (zq_a _) (by decide) (zr_t _) ⟨by decide, by decide⟩ c146) rfl ?_
          have h149 := h147 c146
          refine am_wh 1 (pc1 := 238) (lv1 := [(0, .ref 26), (1, .int a1)]) (st1 := [.int 0]) rfl ?_
          refine am_wr rfl rfl rfl ?_
          exact ⟨_, _, rfl, rfl, h149⟩
        · refine am_wb1 rfl false (zn_eq (zq_a _) (by decide) (zr_t _) ⟨by decide, by decide⟩ c146) rfl ?_
          have h150 := h148 c146
          refine am_wh 2 (pc1 := 238) (lv1 := [(0, .ref 26), (1, .int a1)]) (st1 := [.int 1]) rfl ?_
          refine am_wr rfl rfl rfl ?_
          exact ⟨_, _, rfl, rfl, h150⟩
set_option maxRecDepth 100000 in
theorem vc_51_0 (xs : Option (List Int32)) (d : Nat) (s : zS)  (Q : zS → Prop) (h : ((s.1 16).toInt = (-1) → (zWi xs d 71 0 [(0, .ref 13), (1, .int (s.1 12))] s (fun v7 s5 => (v7.toInt = 1 → (Q s5)) ∧ (¬ v7.toInt = 1 → (Q (zf s5 16 (s5.1 10))))))) ∧ (¬ (s.1 16).toInt = (-1) → (Q s))) : zWv xs (d + 1) 51 0 [(0, .ref 26)] s Q := by
  unfold zWv
  refine am_wh 3 (pc1 := 5) (lv1 := [(0, .ref 26)]) (st1 := [.int (-1), .int (s.1 16)]) rfl ?_
  obtain ⟨h2, h3⟩ := h
  by_cases c1 : (s.1 16).toInt = (-1)
  · refine am_wb2 rfl false (zn_ne (zq_a _) (by decide) (zr_t _) ⟨by decide, by decide⟩ c1) rfl ?_
    have h4 := h2 c1
    refine am_wh 4 (pc1 := 16) (lv1 := [(0, .ref 26)]) (st1 := [.int (s.1 12), .ref 13]) rfl ?_
    refine am_wc rfl rfl rfl ?_
    refine am_ww h4 ?_
    rintro _ _ ⟨v7, s5, rfl, rfl, h6⟩
    show am_W _ _ 51 19 [(0, .ref 26)] [.int v7] (zH s5) _
    refine am_wh 1 (pc1 := 20) (lv1 := [(0, .ref 26)]) (st1 := [.int 1, .int v7]) rfl ?_
    obtain ⟨h9, h10⟩ := h6
    by_cases c8 : v7.toInt = 1
    · refine am_wb2 rfl true (zt_eq (zq_a _) (by decide) (zr_t _) ⟨by decide, by decide⟩ c8) rfl ?_
      have h11 := h9 c8
      refine am_wr rfl rfl rfl ?_
      exact ⟨_, rfl, rfl, h11⟩
    · refine am_wb2 rfl false (zn_eq (zq_a _) (by decide) (zr_t _) ⟨by decide, by decide⟩ c8) rfl ?_
      have h12 := h10 c8
      refine am_wh 3 (pc1 := 28) (lv1 := [(0, .ref 26)]) (st1 := [.int (s5.1 10), .ref 26]) rfl ?_
      refine am_w0 (z := (31, [(0, .ref 26)], [], zH (zf s5 16 (s5.1 10)))) rfl rfl (zp_16 ) ?_
      refine am_wr rfl rfl rfl ?_
      exact ⟨_, rfl, rfl, h12⟩
  · refine am_wb2 rfl true (zt_ne (zq_a _) (by decide) (zr_t _) ⟨by decide, by decide⟩ c1) rfl ?_
    have h13 := h3 c1
    refine am_wr rfl rfl rfl ?_
    exact ⟨_, rfl, rfl, h13⟩
set_option maxRecDepth 100000 in
theorem vc_52_0 (xs : Option (List Int32)) (d : Nat) (s : zS)  (Q : Int32 → zS → Prop) (h : ((s.1 9).toInt = 0 → (zWi xs d 53 0 [(0, .ref 26), (1, .int 18)] s (fun v7 s5 => (v7.toInt = 0 → (Q 0 s5)) ∧ (¬ v7.toInt = 0 → (Q 1 s5))))) ∧ (¬ (s.1 9).toInt = 0 → (Q 1 s))) : zWi xs (d + 1) 52 0 [(0, .ref 26)] s Q := by
  unfold zWi
  refine am_wh 2 (pc1 := 4) (lv1 := [(0, .ref 26)]) (st1 := [.int (s.1 9)]) rfl ?_
  obtain ⟨h2, h3⟩ := h
  by_cases c1 : (s.1 9).toInt = 0
  · refine am_wb1 rfl false (zn_ne (zq_a _) (by decide) (zr_t _) ⟨by decide, by decide⟩ c1) rfl ?_
    have h4 := h2 c1
    refine am_wh 2 (pc1 := 10) (lv1 := [(0, .ref 26)]) (st1 := [.int 18, .ref 26]) rfl ?_
    refine am_wc rfl rfl rfl ?_
    refine am_ww h4 ?_
    rintro _ _ ⟨v7, s5, rfl, rfl, h6⟩
    show am_W _ _ 52 13 [(0, .ref 26)] [.int v7] (zH s5) _
    obtain ⟨h9, h10⟩ := h6
    by_cases c8 : v7.toInt = 0
    · refine am_wb1 rfl true (zt_eq (zq_a _) (by decide) (zr_t _) ⟨by decide, by decide⟩ c8) rfl ?_
      have h11 := h9 c8
      refine am_wh 1 (pc1 := 21) (lv1 := [(0, .ref 26)]) (st1 := [.int 0]) rfl ?_
      refine am_wr rfl rfl rfl ?_
      exact ⟨_, _, rfl, rfl, h11⟩
    · refine am_wb1 rfl false (zn_eq (zq_a _) (by decide) (zr_t _) ⟨by decide, by decide⟩ c8) rfl ?_
      have h12 := h10 c8
      refine am_wh 2 (pc1 := 21) (lv1 := [(0, .ref 26)]) (st1 := [.int 1]) rfl ?_
      refine am_wr rfl rfl rfl ?_
      exact ⟨_, _, rfl, rfl, h12⟩
  · refine am_wb1 rfl true (zt_ne (zq_a _) (by decide) (zr_t _) ⟨by decide, by decide⟩ c1) rfl ?_
    have h13 := h3 c1
    refine am_wh 2 (pc1 := 21) (lv1 := [(0, .ref 26)]) (st1 := [.int 1]) rfl ?_
    refine am_wr rfl rfl rfl ?_
    exact ⟨_, _, rfl, rfl, h13⟩
set_option maxRecDepth 100000 in
theorem vc_53_0 (xs : Option (List Int32)) (d : Nat) (s : zS) (a1 : Int32) (Q : Int32 → zS → Prop) (h : zWi xs d 64 0 [(0, .ref 26), (1, .int a1)] s (fun v3 s1 => zWi xs (d + 1) 53 8 [(0, .ref 26), (1, .int a1), (2, .int v3), (3, .int 0)] s1 Q)) : zWi xs (d + 1) 53 0 [(0, .ref 26), (1, .int a1)] s Q := by
  unfold zWi
  refine am_wh 2 (pc1 := 2) (lv1 := [(0, .ref 26), (1, .int a1)]) (st1 := [.int a1, .ref 26]) rfl ?_
  refine am_wc rfl rfl rfl ?_
  refine am_ww h ?_
  rintro _ _ ⟨v3, s1, rfl, rfl, h2⟩
  show am_W _ _ 53 5 [(0, .ref 26), (1, .int a1)] [.int v3] (zH s1) _
  refine am_wh 3 (pc1 := 8) (lv1 := [(3, .int 0), (2, .int v3), (0, .ref 26), (1, .int a1)]) (st1 := []) rfl ?_
  exact am_wm h2 ⟨rfl, rfl, rfl, rfl, trivial⟩
set_option maxRecDepth 100000 in
theorem vc_53_8 (xs : Option (List Int32)) (d : Nat) (s : zS) (a1 : Int32) (a2 : Int32) (a3 : Int32) (Q : Int32 → zS → Prop) (h : (a3.toInt < (s.1 2).toInt → ((a2.toInt = 0 → ((a2 = 0 ∨ a2 = 1) ∧ Q a2 s)) ∧ (¬ a2.toInt = 0 → (((s.1 9).toInt = 44 → (zWi xs d 62 0 [(0, .ref 26), (1, .int 44)] s (fun v18 s16 => (v18.toInt = 0 → (zWi xs (d + 1) 53 8 [(0, .ref 26), (1, .int a1), (2, .int 0), (3, .int (a3 + 1))] s16 Q)) ∧ (¬ v18.toInt = 0 → (zWi xs d 64 0 [(0, .ref 26), (1, .int a1)] s16 (fun v26 s24 => (v26.toInt = 0 → (zWi xs (d + 1) 53 8 [(0, .ref 26), (1, .int a1), (2, .int 0), (3, .int (a3 + 1))] s24 Q)) ∧ (¬ v26.toInt = 0 → (zWi xs (d + 1) 53 8 [(0, .ref 26), (1, .int a1), (2, .int 1), (3, .int (a3 + 1))] s24 Q)))))))) ∧ (¬ (s.1 9).toInt = 44 → ((a2 = 0 ∨ a2 = 1) ∧ Q a2 s)))))) ∧ (¬ a3.toInt < (s.1 2).toInt → ((a2 = 0 ∨ a2 = 1) ∧ Q a2 s))) : zWi xs (d + 1) 53 8 [(0, .ref 26), (1, .int a1), (2, .int a2), (3, .int a3)] s Q := by
  unfold zWi
  refine am_wh 4 (pc1 := 16) (lv1 := [(0, .ref 26), (1, .int a1), (2, .int a2), (3, .int a3)]) (st1 := [.int (s.1 2), .int a3]) rfl ?_
  obtain ⟨h2, h3⟩ := h
  by_cases c1 : a3.toInt < (s.1 2).toInt
  · refine am_wb2 rfl false (zn_ge (zq_a _) (zq_a _) (zr_t _) (zr_t _) c1) rfl ?_
    have h4 := h2 c1
    refine am_wh 1 (pc1 := 20) (lv1 := [(0, .ref 26), (1, .int a1), (2, .int a2), (3, .int a3)]) (st1 := [.int a2]) rfl ?_
    obtain ⟨h6, h7⟩ := h4
    by_cases c5 : a2.toInt = 0
    · refine am_wb1 rfl true (zt_eq (zq_a _) (by decide) (zr_t _) ⟨by decide, by decide⟩ c5) rfl ?_
      have h8 := h6 c5
      refine am_wh 1 (pc1 := 62) (lv1 := [(0, .ref 26), (1, .int a1), (2, .int a2), (3, .int a3)]) (st1 := [.int a2]) rfl ?_
      obtain ⟨o9, h10⟩ := h8
      refine am_wr rfl rfl (zr_b o9) ?_
      exact ⟨_, _, rfl, rfl, h10⟩
    · refine am_wb1 rfl false (zn_eq (zq_a _) (by decide) (zr_t _) ⟨by decide, by decide⟩ c5) rfl ?_
      have h11 := h7 c5
      refine am_wh 3 (pc1 := 29) (lv1 := [(0, .ref 26), (1, .int a1), (2, .int a2), (3, .int a3)]) (st1 := [.int 44, .int (s.1 9)]) rfl ?_
      obtain ⟨h13, h14⟩ := h11
      by_cases c12 : (s.1 9).toInt = 44
      · refine am_wb2 rfl false (zn_ne (zq_a _) (by decide) (zr_t _) ⟨by decide, by decide⟩ c12) rfl ?_
        have h15 := h13 c12
        refine am_wh 2 (pc1 := 35) (lv1 := [(0, .ref 26), (1, .int a1), (2, .int a2), (3, .int a3)]) (st1 := [.int 44, .ref 26]) rfl ?_
        refine am_wc rfl rfl rfl ?_
        refine am_ww h15 ?_
        rintro _ _ ⟨v18, s16, rfl, rfl, h17⟩
        show am_W _ _ 53 38 [(0, .ref 26), (1, .int a1), (2, .int a2), (3, .int a3)] [.int v18] (zH s16) _
        obtain ⟨h20, h21⟩ := h17
        by_cases c19 : v18.toInt = 0
        · refine am_wb1 rfl true (zt_eq (zq_a _) (by decide) (zr_t _) ⟨by decide, by decide⟩ c19) rfl ?_
          have h22 := h20 c19
          refine am_wh 4 (pc1 := 8) (lv1 := [(3, .int (a3 + 1)), (2, .int 0), (0, .ref 26), (1, .int a1)]) (st1 := []) rfl ?_
          exact am_wm h22 ⟨rfl, rfl, rfl, rfl, trivial⟩
        · refine am_wb1 rfl false (zn_eq (zq_a _) (by decide) (zr_t _) ⟨by decide, by decide⟩ c19) rfl ?_
          have h23 := h21 c19
          refine am_wh 2 (pc1 := 43) (lv1 := [(0, .ref 26), (1, .int a1), (2, .int a2), (3, .int a3)]) (st1 := [.int a1, .ref 26]) rfl ?_
          refine am_wc rfl rfl rfl ?_
          refine am_ww h23 ?_
          rintro _ _ ⟨v26, s24, rfl, rfl, h25⟩
          show am_W _ _ 53 46 [(0, .ref 26), (1, .int a1), (2, .int a2), (3, .int a3)] [.int v26] (zH s24) _
          obtain ⟨h28, h29⟩ := h25
          by_cases c27 : v26.toInt = 0
          · refine am_wb1 rfl true (zt_eq (zq_a _) (by decide) (zr_t _) ⟨by decide, by decide⟩ c27) rfl ?_
            have h30 := h28 c27
            refine am_wh 4 (pc1 := 8) (lv1 := [(3, .int (a3 + 1)), (2, .int 0), (0, .ref 26), (1, .int a1)]) (st1 := []) rfl ?_
            exact am_wm h30 ⟨rfl, rfl, rfl, rfl, trivial⟩
          · refine am_wb1 rfl false (zn_eq (zq_a _) (by decide) (zr_t _) ⟨by decide, by decide⟩ c27) rfl ?_
            have h31 := h29 c27
            refine am_wh 5 (pc1 := 8) (lv1 := [(3, .int (a3 + 1)), (2, .int 1), (0, .ref 26), (1, .int a1)]) (st1 := []) rfl ?_
            exact am_wm h31 ⟨rfl, rfl, rfl, rfl, trivial⟩
      · refine am_wb2 rfl true (zt_ne (zq_a _) (by decide) (zr_t _) ⟨by decide, by decide⟩ c12) rfl ?_
        have h32 := h14 c12
        refine am_wh 1 (pc1 := 62) (lv1 := [(0, .ref 26), (1, .int a1), (2, .int a2), (3, .int a3)]) (st1 := [.int a2]) rfl ?_
        obtain ⟨o33, h34⟩ := h32
        refine am_wr rfl rfl (zr_b o33) ?_
        exact ⟨_, _, rfl, rfl, h34⟩
  · refine am_wb2 rfl true (zt_ge (zq_a _) (zq_a _) (zr_t _) (zr_t _) c1) rfl ?_
    have h35 := h3 c1
    refine am_wh 1 (pc1 := 62) (lv1 := [(0, .ref 26), (1, .int a1), (2, .int a2), (3, .int a3)]) (st1 := [.int a2]) rfl ?_
    obtain ⟨o36, h37⟩ := h35
    refine am_wr rfl rfl (zr_b o36) ?_
    exact ⟨_, _, rfl, rfl, h37⟩
set_option maxRecDepth 100000 in
theorem vc_54_0 (xs : Option (List Int32)) (d : Nat) (s : zS) (a1 : Int32) (Q : Int32 → zS → Prop) (h : ((s.1 9).toInt = 25 → (zWi xs d 55 0 [(0, .ref 26), (1, .int a1)] s (fun v7 s5 => (v7 = 0 ∨ v7 = 1) ∧ Q v7 s5))) ∧ (¬ (s.1 9).toInt = 25 → (zWi xs d 56 0 [(0, .ref 26), (1, .int a1)] s (fun v13 s11 => zWi xs (d + 1) 54 29 [(0, .ref 26), (1, .int a1), (2, .int (s.1 10)), (3, .int v13), (4, .int 0)] s11 Q)))) : zWi xs (d + 1) 54 0 [(0, .ref 26), (1, .int a1)] s Q := by
  unfold zWi
  refine am_wh 3 (pc1 := 6) (lv1 := [(0, .ref 26), (1, .int a1)]) (st1 := [.int 25, .int (s.1 9)]) rfl ?_
  obtain ⟨h2, h3⟩ := h
  by_cases c1 : (s.1 9).toInt = 25
  · refine am_wb2 rfl false (zn_ne (zq_a _) (by decide) (zr_t _) ⟨by decide, by decide⟩ c1) rfl ?_
    have h4 := h2 c1
    refine am_wh 2 (pc1 := 11) (lv1 := [(0, .ref 26), (1, .int a1)]) (st1 := [.int a1, .ref 26]) rfl ?_
    refine am_wc rfl rfl rfl ?_
    refine am_ww h4 ?_
    rintro _ _ ⟨v7, s5, rfl, rfl, h6⟩
    show am_W _ _ 54 14 [(0, .ref 26), (1, .int a1)] [.int v7] (zH s5) _
    obtain ⟨o8, h9⟩ := h6
    refine am_wr rfl rfl (zr_b o8) ?_
    exact ⟨_, _, rfl, rfl, h9⟩
  · refine am_wb2 rfl true (zt_ne (zq_a _) (by decide) (zr_t _) ⟨by decide, by decide⟩ c1) rfl ?_
    have h10 := h3 c1
    refine am_wh 5 (pc1 := 22) (lv1 := [(2, .int (s.1 10)), (0, .ref 26), (1, .int a1)]) (st1 := [.int a1, .ref 26]) rfl ?_
    refine am_wc rfl rfl rfl ?_
    refine am_ww h10 ?_
    rintro _ _ ⟨v13, s11, rfl, rfl, h12⟩
    show am_W _ _ 54 25 [(2, .int (s.1 10)), (0, .ref 26), (1, .int a1)] [.int v13] (zH s11) _
    refine am_wh 3 (pc1 := 29) (lv1 := [(4, .int 0), (3, .int v13), (2, .int (s.1 10)), (0, .ref 26), (1, .int a1)]) (st1 := []) rfl ?_
    exact am_wm h12 ⟨rfl, rfl, rfl, rfl, rfl, trivial⟩
set_option maxRecDepth 100000 in
theorem vc_54_29 (xs : Option (List Int32)) (d : Nat) (s : zS) (a1 : Int32) (a2 : Int32) (a3 : Int32) (a4 : Int32) (Q : Int32 → zS → Prop) (h : (a4.toInt < (s.1 2).toInt → ((a3.toInt = 0 → ((a3 = 0 ∨ a3 = 1) ∧ Q a3 s)) ∧ (¬ a3.toInt = 0 → (((s.1 9).toInt = 43 → (zWi xs d 62 0 [(0, .ref 26), (1, .int 43)] s (fun v18 s16 => (v18.toInt = 0 → (zWv xs d 24 0 [(0, .ref 10), (1, .int a2), (2, .int (s16.1 11))] s16 (fun s23 => zWi xs (d + 1) 54 29 [(0, .ref 26), (1, .int a1), (2, .int a2), (3, .int 0), (4, .int (a4 + 1))] s23 Q))) ∧ (¬ v18.toInt = 0 → (zWi xs d 56 0 [(0, .ref 26), (1, .int a1)] s16 (fun v28 s26 => (v28.toInt = 0 → (zWv xs d 24 0 [(0, .ref 10), (1, .int a2), (2, .int (s26.1 11))] s26 (fun s33 => zWi xs (d + 1) 54 29 [(0, .ref 26), (1, .int a1), (2, .int a2), (3, .int 0), (4, .int (a4 + 1))] s33 Q))) ∧ (¬ v28.toInt = 0 → (zWv xs d 24 0 [(0, .ref 10), (1, .int a2), (2, .int (s26.1 11))] s26 (fun s36 => zWi xs (d + 1) 54 29 [(0, .ref 26), (1, .int a1), (2, .int a2), (3, .int 1), (4, .int (a4 + 1))] s36 Q))))))))) ∧ (¬ (s.1 9).toInt = 43 → ((a3 = 0 ∨ a3 = 1) ∧ Q a3 s)))))) ∧ (¬ a4.toInt < (s.1 2).toInt → ((a3 = 0 ∨ a3 = 1) ∧ Q a3 s))) : zWi xs (d + 1) 54 29 [(0, .ref 26), (1, .int a1), (2, .int a2), (3, .int a3), (4, .int a4)] s Q := by
  unfold zWi
  refine am_wh 4 (pc1 := 38) (lv1 := [(0, .ref 26), (1, .int a1), (2, .int a2), (3, .int a3), (4, .int a4)]) (st1 := [.int (s.1 2), .int a4]) rfl ?_
  obtain ⟨h2, h3⟩ := h
  by_cases c1 : a4.toInt < (s.1 2).toInt
  · refine am_wb2 rfl false (zn_ge (zq_a _) (zq_a _) (zr_t _) (zr_t _) c1) rfl ?_
    have h4 := h2 c1
    refine am_wh 1 (pc1 := 42) (lv1 := [(0, .ref 26), (1, .int a1), (2, .int a2), (3, .int a3), (4, .int a4)]) (st1 := [.int a3]) rfl ?_
    obtain ⟨h6, h7⟩ := h4
    by_cases c5 : a3.toInt = 0
    · refine am_wb1 rfl true (zt_eq (zq_a _) (by decide) (zr_t _) ⟨by decide, by decide⟩ c5) rfl ?_
      have h8 := h6 c5
      refine am_wh 1 (pc1 := 96) (lv1 := [(0, .ref 26), (1, .int a1), (2, .int a2), (3, .int a3), (4, .int a4)]) (st1 := [.int a3]) rfl ?_
      obtain ⟨o9, h10⟩ := h8
      refine am_wr rfl rfl (zr_b o9) ?_
      exact ⟨_, _, rfl, rfl, h10⟩
    · refine am_wb1 rfl false (zn_eq (zq_a _) (by decide) (zr_t _) ⟨by decide, by decide⟩ c5) rfl ?_
      have h11 := h7 c5
      refine am_wh 3 (pc1 := 51) (lv1 := [(0, .ref 26), (1, .int a1), (2, .int a2), (3, .int a3), (4, .int a4)]) (st1 := [.int 43, .int (s.1 9)]) rfl ?_
      obtain ⟨h13, h14⟩ := h11
      by_cases c12 : (s.1 9).toInt = 43
      · refine am_wb2 rfl false (zn_ne (zq_a _) (by decide) (zr_t _) ⟨by decide, by decide⟩ c12) rfl ?_
        have h15 := h13 c12
        refine am_wh 2 (pc1 := 57) (lv1 := [(0, .ref 26), (1, .int a1), (2, .int a2), (3, .int a3), (4, .int a4)]) (st1 := [.int 43, .ref 26]) rfl ?_
        refine am_wc rfl rfl rfl ?_
        refine am_ww h15 ?_
        rintro _ _ ⟨v18, s16, rfl, rfl, h17⟩
        show am_W _ _ 54 60 [(0, .ref 26), (1, .int a1), (2, .int a2), (3, .int a3), (4, .int a4)] [.int v18] (zH s16) _
        obtain ⟨h20, h21⟩ := h17
        by_cases c19 : v18.toInt = 0
        · refine am_wb1 rfl true (zt_eq (zq_a _) (by decide) (zr_t _) ⟨by decide, by decide⟩ c19) rfl ?_
          have h22 := h20 c19
          refine am_wh 7 (pc1 := 86) (lv1 := [(3, .int 0), (0, .ref 26), (1, .int a1), (2, .int a2), (4, .int a4)]) (st1 := [.int (s16.1 11), .int a2, .ref 10]) rfl ?_
          refine am_wc rfl rfl rfl ?_
          refine am_ww h22 ?_
          rintro _ _ ⟨s23, rfl, rfl, h24⟩
          show am_W _ _ 54 89 [(3, .int 0), (0, .ref 26), (1, .int a1), (2, .int a2), (4, .int a4)] [] (zH s23) _
          refine am_wh 2 (pc1 := 29) (lv1 := [(4, .int (a4 + 1)), (3, .int 0), (0, .ref 26), (1, .int a1), (2, .int a2)]) (st1 := []) rfl ?_
          exact am_wm h24 ⟨rfl, rfl, rfl, rfl, rfl, trivial⟩
        · refine am_wb1 rfl false (zn_eq (zq_a _) (by decide) (zr_t _) ⟨by decide, by decide⟩ c19) rfl ?_
          have h25 := h21 c19
          refine am_wh 2 (pc1 := 65) (lv1 := [(0, .ref 26), (1, .int a1), (2, .int a2), (3, .int a3), (4, .int a4)]) (st1 := [.int a1, .ref 26]) rfl ?_
          refine am_wc rfl rfl rfl ?_
          refine am_ww h25 ?_
          rintro _ _ ⟨v28, s26, rfl, rfl, h27⟩
          show am_W _ _ 54 68 [(0, .ref 26), (1, .int a1), (2, .int a2), (3, .int a3), (4, .int a4)] [.int v28] (zH s26) _
          obtain ⟨h30, h31⟩ := h27
          by_cases c29 : v28.toInt = 0
          · refine am_wb1 rfl true (zt_eq (zq_a _) (by decide) (zr_t _) ⟨by decide, by decide⟩ c29) rfl ?_
            have h32 := h30 c29
            refine am_wh 7 (pc1 := 86) (lv1 := [(3, .int 0), (0, .ref 26), (1, .int a1), (2, .int a2), (4, .int a4)]) (st1 := [.int (s26.1 11), .int a2, .ref 10]) rfl ?_
            refine am_wc rfl rfl rfl ?_
            refine am_ww h32 ?_
            rintro _ _ ⟨s33, rfl, rfl, h34⟩
            show am_W _ _ 54 89 [(3, .int 0), (0, .ref 26), (1, .int a1), (2, .int a2), (4, .int a4)] [] (zH s33) _
            refine am_wh 2 (pc1 := 29) (lv1 := [(4, .int (a4 + 1)), (3, .int 0), (0, .ref 26), (1, .int a1), (2, .int a2)]) (st1 := []) rfl ?_
            exact am_wm h34 ⟨rfl, rfl, rfl, rfl, rfl, trivial⟩
          · refine am_wb1 rfl false (zn_eq (zq_a _) (by decide) (zr_t _) ⟨by decide, by decide⟩ c29) rfl ?_
            have h35 := h31 c29
            refine am_wh 8 (pc1 := 86) (lv1 := [(3, .int 1), (0, .ref 26), (1, .int a1), (2, .int a2), (4, .int a4)]) (st1 := [.int (s26.1 11), .int a2, .ref 10]) rfl ?_
            refine am_wc rfl rfl rfl ?_
            refine am_ww h35 ?_
            rintro _ _ ⟨s36, rfl, rfl, h37⟩
            show am_W _ _ 54 89 [(3, .int 1), (0, .ref 26), (1, .int a1), (2, .int a2), (4, .int a4)] [] (zH s36) _
            refine am_wh 2 (pc1 := 29) (lv1 := [(4, .int (a4 + 1)), (3, .int 1), (0, .ref 26), (1, .int a1), (2, .int a2)]) (st1 := []) rfl ?_
            exact am_wm h37 ⟨rfl, rfl, rfl, rfl, rfl, trivial⟩
      · refine am_wb2 rfl true (zt_ne (zq_a _) (by decide) (zr_t _) ⟨by decide, by decide⟩ c12) rfl ?_
        have h38 := h14 c12
        refine am_wh 1 (pc1 := 96) (lv1 := [(0, .ref 26), (1, .int a1), (2, .int a2), (3, .int a3), (4, .int a4)]) (st1 := [.int a3]) rfl ?_
        obtain ⟨o39, h40⟩ := h38
        refine am_wr rfl rfl (zr_b o39) ?_
        exact ⟨_, _, rfl, rfl, h40⟩
  · refine am_wb2 rfl true (zt_ge (zq_a _) (zq_a _) (zr_t _) (zr_t _) c1) rfl ?_
    have h41 := h3 c1
    refine am_wh 1 (pc1 := 96) (lv1 := [(0, .ref 26), (1, .int a1), (2, .int a2), (3, .int a3), (4, .int a4)]) (st1 := [.int a3]) rfl ?_
    obtain ⟨o42, h43⟩ := h41
    refine am_wr rfl rfl (zr_b o42) ?_
    exact ⟨_, _, rfl, rfl, h43⟩
set_option maxRecDepth 100000 in
theorem vc_55_0 (xs : Option (List Int32)) (d : Nat) (s : zS) (a1 : Int32) (Q : Int32 → zS → Prop) (h : zWi xs d 63 0 [(0, .ref 26), (1, .int 25), (2, .int a1)] s (fun v3 s1 => (v3.toInt = 0 → (Q 0 s1)) ∧ (¬ v3.toInt = 0 → (zWi xs d 70 0 [(0, .ref 13), (1, .int 3), (2, .int (s1.1 12))] s1 (fun v11 s9 => zWi xs d 52 0 [(0, .ref 26)] (zf s9 12 v11) (fun v14 s12 => (v14.toInt = 0 → (zWv xs d 24 0 [(0, .ref 10), (1, .int (s.1 10)), (2, .int (s12.1 11))] (zf s12 12 (s1.1 12)) (fun s19 => Q 0 s19))) ∧ (¬ v14.toInt = 0 → (zWi xs d 62 0 [(0, .ref 26), (1, .int 58)] s12 (fun v24 s22 => (v24.toInt = 0 → (zWv xs d 24 0 [(0, .ref 10), (1, .int (s.1 10)), (2, .int (s22.1 11))] (zf s22 12 (s1.1 12)) (fun s29 => Q 0 s29))) ∧ (¬ v24.toInt = 0 → (zWi xs d 54 0 [(0, .ref 26), (1, .int (a1 + 1))] s22 (fun v34 s32 => (v34.toInt = 0 → (zWv xs d 24 0 [(0, .ref 10), (1, .int (s.1 10)), (2, .int (s32.1 11))] (zf s32 12 (s1.1 12)) (fun s39 => Q 0 s39))) ∧ (¬ v34.toInt = 0 → (zWv xs d 24 0 [(0, .ref 10), (1, .int (s.1 10)), (2, .int (s32.1 11))] (zf s32 12 (s1.1 12)) (fun s42 => Q 1 s42))))))))))))))) : zWi xs (d + 1) 55 0 [(0, .ref 26), (1, .int a1)] s Q := by
  unfold zWi
  refine am_wh 6 (pc1 := 9) (lv1 := [(2, .int (s.1 10)), (0, .ref 26), (1, .int a1)]) (st1 := [.int a1, .int 25, .ref 26]) rfl ?_
  refine am_wc rfl rfl rfl ?_
  refine am_ww h ?_
  rintro _ _ ⟨v3, s1, rfl, rfl, h2⟩
  show am_W _ _ 55 12 [(2, .int (s.1 10)), (0, .ref 26), (1, .int a1)] [.int v3] (zH s1) _
  obtain ⟨h5, h6⟩ := h2
  by_cases c4 : v3.toInt = 0
  · refine am_wb1 rfl false (zn_ne (zq_a _) (by decide) (zr_t _) ⟨by decide, by decide⟩ c4) rfl ?_
    have h7 := h5 c4
    refine am_wh 1 (pc1 := 16) (lv1 := [(2, .int (s.1 10)), (0, .ref 26), (1, .int a1)]) (st1 := [.int 0]) rfl ?_
    refine am_wr rfl rfl rfl ?_
    exact ⟨_, _, rfl, rfl, h7⟩
  · refine am_wb1 rfl true (zt_ne (zq_a _) (by decide) (zr_t _) ⟨by decide, by decide⟩ c4) rfl ?_
    have h8 := h6 c4
    refine am_wh 8 (pc1 := 29) (lv1 := [(3, .int (s1.1 12)), (2, .int (s.1 10)), (0, .ref 26), (1, .int a1)]) (st1 := [.int (s1.1 12), .int 3, .ref 13, .ref 26]) rfl ?_
    refine am_wc rfl rfl rfl ?_
    refine am_ww h8 ?_
    rintro _ _ ⟨v11, s9, rfl, rfl, h10⟩
    show am_W _ _ 55 32 [(3, .int (s1.1 12)), (2, .int (s.1 10)), (0, .ref 26), (1, .int a1)] [.int v11, .ref 26] (zH s9) _
    refine am_w0 (z := (35, [(3, .int (s1.1 12)), (2, .int (s.1 10)), (0, .ref 26), (1, .int a1)], [], zH (zf s9 12 v11))) rfl rfl (zp_12 ) ?_
    refine am_wh 1 (pc1 := 36) (lv1 := [(3, .int (s1.1 12)), (2, .int (s.1 10)), (0, .ref 26), (1, .int a1)]) (st1 := [.ref 26]) rfl ?_
    refine am_wc rfl rfl rfl ?_
    refine am_ww h10 ?_
    rintro _ _ ⟨v14, s12, rfl, rfl, h13⟩
    show am_W _ _ 55 39 [(3, .int (s1.1 12)), (2, .int (s.1 10)), (0, .ref 26), (1, .int a1)] [.int v14] (zH s12) _
    obtain ⟨h16, h17⟩ := h13
    by_cases c15 : v14.toInt = 0
    · refine am_wb1 rfl true (zt_eq (zq_a _) (by decide) (zr_t _) ⟨by decide, by decide⟩ c15) rfl ?_
      have h18 := h16 c15
      refine am_wh 4 (pc1 := 70) (lv1 := [(4, .int 0), (3, .int (s1.1 12)), (2, .int (s.1 10)), (0, .ref 26), (1, .int a1)]) (st1 := [.int (s1.1 12), .ref 26]) rfl ?_
      refine am_w0 (z := (73, [(4, .int 0), (3, .int (s1.1 12)), (2, .int (s.1 10)), (0, .ref 26), (1, .int a1)], [], zH (zf s12 12 (s1.1 12)))) rfl rfl (zp_12 ) ?_
      refine am_wh 5 (pc1 := 82) (lv1 := [(4, .int 0), (3, .int (s1.1 12)), (2, .int (s.1 10)), (0, .ref 26), (1, .int a1)]) (st1 := [.int (s12.1 11), .int (s.1 10), .ref 10]) rfl ?_
      refine am_wc rfl rfl rfl ?_
      refine am_ww h18 ?_
      rintro _ _ ⟨s19, rfl, rfl, h20⟩
      show am_W _ _ 55 85 [(4, .int 0), (3, .int (s1.1 12)), (2, .int (s.1 10)), (0, .ref 26), (1, .int a1)] [] (zH s19) _
      refine am_wh 1 (pc1 := 87) (lv1 := [(4, .int 0), (3, .int (s1.1 12)), (2, .int (s.1 10)), (0, .ref 26), (1, .int a1)]) (st1 := [.int 0]) rfl ?_
      refine am_wr rfl rfl rfl ?_
      exact ⟨_, _, rfl, rfl, h20⟩
    · refine am_wb1 rfl false (zn_eq (zq_a _) (by decide) (zr_t _) ⟨by decide, by decide⟩ c15) rfl ?_
      have h21 := h17 c15
      refine am_wh 2 (pc1 := 45) (lv1 := [(3, .int (s1.1 12)), (2, .int (s.1 10)), (0, .ref 26), (1, .int a1)]) (st1 := [.int 58, .ref 26]) rfl ?_
      refine am_wc rfl rfl rfl ?_
      refine am_ww h21 ?_
      rintro _ _ ⟨v24, s22, rfl, rfl, h23⟩
      show am_W _ _ 55 48 [(3, .int (s1.1 12)), (2, .int (s.1 10)), (0, .ref 26), (1, .int a1)] [.int v24] (zH s22) _
      obtain ⟨h26, h27⟩ := h23
      by_cases c25 : v24.toInt = 0
      · refine am_wb1 rfl true (zt_eq (zq_a _) (by decide) (zr_t _) ⟨by decide, by decide⟩ c25) rfl ?_
        have h28 := h26 c25
        refine am_wh 4 (pc1 := 70) (lv1 := [(4, .int 0), (3, .int (s1.1 12)), (2, .int (s.1 10)), (0, .ref 26), (1, .int a1)]) (st1 := [.int (s1.1 12), .ref 26]) rfl ?_
        refine am_w0 (z := (73, [(4, .int 0), (3, .int (s1.1 12)), (2, .int (s.1 10)), (0, .ref 26), (1, .int a1)], [], zH (zf s22 12 (s1.1 12)))) rfl rfl (zp_12 ) ?_
        refine am_wh 5 (pc1 := 82) (lv1 := [(4, .int 0), (3, .int (s1.1 12)), (2, .int (s.1 10)), (0, .ref 26), (1, .int a1)]) (st1 := [.int (s22.1 11), .int (s.1 10), .ref 10]) rfl ?_
        refine am_wc rfl rfl rfl ?_
        refine am_ww h28 ?_
        rintro _ _ ⟨s29, rfl, rfl, h30⟩
        show am_W _ _ 55 85 [(4, .int 0), (3, .int (s1.1 12)), (2, .int (s.1 10)), (0, .ref 26), (1, .int a1)] [] (zH s29) _
        refine am_wh 1 (pc1 := 87) (lv1 := [(4, .int 0), (3, .int (s1.1 12)), (2, .int (s.1 10)), (0, .ref 26), (1, .int a1)]) (st1 := [.int 0]) rfl ?_
        refine am_wr rfl rfl rfl ?_
        exact ⟨_, _, rfl, rfl, h30⟩
      · refine am_wb1 rfl false (zn_eq (zq_a _) (by decide) (zr_t _) ⟨by decide, by decide⟩ c25) rfl ?_
        have h31 := h27 c25
        refine am_wh 4 (pc1 := 55) (lv1 := [(3, .int (s1.1 12)), (2, .int (s.1 10)), (0, .ref 26), (1, .int a1)]) (st1 := [.int (a1 + 1), .ref 26]) rfl ?_
        refine am_wc rfl rfl rfl ?_
        refine am_ww h31 ?_
        rintro _ _ ⟨v34, s32, rfl, rfl, h33⟩
        show am_W _ _ 55 58 [(3, .int (s1.1 12)), (2, .int (s.1 10)), (0, .ref 26), (1, .int a1)] [.int v34] (zH s32) _
        obtain ⟨h36, h37⟩ := h33
        by_cases c35 : v34.toInt = 0
        · refine am_wb1 rfl true (zt_eq (zq_a _) (by decide) (zr_t _) ⟨by decide, by decide⟩ c35) rfl ?_
          have h38 := h36 c35
          refine am_wh 4 (pc1 := 70) (lv1 := [(4, .int 0), (3, .int (s1.1 12)), (2, .int (s.1 10)), (0, .ref 26), (1, .int a1)]) (st1 := [.int (s1.1 12), .ref 26]) rfl ?_
          refine am_w0 (z := (73, [(4, .int 0), (3, .int (s1.1 12)), (2, .int (s.1 10)), (0, .ref 26), (1, .int a1)], [], zH (zf s32 12 (s1.1 12)))) rfl rfl (zp_12 ) ?_
          refine am_wh 5 (pc1 := 82) (lv1 := [(4, .int 0), (3, .int (s1.1 12)), (2, .int (s.1 10)), (0, .ref 26), (1, .int a1)]) (st1 := [.int (s32.1 11), .int (s.1 10), .ref 10]) rfl ?_
          refine am_wc rfl rfl rfl ?_
          refine am_ww h38 ?_
          rintro _ _ ⟨s39, rfl, rfl, h40⟩
          show am_W _ _ 55 85 [(4, .int 0), (3, .int (s1.1 12)), (2, .int (s.1 10)), (0, .ref 26), (1, .int a1)] [] (zH s39) _
          refine am_wh 1 (pc1 := 87) (lv1 := [(4, .int 0), (3, .int (s1.1 12)), (2, .int (s.1 10)), (0, .ref 26), (1, .int a1)]) (st1 := [.int 0]) rfl ?_
          refine am_wr rfl rfl rfl ?_
          exact ⟨_, _, rfl, rfl, h40⟩
        · refine am_wb1 rfl false (zn_eq (zq_a _) (by decide) (zr_t _) ⟨by decide, by decide⟩ c35) rfl ?_
          have h41 := h37 c35
          refine am_wh 5 (pc1 := 70) (lv1 := [(4, .int 1), (3, .int (s1.1 12)), (2, .int (s.1 10)), (0, .ref 26), (1, .int a1)]) (st1 := [.int (s1.1 12), .ref 26]) rfl ?_
          refine am_w0 (z := (73, [(4, .int 1), (3, .int (s1.1 12)), (2, .int (s.1 10)), (0, .ref 26), (1, .int a1)], [], zH (zf s32 12 (s1.1 12)))) rfl rfl (zp_12 ) ?_
          refine am_wh 5 (pc1 := 82) (lv1 := [(4, .int 1), (3, .int (s1.1 12)), (2, .int (s.1 10)), (0, .ref 26), (1, .int a1)]) (st1 := [.int (s32.1 11), .int (s.1 10), .ref 10]) rfl ?_
          refine am_wc rfl rfl rfl ?_
          refine am_ww h41 ?_
          rintro _ _ ⟨s42, rfl, rfl, h43⟩
          show am_W _ _ 55 85 [(4, .int 1), (3, .int (s1.1 12)), (2, .int (s.1 10)), (0, .ref 26), (1, .int a1)] [] (zH s42) _
          refine am_wh 1 (pc1 := 87) (lv1 := [(4, .int 1), (3, .int (s1.1 12)), (2, .int (s.1 10)), (0, .ref 26), (1, .int a1)]) (st1 := [.int 1]) rfl ?_
          refine am_wr rfl rfl rfl ?_
          exact ⟨_, _, rfl, rfl, h43⟩
set_option maxRecDepth 100000 in
theorem vc_56_0 (xs : Option (List Int32)) (d : Nat) (s : zS) (a1 : Int32) (Q : Int32 → zS → Prop) (h : zWi xs d 57 0 [(0, .ref 26), (1, .int a1)] s (fun v3 s1 => zWv xs d 24 0 [(0, .ref 10), (1, .int (s.1 10)), (2, .int (s1.1 11))] s1 (fun s4 => zWi xs (d + 1) 56 26 [(0, .ref 26), (1, .int a1), (2, .int (s.1 10)), (3, .int v3), (4, .int 0)] s4 Q))) : zWi xs (d + 1) 56 0 [(0, .ref 26), (1, .int a1)] s Q := by
  unfold zWi
  refine am_wh 5 (pc1 := 7) (lv1 := [(2, .int (s.1 10)), (0, .ref 26), (1, .int a1)]) (st1 := [.int a1, .ref 26]) rfl ?_
  refine am_wc rfl rfl rfl ?_
  refine am_ww h ?_
  rintro _ _ ⟨v3, s1, rfl, rfl, h2⟩
  show am_W _ _ 56 10 [(2, .int (s.1 10)), (0, .ref 26), (1, .int a1)] [.int v3] (zH s1) _
  refine am_wh 6 (pc1 := 20) (lv1 := [(3, .int v3), (2, .int (s.1 10)), (0, .ref 26), (1, .int a1)]) (st1 := [.int (s1.1 11), .int (s.1 10), .ref 10]) rfl ?_
  refine am_wc rfl rfl rfl ?_
  refine am_ww h2 ?_
  rintro _ _ ⟨s4, rfl, rfl, h5⟩
  show am_W _ _ 56 23 [(3, .int v3), (2, .int (s.1 10)), (0, .ref 26), (1, .int a1)] [] (zH s4) _
  refine am_wh 2 (pc1 := 26) (lv1 := [(4, .int 0), (3, .int v3), (2, .int (s.1 10)), (0, .ref 26), (1, .int a1)]) (st1 := []) rfl ?_
  exact am_wm h5 ⟨rfl, rfl, rfl, rfl, rfl, trivial⟩
set_option maxRecDepth 100000 in
theorem vc_56_26 (xs : Option (List Int32)) (d : Nat) (s : zS) (a1 : Int32) (a2 : Int32) (a3 : Int32) (a4 : Int32) (Q : Int32 → zS → Prop) (h : (a4.toInt < (s.1 2).toInt → ((a3.toInt = 0 → ((a3 = 0 ∨ a3 = 1) ∧ Q a3 s)) ∧ (¬ a3.toInt = 0 → (((s.1 9).toInt = 40 → (zWi xs d 58 0 [(0, .ref 26), (1, .int a1)] s (fun v18 s16 => zWv xs d 24 0 [(0, .ref 10), (1, .int a2), (2, .int (s16.1 11))] s16 (fun s19 => zWi xs (d + 1) 56 26 [(0, .ref 26), (1, .int a1), (2, .int a2), (3, .int v18), (4, .int (a4 + 1))] s19 Q)))) ∧ (¬ (s.1 9).toInt = 40 → ((a3 = 0 ∨ a3 = 1) ∧ Q a3 s)))))) ∧ (¬ a4.toInt < (s.1 2).toInt → ((a3 = 0 ∨ a3 = 1) ∧ Q a3 s))) : zWi xs (d + 1) 56 26 [(0, .ref 26), (1, .int a1), (2, .int a2), (3, .int a3), (4, .int a4)] s Q := by
  unfold zWi
  refine am_wh 4 (pc1 := 35) (lv1 := [(0, .ref 26), (1, .int a1), (2, .int a2), (3, .int a3), (4, .int a4)]) (st1 := [.int (s.1 2), .int a4]) rfl ?_
  obtain ⟨h2, h3⟩ := h
  by_cases c1 : a4.toInt < (s.1 2).toInt
  · refine am_wb2 rfl false (zn_ge (zq_a _) (zq_a _) (zr_t _) (zr_t _) c1) rfl ?_
    have h4 := h2 c1
    refine am_wh 1 (pc1 := 39) (lv1 := [(0, .ref 26), (1, .int a1), (2, .int a2), (3, .int a3), (4, .int a4)]) (st1 := [.int a3]) rfl ?_
    obtain ⟨h6, h7⟩ := h4
    by_cases c5 : a3.toInt = 0
    · refine am_wb1 rfl true (zt_eq (zq_a _) (by decide) (zr_t _) ⟨by decide, by decide⟩ c5) rfl ?_
      have h8 := h6 c5
      refine am_wh 1 (pc1 := 76) (lv1 := [(0, .ref 26), (1, .int a1), (2, .int a2), (3, .int a3), (4, .int a4)]) (st1 := [.int a3]) rfl ?_
      obtain ⟨o9, h10⟩ := h8
      refine am_wr rfl rfl (zr_b o9) ?_
      exact ⟨_, _, rfl, rfl, h10⟩
    · refine am_wb1 rfl false (zn_eq (zq_a _) (by decide) (zr_t _) ⟨by decide, by decide⟩ c5) rfl ?_
      have h11 := h7 c5
      refine am_wh 3 (pc1 := 48) (lv1 := [(0, .ref 26), (1, .int a1), (2, .int a2), (3, .int a3), (4, .int a4)]) (st1 := [.int 40, .int (s.1 9)]) rfl ?_
      obtain ⟨h13, h14⟩ := h11
      by_cases c12 : (s.1 9).toInt = 40
      · refine am_wb2 rfl false (zn_ne (zq_a _) (by decide) (zr_t _) ⟨by decide, by decide⟩ c12) rfl ?_
        have h15 := h13 c12
        refine am_wh 2 (pc1 := 53) (lv1 := [(0, .ref 26), (1, .int a1), (2, .int a2), (3, .int a3), (4, .int a4)]) (st1 := [.int a1, .ref 26]) rfl ?_
        refine am_wc rfl rfl rfl ?_
        refine am_ww h15 ?_
        rintro _ _ ⟨v18, s16, rfl, rfl, h17⟩
        show am_W _ _ 56 56 [(0, .ref 26), (1, .int a1), (2, .int a2), (3, .int a3), (4, .int a4)] [.int v18] (zH s16) _
        refine am_wh 6 (pc1 := 66) (lv1 := [(3, .int v18), (0, .ref 26), (1, .int a1), (2, .int a2), (4, .int a4)]) (st1 := [.int (s16.1 11), .int a2, .ref 10]) rfl ?_
        refine am_wc rfl rfl rfl ?_
        refine am_ww h17 ?_
        rintro _ _ ⟨s19, rfl, rfl, h20⟩
        show am_W _ _ 56 69 [(3, .int v18), (0, .ref 26), (1, .int a1), (2, .int a2), (4, .int a4)] [] (zH s19) _
        refine am_wh 2 (pc1 := 26) (lv1 := [(4, .int (a4 + 1)), (3, .int v18), (0, .ref 26), (1, .int a1), (2, .int a2)]) (st1 := []) rfl ?_
        exact am_wm h20 ⟨rfl, rfl, rfl, rfl, rfl, trivial⟩
      · refine am_wb2 rfl true (zt_ne (zq_a _) (by decide) (zr_t _) ⟨by decide, by decide⟩ c12) rfl ?_
        have h21 := h14 c12
        refine am_wh 1 (pc1 := 76) (lv1 := [(0, .ref 26), (1, .int a1), (2, .int a2), (3, .int a3), (4, .int a4)]) (st1 := [.int a3]) rfl ?_
        obtain ⟨o22, h23⟩ := h21
        refine am_wr rfl rfl (zr_b o22) ?_
        exact ⟨_, _, rfl, rfl, h23⟩
  · refine am_wb2 rfl true (zt_ge (zq_a _) (zq_a _) (zr_t _) (zr_t _) c1) rfl ?_
    have h24 := h3 c1
    refine am_wh 1 (pc1 := 76) (lv1 := [(0, .ref 26), (1, .int a1), (2, .int a2), (3, .int a3), (4, .int a4)]) (st1 := [.int a3]) rfl ?_
    obtain ⟨o25, h26⟩ := h24
    refine am_wr rfl rfl (zr_b o25) ?_
    exact ⟨_, _, rfl, rfl, h26⟩
set_option maxRecDepth 100000 in
theorem vc_57_0 (xs : Option (List Int32)) (d : Nat) (s : zS) (a1 : Int32) (Q : Int32 → zS → Prop) (h : ((s.1 9).toInt = 0 → (zWi xs d 64 0 [(0, .ref 26), (1, .int 1)] s (fun v10 s8 => (v10 = 0 ∨ v10 = 1) ∧ Q v10 s8))) ∧ ((s.1 9).toInt = 1 → (zWi xs d 62 0 [(0, .ref 26), (1, .int 1)] s (fun v17 s15 => (v17 = 0 ∨ v17 = 1) ∧ Q v17 s15))) ∧ ((s.1 9).toInt = 40 → (zWi xs d 59 0 [(0, .ref 26), (1, .int a1)] s (fun v24 s22 => (v24 = 0 ∨ v24 = 1) ∧ Q v24 s22))) ∧ ((s.1 9).toInt = 91 → (zWi xs d 107 0 [(0, .ref 5), (1, .int (s.1 8))] s (fun v31 s29 => (v31.toInt = 0 → (zWi xs d 63 0 [(0, .ref 26), (1, .int 91), (2, .int a1)] s29 (fun v38 s36 => (v38.toInt = 0 → (Q 0 s36)) ∧ (¬ v38.toInt = 0 → (zWi xs d 54 0 [(0, .ref 26), (1, .int (a1 + 1))] s36 (fun v46 s44 => (v46.toInt = 0 → (Q 0 s44)) ∧ (¬ v46.toInt = 0 → (zWi xs d 62 0 [(0, .ref 26), (1, .int 93)] s44 (fun v54 s52 => (v54.toInt = 0 → (Q 0 s52)) ∧ (¬ v54.toInt = 0 → (Q 1 s52))))))))))) ∧ (¬ v31.toInt = 0 → (zWi xs d 60 0 [(0, .ref 26), (1, .int a1)] s29 (fun v63 s61 => (v63 = 0 ∨ v63 = 1) ∧ Q v63 s61)))))) ∧ (¬ (s.1 9).toInt = 0 ∧ ¬ (s.1 9).toInt = 1 ∧ ¬ (s.1 9).toInt = 40 ∧ ¬ (s.1 9).toInt = 91 → (zWi xs d 67 0 [(0, .ref 26), (1, .int 20)] s (fun v70 s68 => (v70 = 0 ∨ v70 = 1) ∧ Q v70 s68)))) : zWi xs (d + 1) 57 0 [(0, .ref 26), (1, .int a1)] s Q := by
  unfold zWi
  refine am_wh 2 (pc1 := 4) (lv1 := [(0, .ref 26), (1, .int a1)]) (st1 := [.int (s.1 9)]) rfl ?_
  obtain ⟨h1, h2, h3, h4, h5⟩ := h
  by_cases c6 : (s.1 9).toInt = 0
  · refine zw_lk (tgt := 48) rfl (by rw [(show (s.1 9) = zI (s.1 9).toInt from (zq_a _)), c6]; rfl) ?_
    have h7 := h1 c6
    refine am_wh 2 (pc1 := 50) (lv1 := [(0, .ref 26), (1, .int a1)]) (st1 := [.int 1, .ref 26]) rfl ?_
    refine am_wc rfl rfl rfl ?_
    refine am_ww h7 ?_
    rintro _ _ ⟨v10, s8, rfl, rfl, h9⟩
    show am_W _ _ 57 53 [(0, .ref 26), (1, .int a1)] [.int v10] (zH s8) _
    obtain ⟨o11, h12⟩ := h9
    refine am_wr rfl rfl (zr_b o11) ?_
    exact ⟨_, _, rfl, rfl, h12⟩
  by_cases c13 : (s.1 9).toInt = 1
  · refine zw_lk (tgt := 54) rfl (by rw [(show (s.1 9) = zI (s.1 9).toInt from (zq_a _)), c13]; rfl) ?_
    have h14 := h2 c13
    refine am_wh 2 (pc1 := 56) (lv1 := [(0, .ref 26), (1, .int a1)]) (st1 := [.int 1, .ref 26]) rfl ?_
    refine am_wc rfl rfl rfl ?_
    refine am_ww h14 ?_
    rintro _ _ ⟨v17, s15, rfl, rfl, h16⟩
    show am_W _ _ 57 59 [(0, .ref 26), (1, .int a1)] [.int v17] (zH s15) _
    obtain ⟨o18, h19⟩ := h16
    refine am_wr rfl rfl (zr_b o18) ?_
    exact ⟨_, _, rfl, rfl, h19⟩
  by_cases c20 : (s.1 9).toInt = 40
  · refine zw_lk (tgt := 60) rfl (by rw [(show (s.1 9) = zI (s.1 9).toInt from (zq_a _)), c20]; rfl) ?_
    have h21 := h3 c20
    refine am_wh 2 (pc1 := 62) (lv1 := [(0, .ref 26), (1, .int a1)]) (st1 := [.int a1, .ref 26]) rfl ?_
    refine am_wc rfl rfl rfl ?_
    refine am_ww h21 ?_
    rintro _ _ ⟨v24, s22, rfl, rfl, h23⟩
    show am_W _ _ 57 65 [(0, .ref 26), (1, .int a1)] [.int v24] (zH s22) _
    obtain ⟨o25, h26⟩ := h23
    refine am_wr rfl rfl (zr_b o25) ?_
    exact ⟨_, _, rfl, rfl, h26⟩
  by_cases c27 : (s.1 9).toInt = 91
  · refine zw_lk (tgt := 66) rfl (by rw [(show (s.1 9) = zI (s.1 9).toInt from (zq_a _)), c27]; rfl) ?_
    have h28 := h4 c27
    refine am_wh 4 (pc1 := 74) (lv1 := [(0, .ref 26), (1, .int a1)]) (st1 := [.int (s.1 8), .ref 5]) rfl ?_
    refine am_wc rfl rfl rfl ?_
    refine am_ww h28 ?_
    rintro _ _ ⟨v31, s29, rfl, rfl, h30⟩
    show am_W _ _ 57 77 [(0, .ref 26), (1, .int a1)] [.int v31] (zH s29) _
    obtain ⟨h33, h34⟩ := h30
    by_cases c32 : v31.toInt = 0
    · refine am_wb1 rfl true (zt_eq (zq_a _) (by decide) (zr_t _) ⟨by decide, by decide⟩ c32) rfl ?_
      have h35 := h33 c32
      refine am_wh 3 (pc1 := 92) (lv1 := [(0, .ref 26), (1, .int a1)]) (st1 := [.int a1, .int 91, .ref 26]) rfl ?_
      refine am_wc rfl rfl rfl ?_
      refine am_ww h35 ?_
      rintro _ _ ⟨v38, s36, rfl, rfl, h37⟩
      show am_W _ _ 57 95 [(0, .ref 26), (1, .int a1)] [.int v38] (zH s36) _
      obtain ⟨h40, h41⟩ := h37
      by_cases c39 : v38.toInt = 0
      · refine am_wb1 rfl true (zt_eq (zq_a _) (by decide) (zr_t _) ⟨by decide, by decide⟩ c39) rfl ?_
        have h42 := h40 c39
        refine am_wh 1 (pc1 := 122) (lv1 := [(0, .ref 26), (1, .int a1)]) (st1 := [.int 0]) rfl ?_
        refine am_wr rfl rfl rfl ?_
        exact ⟨_, _, rfl, rfl, h42⟩
      · refine am_wb1 rfl false (zn_eq (zq_a _) (by decide) (zr_t _) ⟨by decide, by decide⟩ c39) rfl ?_
        have h43 := h41 c39
        refine am_wh 4 (pc1 := 102) (lv1 := [(0, .ref 26), (1, .int a1)]) (st1 := [.int (a1 + 1), .ref 26]) rfl ?_
        refine am_wc rfl rfl rfl ?_
        refine am_ww h43 ?_
        rintro _ _ ⟨v46, s44, rfl, rfl, h45⟩
        show am_W _ _ 57 105 [(0, .ref 26), (1, .int a1)] [.int v46] (zH s44) _
        obtain ⟨h48, h49⟩ := h45
        by_cases c47 : v46.toInt = 0
        · refine am_wb1 rfl true (zt_eq (zq_a _) (by decide) (zr_t _) ⟨by decide, by decide⟩ c47) rfl ?_
          have h50 := h48 c47
          refine am_wh 1 (pc1 := 122) (lv1 := [(0, .ref 26), (1, .int a1)]) (st1 := [.int 0]) rfl ?_
          refine am_wr rfl rfl rfl ?_
          exact ⟨_, _, rfl, rfl, h50⟩
        · refine am_wb1 rfl false (zn_eq (zq_a _) (by decide) (zr_t _) ⟨by decide, by decide⟩ c47) rfl ?_
          have h51 := h49 c47
          refine am_wh 2 (pc1 := 111) (lv1 := [(0, .ref 26), (1, .int a1)]) (st1 := [.int 93, .ref 26]) rfl ?_
          refine am_wc rfl rfl rfl ?_
          refine am_ww h51 ?_
          rintro _ _ ⟨v54, s52, rfl, rfl, h53⟩
          show am_W _ _ 57 114 [(0, .ref 26), (1, .int a1)] [.int v54] (zH s52) _
          obtain ⟨h56, h57⟩ := h53
          by_cases c55 : v54.toInt = 0
          · refine am_wb1 rfl true (zt_eq (zq_a _) (by decide) (zr_t _) ⟨by decide, by decide⟩ c55) rfl ?_
            have h58 := h56 c55
            refine am_wh 1 (pc1 := 122) (lv1 := [(0, .ref 26), (1, .int a1)]) (st1 := [.int 0]) rfl ?_
            refine am_wr rfl rfl rfl ?_
            exact ⟨_, _, rfl, rfl, h58⟩
          · refine am_wb1 rfl false (zn_eq (zq_a _) (by decide) (zr_t _) ⟨by decide, by decide⟩ c55) rfl ?_
            have h59 := h57 c55
            refine am_wh 2 (pc1 := 122) (lv1 := [(0, .ref 26), (1, .int a1)]) (st1 := [.int 1]) rfl ?_
            refine am_wr rfl rfl rfl ?_
            exact ⟨_, _, rfl, rfl, h59⟩
    · refine am_wb1 rfl false (zn_eq (zq_a _) (by decide) (zr_t _) ⟨by decide, by decide⟩ c32) rfl ?_
      have h60 := h34 c32
      refine am_wh 2 (pc1 := 82) (lv1 := [(0, .ref 26), (1, .int a1)]) (st1 := [.int a1, .ref 26]) rfl ?_
      refine am_wc rfl rfl rfl ?_
      refine am_ww h60 ?_
      rintro _ _ ⟨v63, s61, rfl, rfl, h62⟩
      show am_W _ _ 57 85 [(0, .ref 26), (1, .int a1)] [.int v63] (zH s61) _
      refine am_wh 1 (pc1 := 122) (lv1 := [(0, .ref 26), (1, .int a1)]) (st1 := [.int v63]) rfl ?_
      obtain ⟨o64, h65⟩ := h62
      refine am_wr rfl rfl (zr_b o64) ?_
      exact ⟨_, _, rfl, rfl, h65⟩
  have c67 : ¬ (s.1 9).toInt = 0 ∧ ¬ (s.1 9).toInt = 1 ∧ ¬ (s.1 9).toInt = 40 ∧ ¬ (s.1 9).toInt = 91 := by omega
  refine zw_lk (tgt := 123) rfl ?_ ?_
  · show am_to 4 (if (0 : Int) = (s.1 9).toInt then (44 : Int) else if (1 : Int) = (s.1 9).toInt then (50 : Int) else if (40 : Int) = (s.1 9).toInt then (56 : Int) else if (91 : Int) = (s.1 9).toInt then (62 : Int) else 119) = _
    rw [if_neg (by omega), if_neg (by omega), if_neg (by omega), if_neg (by omega)]
    rfl
  have h66 := h5 c67
  refine am_wh 2 (pc1 := 126) (lv1 := [(0, .ref 26), (1, .int a1)]) (st1 := [.int 20, .ref 26]) rfl ?_
  refine am_wc rfl rfl rfl ?_
  refine am_ww h66 ?_
  rintro _ _ ⟨v70, s68, rfl, rfl, h69⟩
  show am_W _ _ 57 129 [(0, .ref 26), (1, .int a1)] [.int v70] (zH s68) _
  obtain ⟨o71, h72⟩ := h69
  refine am_wr rfl rfl (zr_b o71) ?_
  exact ⟨_, _, rfl, rfl, h72⟩
set_option maxRecDepth 100000 in
theorem vc_58_0 (xs : Option (List Int32)) (d : Nat) (s : zS) (a1 : Int32) (Q : Int32 → zS → Prop) (h : zWi xs d 63 0 [(0, .ref 26), (1, .int 40), (2, .int a1)] s (fun v3 s1 => (v3.toInt = 0 → (Q 0 s1)) ∧ (¬ v3.toInt = 0 → (((s1.1 9).toInt = 41 → (zWi xs d 62 0 [(0, .ref 26), (1, .int 41)] s1 (fun v15 s13 => (v15 = 0 ∨ v15 = 1) ∧ Q v15 s13))) ∧ (¬ (s1.1 9).toInt = 41 → (zWi xs d 54 0 [(0, .ref 26), (1, .int (a1 + 1))] s1 (fun v21 s19 => zWi xs (d + 1) 58 38 [(0, .ref 26), (1, .int a1), (2, .int v21), (3, .int 0)] s19 Q))))))) : zWi xs (d + 1) 58 0 [(0, .ref 26), (1, .int a1)] s Q := by
  unfold zWi
  refine am_wh 3 (pc1 := 4) (lv1 := [(0, .ref 26), (1, .int a1)]) (st1 := [.int a1, .int 40, .ref 26]) rfl ?_
  refine am_wc rfl rfl rfl ?_
  refine am_ww h ?_
  rintro _ _ ⟨v3, s1, rfl, rfl, h2⟩
  show am_W _ _ 58 7 [(0, .ref 26), (1, .int a1)] [.int v3] (zH s1) _
  obtain ⟨h5, h6⟩ := h2
  by_cases c4 : v3.toInt = 0
  · refine am_wb1 rfl false (zn_ne (zq_a _) (by decide) (zr_t _) ⟨by decide, by decide⟩ c4) rfl ?_
    have h7 := h5 c4
    refine am_wh 1 (pc1 := 11) (lv1 := [(0, .ref 26), (1, .int a1)]) (st1 := [.int 0]) rfl ?_
    refine am_wr rfl rfl rfl ?_
    exact ⟨_, _, rfl, rfl, h7⟩
  · refine am_wb1 rfl true (zt_ne (zq_a _) (by decide) (zr_t _) ⟨by decide, by decide⟩ c4) rfl ?_
    have h8 := h6 c4
    refine am_wh 3 (pc1 := 18) (lv1 := [(0, .ref 26), (1, .int a1)]) (st1 := [.int 41, .int (s1.1 9)]) rfl ?_
    obtain ⟨h10, h11⟩ := h8
    by_cases c9 : (s1.1 9).toInt = 41
    · refine am_wb2 rfl false (zn_ne (zq_a _) (by decide) (zr_t _) ⟨by decide, by decide⟩ c9) rfl ?_
      have h12 := h10 c9
      refine am_wh 2 (pc1 := 24) (lv1 := [(0, .ref 26), (1, .int a1)]) (st1 := [.int 41, .ref 26]) rfl ?_
      refine am_wc rfl rfl rfl ?_
      refine am_ww h12 ?_
      rintro _ _ ⟨v15, s13, rfl, rfl, h14⟩
      show am_W _ _ 58 27 [(0, .ref 26), (1, .int a1)] [.int v15] (zH s13) _
      obtain ⟨o16, h17⟩ := h14
      refine am_wr rfl rfl (zr_b o16) ?_
      exact ⟨_, _, rfl, rfl, h17⟩
    · refine am_wb2 rfl true (zt_ne (zq_a _) (by decide) (zr_t _) ⟨by decide, by decide⟩ c9) rfl ?_
      have h18 := h11 c9
      refine am_wh 4 (pc1 := 32) (lv1 := [(0, .ref 26), (1, .int a1)]) (st1 := [.int (a1 + 1), .ref 26]) rfl ?_
      refine am_wc rfl rfl rfl ?_
      refine am_ww h18 ?_
      rintro _ _ ⟨v21, s19, rfl, rfl, h20⟩
      show am_W _ _ 58 35 [(0, .ref 26), (1, .int a1)] [.int v21] (zH s19) _
      refine am_wh 3 (pc1 := 38) (lv1 := [(3, .int 0), (2, .int v21), (0, .ref 26), (1, .int a1)]) (st1 := []) rfl ?_
      exact am_wm h20 ⟨rfl, rfl, rfl, rfl, trivial⟩
set_option maxRecDepth 100000 in
theorem vc_58_38 (xs : Option (List Int32)) (d : Nat) (s : zS) (a1 : Int32) (a2 : Int32) (a3 : Int32) (Q : Int32 → zS → Prop) (h : (a3.toInt < (s.1 2).toInt → ((a2.toInt = 0 → (Q 0 s)) ∧ (¬ a2.toInt = 0 → (((s.1 9).toInt = 44 → (zWi xs d 62 0 [(0, .ref 26), (1, .int 44)] s (fun v16 s14 => (v16.toInt = 0 → (zWi xs (d + 1) 58 38 [(0, .ref 26), (1, .int a1), (2, .int 0), (3, .int (a3 + 1))] s14 Q)) ∧ (¬ v16.toInt = 0 → (zWi xs d 54 0 [(0, .ref 26), (1, .int (a1 + 1))] s14 (fun v24 s22 => (v24.toInt = 0 → (zWi xs (d + 1) 58 38 [(0, .ref 26), (1, .int a1), (2, .int 0), (3, .int (a3 + 1))] s22 Q)) ∧ (¬ v24.toInt = 0 → (zWi xs (d + 1) 58 38 [(0, .ref 26), (1, .int a1), (2, .int 1), (3, .int (a3 + 1))] s22 Q)))))))) ∧ (¬ (s.1 9).toInt = 44 → (zWi xs d 62 0 [(0, .ref 26), (1, .int 41)] s (fun v33 s31 => (v33.toInt = 0 → (Q 0 s31)) ∧ (¬ v33.toInt = 0 → (Q 1 s31))))))))) ∧ (¬ a3.toInt < (s.1 2).toInt → ((a2.toInt = 0 → (Q 0 s)) ∧ (¬ a2.toInt = 0 → (zWi xs d 62 0 [(0, .ref 26), (1, .int 41)] s (fun v47 s45 => (v47.toInt = 0 → (Q 0 s45)) ∧ (¬ v47.toInt = 0 → (Q 1 s45)))))))) : zWi xs (d + 1) 58 38 [(0, .ref 26), (1, .int a1), (2, .int a2), (3, .int a3)] s Q := by
  unfold zWi
  refine am_wh 4 (pc1 := 46) (lv1 := [(0, .ref 26), (1, .int a1), (2, .int a2), (3, .int a3)]) (st1 := [.int (s.1 2), .int a3]) rfl ?_
  obtain ⟨h2, h3⟩ := h
  by_cases c1 : a3.toInt < (s.1 2).toInt
  · refine am_wb2 rfl false (zn_ge (zq_a _) (zq_a _) (zr_t _) (zr_t _) c1) rfl ?_
    have h4 := h2 c1
    refine am_wh 1 (pc1 := 50) (lv1 := [(0, .ref 26), (1, .int a1), (2, .int a2), (3, .int a3)]) (st1 := [.int a2]) rfl ?_
    obtain ⟨h6, h7⟩ := h4
    by_cases c5 : a2.toInt = 0
    · refine am_wb1 rfl true (zt_eq (zq_a _) (by decide) (zr_t _) ⟨by decide, by decide⟩ c5) rfl ?_
      have h8 := h6 c5
      refine am_wh 1 (pc1 := 94) (lv1 := [(0, .ref 26), (1, .int a1), (2, .int a2), (3, .int a3)]) (st1 := [.int a2]) rfl ?_
      refine am_wb1 rfl true (zt_eq (zq_a _) (by decide) (zr_t _) ⟨by decide, by decide⟩ c5) rfl ?_
      refine am_wh 1 (pc1 := 111) (lv1 := [(0, .ref 26), (1, .int a1), (2, .int a2), (3, .int a3)]) (st1 := [.int 0]) rfl ?_
      refine am_wr rfl rfl rfl ?_
      exact ⟨_, _, rfl, rfl, h8⟩
    · refine am_wb1 rfl false (zn_eq (zq_a _) (by decide) (zr_t _) ⟨by decide, by decide⟩ c5) rfl ?_
      have h9 := h7 c5
      refine am_wh 3 (pc1 := 59) (lv1 := [(0, .ref 26), (1, .int a1), (2, .int a2), (3, .int a3)]) (st1 := [.int 44, .int (s.1 9)]) rfl ?_
      obtain ⟨h11, h12⟩ := h9
      by_cases c10 : (s.1 9).toInt = 44
      · refine am_wb2 rfl false (zn_ne (zq_a _) (by decide) (zr_t _) ⟨by decide, by decide⟩ c10) rfl ?_
        have h13 := h11 c10
        refine am_wh 2 (pc1 := 65) (lv1 := [(0, .ref 26), (1, .int a1), (2, .int a2), (3, .int a3)]) (st1 := [.int 44, .ref 26]) rfl ?_
        refine am_wc rfl rfl rfl ?_
        refine am_ww h13 ?_
        rintro _ _ ⟨v16, s14, rfl, rfl, h15⟩
        show am_W _ _ 58 68 [(0, .ref 26), (1, .int a1), (2, .int a2), (3, .int a3)] [.int v16] (zH s14) _
        obtain ⟨h18, h19⟩ := h15
        by_cases c17 : v16.toInt = 0
        · refine am_wb1 rfl true (zt_eq (zq_a _) (by decide) (zr_t _) ⟨by decide, by decide⟩ c17) rfl ?_
          have h20 := h18 c17
          refine am_wh 4 (pc1 := 38) (lv1 := [(3, .int (a3 + 1)), (2, .int 0), (0, .ref 26), (1, .int a1)]) (st1 := []) rfl ?_
          exact am_wm h20 ⟨rfl, rfl, rfl, rfl, trivial⟩
        · refine am_wb1 rfl false (zn_eq (zq_a _) (by decide) (zr_t _) ⟨by decide, by decide⟩ c17) rfl ?_
          have h21 := h19 c17
          refine am_wh 4 (pc1 := 75) (lv1 := [(0, .ref 26), (1, .int a1), (2, .int a2), (3, .int a3)]) (st1 := [.int (a1 + 1), .ref 26]) rfl ?_
          refine am_wc rfl rfl rfl ?_
          refine am_ww h21 ?_
          rintro _ _ ⟨v24, s22, rfl, rfl, h23⟩
          show am_W _ _ 58 78 [(0, .ref 26), (1, .int a1), (2, .int a2), (3, .int a3)] [.int v24] (zH s22) _
          obtain ⟨h26, h27⟩ := h23
          by_cases c25 : v24.toInt = 0
          · refine am_wb1 rfl true (zt_eq (zq_a _) (by decide) (zr_t _) ⟨by decide, by decide⟩ c25) rfl ?_
            have h28 := h26 c25
            refine am_wh 4 (pc1 := 38) (lv1 := [(3, .int (a3 + 1)), (2, .int 0), (0, .ref 26), (1, .int a1)]) (st1 := []) rfl ?_
            exact am_wm h28 ⟨rfl, rfl, rfl, rfl, trivial⟩
          · refine am_wb1 rfl false (zn_eq (zq_a _) (by decide) (zr_t _) ⟨by decide, by decide⟩ c25) rfl ?_
            have h29 := h27 c25
            refine am_wh 5 (pc1 := 38) (lv1 := [(3, .int (a3 + 1)), (2, .int 1), (0, .ref 26), (1, .int a1)]) (st1 := []) rfl ?_
            exact am_wm h29 ⟨rfl, rfl, rfl, rfl, trivial⟩
      · refine am_wb2 rfl true (zt_ne (zq_a _) (by decide) (zr_t _) ⟨by decide, by decide⟩ c10) rfl ?_
        have h30 := h12 c10
        refine am_wh 1 (pc1 := 94) (lv1 := [(0, .ref 26), (1, .int a1), (2, .int a2), (3, .int a3)]) (st1 := [.int a2]) rfl ?_
        refine am_wb1 rfl false (zn_eq (zq_a _) (by decide) (zr_t _) ⟨by decide, by decide⟩ c5) rfl ?_
        refine am_wh 2 (pc1 := 100) (lv1 := [(0, .ref 26), (1, .int a1), (2, .int a2), (3, .int a3)]) (st1 := [.int 41, .ref 26]) rfl ?_
        refine am_wc rfl rfl rfl ?_
        refine am_ww h30 ?_
        rintro _ _ ⟨v33, s31, rfl, rfl, h32⟩
        show am_W _ _ 58 103 [(0, .ref 26), (1, .int a1), (2, .int a2), (3, .int a3)] [.int v33] (zH s31) _
        obtain ⟨h35, h36⟩ := h32
        by_cases c34 : v33.toInt = 0
        · refine am_wb1 rfl true (zt_eq (zq_a _) (by decide) (zr_t _) ⟨by decide, by decide⟩ c34) rfl ?_
          have h37 := h35 c34
          refine am_wh 1 (pc1 := 111) (lv1 := [(0, .ref 26), (1, .int a1), (2, .int a2), (3, .int a3)]) (st1 := [.int 0]) rfl ?_
          refine am_wr rfl rfl rfl ?_
          exact ⟨_, _, rfl, rfl, h37⟩
        · refine am_wb1 rfl false (zn_eq (zq_a _) (by decide) (zr_t _) ⟨by decide, by decide⟩ c34) rfl ?_
          have h38 := h36 c34
          refine am_wh 2 (pc1 := 111) (lv1 := [(0, .ref 26), (1, .int a1), (2, .int a2), (3, .int a3)]) (st1 := [.int 1]) rfl ?_
          refine am_wr rfl rfl rfl ?_
          exact ⟨_, _, rfl, rfl, h38⟩
  · refine am_wb2 rfl true (zt_ge (zq_a _) (zq_a _) (zr_t _) (zr_t _) c1) rfl ?_
    have h39 := h3 c1
    refine am_wh 1 (pc1 := 94) (lv1 := [(0, .ref 26), (1, .int a1), (2, .int a2), (3, .int a3)]) (st1 := [.int a2]) rfl ?_
    obtain ⟨h41, h42⟩ := h39
    by_cases c40 : a2.toInt = 0
    · refine am_wb1 rfl true (zt_eq (zq_a _) (by decide) (zr_t _) ⟨by decide, by decide⟩ c40) rfl ?_
      have h43 := h41 c40
      refine am_wh 1 (pc1 := 111) (lv1 := [(0, .ref 26), (1, .int a1), (2, .int a2), (3, .int a3)]) (st1 := [.int 0]) rfl ?_
      refine am_wr rfl rfl rfl ?_
      exact ⟨_, _, rfl, rfl, h43⟩
    · refine am_wb1 rfl false (zn_eq (zq_a _) (by decide) (zr_t _) ⟨by decide, by decide⟩ c40) rfl ?_
      have h44 := h42 c40
      refine am_wh 2 (pc1 := 100) (lv1 := [(0, .ref 26), (1, .int a1), (2, .int a2), (3, .int a3)]) (st1 := [.int 41, .ref 26]) rfl ?_
      refine am_wc rfl rfl rfl ?_
      refine am_ww h44 ?_
      rintro _ _ ⟨v47, s45, rfl, rfl, h46⟩
      show am_W _ _ 58 103 [(0, .ref 26), (1, .int a1), (2, .int a2), (3, .int a3)] [.int v47] (zH s45) _
      obtain ⟨h49, h50⟩ := h46
      by_cases c48 : v47.toInt = 0
      · refine am_wb1 rfl true (zt_eq (zq_a _) (by decide) (zr_t _) ⟨by decide, by decide⟩ c48) rfl ?_
        have h51 := h49 c48
        refine am_wh 1 (pc1 := 111) (lv1 := [(0, .ref 26), (1, .int a1), (2, .int a2), (3, .int a3)]) (st1 := [.int 0]) rfl ?_
        refine am_wr rfl rfl rfl ?_
        exact ⟨_, _, rfl, rfl, h51⟩
      · refine am_wb1 rfl false (zn_eq (zq_a _) (by decide) (zr_t _) ⟨by decide, by decide⟩ c48) rfl ?_
        have h52 := h50 c48
        refine am_wh 2 (pc1 := 111) (lv1 := [(0, .ref 26), (1, .int a1), (2, .int a2), (3, .int a3)]) (st1 := [.int 1]) rfl ?_
        refine am_wr rfl rfl rfl ?_
        exact ⟨_, _, rfl, rfl, h52⟩
set_option maxRecDepth 100000 in
theorem vc_59_0 (xs : Option (List Int32)) (d : Nat) (s : zS) (a1 : Int32) (Q : Int32 → zS → Prop) (h : zWi xs d 63 0 [(0, .ref 26), (1, .int 40), (2, .int a1)] s (fun v3 s1 => (v3.toInt = 0 → (Q 0 s1)) ∧ (¬ v3.toInt = 0 → (zWi xs d 61 0 [(0, .ref 26), (1, .int 128)] s1 (fun v11 s9 => (v11.toInt = 0 → (zWi xs d 54 0 [(0, .ref 26), (1, .int (a1 + 1))] s9 (fun v18 s16 => (v18.toInt = 0 → (Q 0 s16)) ∧ (¬ v18.toInt = 0 → (zWi xs d 62 0 [(0, .ref 26), (1, .int 41)] s16 (fun v26 s24 => (v26.toInt = 0 → (Q 0 s24)) ∧ (¬ v26.toInt = 0 → (Q 1 s24)))))))) ∧ (¬ v11.toInt = 0 → (zWv xs d 65 0 [(0, .ref 26)] s9 (fun s33 => zWi xs d 54 0 [(0, .ref 26), (1, .int (a1 + 1))] s33 (fun v37 s35 => (v37.toInt = 0 → (Q 0 s35)) ∧ (¬ v37.toInt = 0 → (zWi xs d 62 0 [(0, .ref 26), (1, .int 41)] s35 (fun v45 s43 => (v45.toInt = 0 → (Q 0 s43)) ∧ (¬ v45.toInt = 0 → (Q 1 s43)))))))))))))) : zWi xs (d + 1) 59 0 [(0, .ref 26), (1, .int a1)] s Q := by
  unfold zWi
  refine am_wh 3 (pc1 := 4) (lv1 := [(0, .ref 26), (1, .int a1)]) (st1 := [.int a1, .int 40, .ref 26]) rfl ?_
  refine am_wc rfl rfl rfl ?_
  refine am_ww h ?_
  rintro _ _ ⟨v3, s1, rfl, rfl, h2⟩
  show am_W _ _ 59 7 [(0, .ref 26), (1, .int a1)] [.int v3] (zH s1) _
  obtain ⟨h5, h6⟩ := h2
  by_cases c4 : v3.toInt = 0
  · refine am_wb1 rfl false (zn_ne (zq_a _) (by decide) (zr_t _) ⟨by decide, by decide⟩ c4) rfl ?_
    have h7 := h5 c4
    refine am_wh 1 (pc1 := 11) (lv1 := [(0, .ref 26), (1, .int a1)]) (st1 := [.int 0]) rfl ?_
    refine am_wr rfl rfl rfl ?_
    exact ⟨_, _, rfl, rfl, h7⟩
  · refine am_wb1 rfl true (zt_ne (zq_a _) (by decide) (zr_t _) ⟨by decide, by decide⟩ c4) rfl ?_
    have h8 := h6 c4
    refine am_wh 2 (pc1 := 16) (lv1 := [(0, .ref 26), (1, .int a1)]) (st1 := [.int 128, .ref 26]) rfl ?_
    refine am_wc rfl rfl rfl ?_
    refine am_ww h8 ?_
    rintro _ _ ⟨v11, s9, rfl, rfl, h10⟩
    show am_W _ _ 59 19 [(0, .ref 26), (1, .int a1)] [.int v11] (zH s9) _
    obtain ⟨h13, h14⟩ := h10
    by_cases c12 : v11.toInt = 0
    · refine am_wb1 rfl true (zt_eq (zq_a _) (by decide) (zr_t _) ⟨by decide, by decide⟩ c12) rfl ?_
      have h15 := h13 c12
      refine am_wh 4 (pc1 := 30) (lv1 := [(0, .ref 26), (1, .int a1)]) (st1 := [.int (a1 + 1), .ref 26]) rfl ?_
      refine am_wc rfl rfl rfl ?_
      refine am_ww h15 ?_
      rintro _ _ ⟨v18, s16, rfl, rfl, h17⟩
      show am_W _ _ 59 33 [(0, .ref 26), (1, .int a1)] [.int v18] (zH s16) _
      obtain ⟨h20, h21⟩ := h17
      by_cases c19 : v18.toInt = 0
      · refine am_wb1 rfl true (zt_eq (zq_a _) (by decide) (zr_t _) ⟨by decide, by decide⟩ c19) rfl ?_
        have h22 := h20 c19
        refine am_wh 1 (pc1 := 50) (lv1 := [(0, .ref 26), (1, .int a1)]) (st1 := [.int 0]) rfl ?_
        refine am_wr rfl rfl rfl ?_
        exact ⟨_, _, rfl, rfl, h22⟩
      · refine am_wb1 rfl false (zn_eq (zq_a _) (by decide) (zr_t _) ⟨by decide, by decide⟩ c19) rfl ?_
        have h23 := h21 c19
        refine am_wh 2 (pc1 := 39) (lv1 := [(0, .ref 26), (1, .int a1)]) (st1 := [.int 41, .ref 26]) rfl ?_
        refine am_wc rfl rfl rfl ?_
        refine am_ww h23 ?_
        rintro _ _ ⟨v26, s24, rfl, rfl, h25⟩
        show am_W _ _ 59 42 [(0, .ref 26), (1, .int a1)] [.int v26] (zH s24) _
        obtain ⟨h28, h29⟩ := h25
        by_cases c27 : v26.toInt = 0
        · refine am_wb1 rfl true (zt_eq (zq_a _) (by decide) (zr_t _) ⟨by decide, by decide⟩ c27) rfl ?_
          have h30 := h28 c27
          refine am_wh 1 (pc1 := 50) (lv1 := [(0, .ref 26), (1, .int a1)]) (st1 := [.int 0]) rfl ?_
          refine am_wr rfl rfl rfl ?_
          exact ⟨_, _, rfl, rfl, h30⟩
        · refine am_wb1 rfl false (zn_eq (zq_a _) (by decide) (zr_t _) ⟨by decide, by decide⟩ c27) rfl ?_
          have h31 := h29 c27
          refine am_wh 2 (pc1 := 50) (lv1 := [(0, .ref 26), (1, .int a1)]) (st1 := [.int 1]) rfl ?_
          refine am_wr rfl rfl rfl ?_
          exact ⟨_, _, rfl, rfl, h31⟩
    · refine am_wb1 rfl false (zn_eq (zq_a _) (by decide) (zr_t _) ⟨by decide, by decide⟩ c12) rfl ?_
      have h32 := h14 c12
      refine am_wh 1 (pc1 := 23) (lv1 := [(0, .ref 26), (1, .int a1)]) (st1 := [.ref 26]) rfl ?_
      refine am_wc rfl rfl rfl ?_
      refine am_ww h32 ?_
      rintro _ _ ⟨s33, rfl, rfl, h34⟩
      show am_W _ _ 59 26 [(0, .ref 26), (1, .int a1)] [] (zH s33) _
      refine am_wh 4 (pc1 := 30) (lv1 := [(0, .ref 26), (1, .int a1)]) (st1 := [.int (a1 + 1), .ref 26]) rfl ?_
      refine am_wc rfl rfl rfl ?_
      refine am_ww h34 ?_
      rintro _ _ ⟨v37, s35, rfl, rfl, h36⟩
      show am_W _ _ 59 33 [(0, .ref 26), (1, .int a1)] [.int v37] (zH s35) _
      obtain ⟨h39, h40⟩ := h36
      by_cases c38 : v37.toInt = 0
      · refine am_wb1 rfl true (zt_eq (zq_a _) (by decide) (zr_t _) ⟨by decide, by decide⟩ c38) rfl ?_
        have h41 := h39 c38
        refine am_wh 1 (pc1 := 50) (lv1 := [(0, .ref 26), (1, .int a1)]) (st1 := [.int 0]) rfl ?_
        refine am_wr rfl rfl rfl ?_
        exact ⟨_, _, rfl, rfl, h41⟩
      · refine am_wb1 rfl false (zn_eq (zq_a _) (by decide) (zr_t _) ⟨by decide, by decide⟩ c38) rfl ?_
        have h42 := h40 c38
        refine am_wh 2 (pc1 := 39) (lv1 := [(0, .ref 26), (1, .int a1)]) (st1 := [.int 41, .ref 26]) rfl ?_
        refine am_wc rfl rfl rfl ?_
        refine am_ww h42 ?_
        rintro _ _ ⟨v45, s43, rfl, rfl, h44⟩
        show am_W _ _ 59 42 [(0, .ref 26), (1, .int a1)] [.int v45] (zH s43) _
        obtain ⟨h47, h48⟩ := h44
        by_cases c46 : v45.toInt = 0
        · refine am_wb1 rfl true (zt_eq (zq_a _) (by decide) (zr_t _) ⟨by decide, by decide⟩ c46) rfl ?_
          have h49 := h47 c46
          refine am_wh 1 (pc1 := 50) (lv1 := [(0, .ref 26), (1, .int a1)]) (st1 := [.int 0]) rfl ?_
          refine am_wr rfl rfl rfl ?_
          exact ⟨_, _, rfl, rfl, h49⟩
        · refine am_wb1 rfl false (zn_eq (zq_a _) (by decide) (zr_t _) ⟨by decide, by decide⟩ c46) rfl ?_
          have h50 := h48 c46
          refine am_wh 2 (pc1 := 50) (lv1 := [(0, .ref 26), (1, .int a1)]) (st1 := [.int 1]) rfl ?_
          refine am_wr rfl rfl rfl ?_
          exact ⟨_, _, rfl, rfl, h50⟩
set_option maxRecDepth 100000 in
theorem vc_60_0 (xs : Option (List Int32)) (d : Nat) (s : zS) (a1 : Int32) (Q : Int32 → zS → Prop) (h : zWi xs d 70 0 [(0, .ref 13), (1, .int 4), (2, .int (s.1 12))] s (fun v3 s1 => zWi xs d 63 0 [(0, .ref 26), (1, .int 91), (2, .int a1)] (zf s1 12 v3) (fun v6 s4 => (v6.toInt = 0 → (Q 0 (zf s4 12 (s.1 12)))) ∧ (¬ v6.toInt = 0 → (zWi xs d 54 0 [(0, .ref 26), (1, .int (a1 + 1))] s4 (fun v14 s12 => (v14.toInt = 0 → (Q 0 (zf s12 12 (s.1 12)))) ∧ (¬ v14.toInt = 0 → (zWi xs d 62 0 [(0, .ref 26), (1, .int 20)] s12 (fun v22 s20 => (v22.toInt = 0 → (Q 0 (zf s20 12 (s.1 12)))) ∧ (¬ v22.toInt = 0 → (zWi xs d 64 0 [(0, .ref 26), (1, .int 2)] s20 (fun v30 s28 => (v30.toInt = 0 → (Q 0 (zf s28 12 (s.1 12)))) ∧ (¬ v30.toInt = 0 → (zWv xs d 74 0 [(0, .ref 13), (1, .int v3), (2, .int ((s28.1 7) - 1))] (zf s28 12 (s.1 12)) (fun s36 => zWi xs d 62 0 [(0, .ref 26), (1, .int 24)] (zf s36 13 ((s36.1 13) + 1)) (fun v40 s38 => (v40.toInt = 0 → (Q 0 (zf s38 13 ((s38.1 13) - 1)))) ∧ (¬ v40.toInt = 0 → (zWi xs d 54 0 [(0, .ref 26), (1, .int (a1 + 1))] s38 (fun v48 s46 => (v48.toInt = 0 → (Q 0 (zf s46 13 ((s46.1 13) - 1)))) ∧ (¬ v48.toInt = 0 → (zWi xs d 62 0 [(0, .ref 26), (1, .int 93)] (zf s46 13 ((s46.1 13) - 1)) (fun v56 s54 => (v56.toInt = 0 → (Q 0 s54)) ∧ (¬ v56.toInt = 0 → (Q 1 s54)))))))))))))))))))))))) : zWi xs (d + 1) 60 0 [(0, .ref 26), (1, .int a1)] s Q := by
  unfold zWi
  refine am_wh 7 (pc1 := 11) (lv1 := [(2, .int (s.1 12)), (0, .ref 26), (1, .int a1)]) (st1 := [.int (s.1 12), .int 4, .ref 13]) rfl ?_
  refine am_wc rfl rfl rfl ?_
  refine am_ww h ?_
  rintro _ _ ⟨v3, s1, rfl, rfl, h2⟩
  show am_W _ _ 60 14 [(2, .int (s.1 12)), (0, .ref 26), (1, .int a1)] [.int v3] (zH s1) _
  refine am_wh 3 (pc1 := 17) (lv1 := [(3, .int v3), (2, .int (s.1 12)), (0, .ref 26), (1, .int a1)]) (st1 := [.int v3, .ref 26]) rfl ?_
  refine am_w0 (z := (20, [(3, .int v3), (2, .int (s.1 12)), (0, .ref 26), (1, .int a1)], [], zH (zf s1 12 v3))) rfl rfl (zp_12 ) ?_
  refine am_wh 3 (pc1 := 24) (lv1 := [(3, .int v3), (2, .int (s.1 12)), (0, .ref 26), (1, .int a1)]) (st1 := [.int a1, .int 91, .ref 26]) rfl ?_
  refine am_wc rfl rfl rfl ?_
  refine am_ww h2 ?_
  rintro _ _ ⟨v6, s4, rfl, rfl, h5⟩
  show am_W _ _ 60 27 [(3, .int v3), (2, .int (s.1 12)), (0, .ref 26), (1, .int a1)] [.int v6] (zH s4) _
  obtain ⟨h8, h9⟩ := h5
  by_cases c7 : v6.toInt = 0
  · refine am_wb1 rfl true (zt_eq (zq_a _) (by decide) (zr_t _) ⟨by decide, by decide⟩ c7) rfl ?_
    have h10 := h8 c7
    refine am_wh 4 (pc1 := 66) (lv1 := [(4, .int 0), (3, .int v3), (2, .int (s.1 12)), (0, .ref 26), (1, .int a1)]) (st1 := [.int (s.1 12), .ref 26]) rfl ?_
    refine am_w0 (z := (69, [(4, .int 0), (3, .int v3), (2, .int (s.1 12)), (0, .ref 26), (1, .int a1)], [], zH (zf s4 12 (s.1 12)))) rfl rfl (zp_12 ) ?_
    refine am_wh 3 (pc1 := 75) (lv1 := [(4, .int 0), (3, .int v3), (2, .int (s.1 12)), (0, .ref 26), (1, .int a1)]) (st1 := [.int 0]) rfl ?_
    refine am_wr rfl rfl rfl ?_
    exact ⟨_, _, rfl, rfl, h10⟩
  · refine am_wb1 rfl false (zn_eq (zq_a _) (by decide) (zr_t _) ⟨by decide, by decide⟩ c7) rfl ?_
    have h11 := h9 c7
    refine am_wh 4 (pc1 := 34) (lv1 := [(3, .int v3), (2, .int (s.1 12)), (0, .ref 26), (1, .int a1)]) (st1 := [.int (a1 + 1), .ref 26]) rfl ?_
    refine am_wc rfl rfl rfl ?_
    refine am_ww h11 ?_
    rintro _ _ ⟨v14, s12, rfl, rfl, h13⟩
    show am_W _ _ 60 37 [(3, .int v3), (2, .int (s.1 12)), (0, .ref 26), (1, .int a1)] [.int v14] (zH s12) _
    obtain ⟨h16, h17⟩ := h13
    by_cases c15 : v14.toInt = 0
    · refine am_wb1 rfl true (zt_eq (zq_a _) (by decide) (zr_t _) ⟨by decide, by decide⟩ c15) rfl ?_
      have h18 := h16 c15
      refine am_wh 4 (pc1 := 66) (lv1 := [(4, .int 0), (3, .int v3), (2, .int (s.1 12)), (0, .ref 26), (1, .int a1)]) (st1 := [.int (s.1 12), .ref 26]) rfl ?_
      refine am_w0 (z := (69, [(4, .int 0), (3, .int v3), (2, .int (s.1 12)), (0, .ref 26), (1, .int a1)], [], zH (zf s12 12 (s.1 12)))) rfl rfl (zp_12 ) ?_
      refine am_wh 3 (pc1 := 75) (lv1 := [(4, .int 0), (3, .int v3), (2, .int (s.1 12)), (0, .ref 26), (1, .int a1)]) (st1 := [.int 0]) rfl ?_
      refine am_wr rfl rfl rfl ?_
      exact ⟨_, _, rfl, rfl, h18⟩
    · refine am_wb1 rfl false (zn_eq (zq_a _) (by decide) (zr_t _) ⟨by decide, by decide⟩ c15) rfl ?_
      have h19 := h17 c15
      refine am_wh 2 (pc1 := 43) (lv1 := [(3, .int v3), (2, .int (s.1 12)), (0, .ref 26), (1, .int a1)]) (st1 := [.int 20, .ref 26]) rfl ?_
      refine am_wc rfl rfl rfl ?_
      refine am_ww h19 ?_
      rintro _ _ ⟨v22, s20, rfl, rfl, h21⟩
      show am_W _ _ 60 46 [(3, .int v3), (2, .int (s.1 12)), (0, .ref 26), (1, .int a1)] [.int v22] (zH s20) _
      obtain ⟨h24, h25⟩ := h21
      by_cases c23 : v22.toInt = 0
      · refine am_wb1 rfl true (zt_eq (zq_a _) (by decide) (zr_t _) ⟨by decide, by decide⟩ c23) rfl ?_
        have h26 := h24 c23
        refine am_wh 4 (pc1 := 66) (lv1 := [(4, .int 0), (3, .int v3), (2, .int (s.1 12)), (0, .ref 26), (1, .int a1)]) (st1 := [.int (s.1 12), .ref 26]) rfl ?_
        refine am_w0 (z := (69, [(4, .int 0), (3, .int v3), (2, .int (s.1 12)), (0, .ref 26), (1, .int a1)], [], zH (zf s20 12 (s.1 12)))) rfl rfl (zp_12 ) ?_
        refine am_wh 3 (pc1 := 75) (lv1 := [(4, .int 0), (3, .int v3), (2, .int (s.1 12)), (0, .ref 26), (1, .int a1)]) (st1 := [.int 0]) rfl ?_
        refine am_wr rfl rfl rfl ?_
        exact ⟨_, _, rfl, rfl, h26⟩
      · refine am_wb1 rfl false (zn_eq (zq_a _) (by decide) (zr_t _) ⟨by decide, by decide⟩ c23) rfl ?_
        have h27 := h25 c23
        refine am_wh 2 (pc1 := 51) (lv1 := [(3, .int v3), (2, .int (s.1 12)), (0, .ref 26), (1, .int a1)]) (st1 := [.int 2, .ref 26]) rfl ?_
        refine am_wc rfl rfl rfl ?_
        refine am_ww h27 ?_
        rintro _ _ ⟨v30, s28, rfl, rfl, h29⟩
        show am_W _ _ 60 54 [(3, .int v3), (2, .int (s.1 12)), (0, .ref 26), (1, .int a1)] [.int v30] (zH s28) _
        obtain ⟨h32, h33⟩ := h29
        by_cases c31 : v30.toInt = 0
        · refine am_wb1 rfl true (zt_eq (zq_a _) (by decide) (zr_t _) ⟨by decide, by decide⟩ c31) rfl ?_
          have h34 := h32 c31
          refine am_wh 4 (pc1 := 66) (lv1 := [(4, .int 0), (3, .int v3), (2, .int (s.1 12)), (0, .ref 26), (1, .int a1)]) (st1 := [.int (s.1 12), .ref 26]) rfl ?_
          refine am_w0 (z := (69, [(4, .int 0), (3, .int v3), (2, .int (s.1 12)), (0, .ref 26), (1, .int a1)], [], zH (zf s28 12 (s.1 12)))) rfl rfl (zp_12 ) ?_
          refine am_wh 3 (pc1 := 75) (lv1 := [(4, .int 0), (3, .int v3), (2, .int (s.1 12)), (0, .ref 26), (1, .int a1)]) (st1 := [.int 0]) rfl ?_
          refine am_wr rfl rfl rfl ?_
          exact ⟨_, _, rfl, rfl, h34⟩
        · refine am_wb1 rfl false (zn_eq (zq_a _) (by decide) (zr_t _) ⟨by decide, by decide⟩ c31) rfl ?_
          have h35 := h33 c31
          refine am_wh 5 (pc1 := 66) (lv1 := [(4, .int 1), (3, .int v3), (2, .int (s.1 12)), (0, .ref 26), (1, .int a1)]) (st1 := [.int (s.1 12), .ref 26]) rfl ?_
          refine am_w0 (z := (69, [(4, .int 1), (3, .int v3), (2, .int (s.1 12)), (0, .ref 26), (1, .int a1)], [], zH (zf s28 12 (s.1 12)))) rfl rfl (zp_12 ) ?_
          refine am_wh 10 (pc1 := 90) (lv1 := [(4, .int 1), (3, .int v3), (2, .int (s.1 12)), (0, .ref 26), (1, .int a1)]) (st1 := [.int ((s28.1 7) - 1), .int v3, .ref 13]) rfl ?_
          refine am_wc rfl rfl rfl ?_
          refine am_ww h35 ?_
          rintro _ _ ⟨s36, rfl, rfl, h37⟩
          show am_W _ _ 60 93 [(4, .int 1), (3, .int v3), (2, .int (s.1 12)), (0, .ref 26), (1, .int a1)] [] (zH s36) _
          refine am_wh 5 (pc1 := 100) (lv1 := [(4, .int 1), (3, .int v3), (2, .int (s.1 12)), (0, .ref 26), (1, .int a1)]) (st1 := [.int ((s36.1 13) + 1), .ref 26]) rfl ?_
          refine am_w0 (z := (103, [(4, .int 1), (3, .int v3), (2, .int (s.1 12)), (0, .ref 26), (1, .int a1)], [], zH (zf s36 13 ((s36.1 13) + 1)))) rfl rfl (zp_13 ) ?_
          refine am_wh 2 (pc1 := 106) (lv1 := [(4, .int 1), (3, .int v3), (2, .int (s.1 12)), (0, .ref 26), (1, .int a1)]) (st1 := [.int 24, .ref 26]) rfl ?_
          refine am_wc rfl rfl rfl ?_
          refine am_ww h37 ?_
          rintro _ _ ⟨v40, s38, rfl, rfl, h39⟩
          show am_W _ _ 60 109 [(4, .int 1), (3, .int v3), (2, .int (s.1 12)), (0, .ref 26), (1, .int a1)] [.int v40] (zH s38) _
          obtain ⟨h42, h43⟩ := h39
          by_cases c41 : v40.toInt = 0
          · refine am_wb1 rfl true (zt_eq (zq_a _) (by decide) (zr_t _) ⟨by decide, by decide⟩ c41) rfl ?_
            have h44 := h42 c41
            refine am_wh 7 (pc1 := 136) (lv1 := [(4, .int 0), (3, .int v3), (2, .int (s.1 12)), (0, .ref 26), (1, .int a1)]) (st1 := [.int ((s38.1 13) - 1), .ref 26]) rfl ?_
            refine am_w0 (z := (139, [(4, .int 0), (3, .int v3), (2, .int (s.1 12)), (0, .ref 26), (1, .int a1)], [], zH (zf s38 13 ((s38.1 13) - 1)))) rfl rfl (zp_13 ) ?_
            refine am_wh 3 (pc1 := 158) (lv1 := [(4, .int 0), (3, .int v3), (2, .int (s.1 12)), (0, .ref 26), (1, .int a1)]) (st1 := [.int 0]) rfl ?_
            refine am_wr rfl rfl rfl ?_
            exact ⟨_, _, rfl, rfl, h44⟩
          · refine am_wb1 rfl false (zn_eq (zq_a _) (by decide) (zr_t _) ⟨by decide, by decide⟩ c41) rfl ?_
            have h45 := h43 c41
            refine am_wh 4 (pc1 := 116) (lv1 := [(4, .int 1), (3, .int v3), (2, .int (s.1 12)), (0, .ref 26), (1, .int a1)]) (st1 := [.int (a1 + 1), .ref 26]) rfl ?_
            refine am_wc rfl rfl rfl ?_
            refine am_ww h45 ?_
            rintro _ _ ⟨v48, s46, rfl, rfl, h47⟩
            show am_W _ _ 60 119 [(4, .int 1), (3, .int v3), (2, .int (s.1 12)), (0, .ref 26), (1, .int a1)] [.int v48] (zH s46) _
            obtain ⟨h50, h51⟩ := h47
            by_cases c49 : v48.toInt = 0
            · refine am_wb1 rfl true (zt_eq (zq_a _) (by decide) (zr_t _) ⟨by decide, by decide⟩ c49) rfl ?_
              have h52 := h50 c49
              refine am_wh 7 (pc1 := 136) (lv1 := [(4, .int 0), (3, .int v3), (2, .int (s.1 12)), (0, .ref 26), (1, .int a1)]) (st1 := [.int ((s46.1 13) - 1), .ref 26]) rfl ?_
              refine am_w0 (z := (139, [(4, .int 0), (3, .int v3), (2, .int (s.1 12)), (0, .ref 26), (1, .int a1)], [], zH (zf s46 13 ((s46.1 13) - 1)))) rfl rfl (zp_13 ) ?_
              refine am_wh 3 (pc1 := 158) (lv1 := [(4, .int 0), (3, .int v3), (2, .int (s.1 12)), (0, .ref 26), (1, .int a1)]) (st1 := [.int 0]) rfl ?_
              refine am_wr rfl rfl rfl ?_
              exact ⟨_, _, rfl, rfl, h52⟩
            · refine am_wb1 rfl false (zn_eq (zq_a _) (by decide) (zr_t _) ⟨by decide, by decide⟩ c49) rfl ?_
              have h53 := h51 c49
              refine am_wh 8 (pc1 := 136) (lv1 := [(4, .int 1), (3, .int v3), (2, .int (s.1 12)), (0, .ref 26), (1, .int a1)]) (st1 := [.int ((s46.1 13) - 1), .ref 26]) rfl ?_
              refine am_w0 (z := (139, [(4, .int 1), (3, .int v3), (2, .int (s.1 12)), (0, .ref 26), (1, .int a1)], [], zH (zf s46 13 ((s46.1 13) - 1)))) rfl rfl (zp_13 ) ?_
              refine am_wh 4 (pc1 := 147) (lv1 := [(4, .int 1), (3, .int v3), (2, .int (s.1 12)), (0, .ref 26), (1, .int a1)]) (st1 := [.int 93, .ref 26]) rfl ?_
              refine am_wc rfl rfl rfl ?_
              refine am_ww h53 ?_
              rintro _ _ ⟨v56, s54, rfl, rfl, h55⟩
              show am_W _ _ 60 150 [(4, .int 1), (3, .int v3), (2, .int (s.1 12)), (0, .ref 26), (1, .int a1)] [.int v56] (zH s54) _
              obtain ⟨h58, h59⟩ := h55
              by_cases c57 : v56.toInt = 0
              · refine am_wb1 rfl true (zt_eq (zq_a _) (by decide) (zr_t _) ⟨by decide, by decide⟩ c57) rfl ?_
                have h60 := h58 c57
                refine am_wh 1 (pc1 := 158) (lv1 := [(4, .int 1), (3, .int v3), (2, .int (s.1 12)), (0, .ref 26), (1, .int a1)]) (st1 := [.int 0]) rfl ?_
                refine am_wr rfl rfl rfl ?_
                exact ⟨_, _, rfl, rfl, h60⟩
              · refine am_wb1 rfl false (zn_eq (zq_a _) (by decide) (zr_t _) ⟨by decide, by decide⟩ c57) rfl ?_
                have h61 := h59 c57
                refine am_wh 2 (pc1 := 158) (lv1 := [(4, .int 1), (3, .int v3), (2, .int (s.1 12)), (0, .ref 26), (1, .int a1)]) (st1 := [.int 1]) rfl ?_
                refine am_wr rfl rfl rfl ?_
                exact ⟨_, _, rfl, rfl, h61⟩
set_option maxRecDepth 100000 in
theorem vc_61_0 (xs : Option (List Int32)) (d : Nat) (s : zS) (a1 : Int32) (Q : Int32 → zS → Prop) (h : ((s.1 9).toInt = 0 → (zWi xs d 94 0 [(0, .ref 5), (1, .int ((s.1 8) + 1))] s (fun v7 s5 => (v7.toInt = a1.toInt → (Q 1 s5)) ∧ (¬ v7.toInt = a1.toInt → (Q 0 s5))))) ∧ (¬ (s.1 9).toInt = 0 → (Q 0 s))) : zWi xs (d + 1) 61 0 [(0, .ref 26), (1, .int a1)] s Q := by
  unfold zWi
  refine am_wh 2 (pc1 := 4) (lv1 := [(0, .ref 26), (1, .int a1)]) (st1 := [.int (s.1 9)]) rfl ?_
  obtain ⟨h2, h3⟩ := h
  by_cases c1 : (s.1 9).toInt = 0
  · refine am_wb1 rfl false (zn_ne (zq_a _) (by decide) (zr_t _) ⟨by decide, by decide⟩ c1) rfl ?_
    have h4 := h2 c1
    refine am_wh 6 (pc1 := 17) (lv1 := [(0, .ref 26), (1, .int a1)]) (st1 := [.int ((s.1 8) + 1), .ref 5]) rfl ?_
    refine am_wc rfl rfl rfl ?_
    refine am_ww h4 ?_
    rintro _ _ ⟨v7, s5, rfl, rfl, h6⟩
    show am_W _ _ 61 20 [(0, .ref 26), (1, .int a1)] [.int v7] (zH s5) _
    refine am_wh 1 (pc1 := 21) (lv1 := [(0, .ref 26), (1, .int a1)]) (st1 := [.int a1, .int v7]) rfl ?_
    obtain ⟨h9, h10⟩ := h6
    by_cases c8 : v7.toInt = a1.toInt
    · refine am_wb2 rfl false (zn_ne (zq_a _) (zq_a _) (zr_t _) (zr_t _) c8) rfl ?_
      have h11 := h9 c8
      refine am_wh 2 (pc1 := 29) (lv1 := [(0, .ref 26), (1, .int a1)]) (st1 := [.int 1]) rfl ?_
      refine am_wr rfl rfl rfl ?_
      exact ⟨_, _, rfl, rfl, h11⟩
    · refine am_wb2 rfl true (zt_ne (zq_a _) (zq_a _) (zr_t _) (zr_t _) c8) rfl ?_
      have h12 := h10 c8
      refine am_wh 1 (pc1 := 29) (lv1 := [(0, .ref 26), (1, .int a1)]) (st1 := [.int 0]) rfl ?_
      refine am_wr rfl rfl rfl ?_
      exact ⟨_, _, rfl, rfl, h12⟩
  · refine am_wb1 rfl true (zt_ne (zq_a _) (by decide) (zr_t _) ⟨by decide, by decide⟩ c1) rfl ?_
    have h13 := h3 c1
    refine am_wh 1 (pc1 := 29) (lv1 := [(0, .ref 26), (1, .int a1)]) (st1 := [.int 0]) rfl ?_
    refine am_wr rfl rfl rfl ?_
    exact ⟨_, _, rfl, rfl, h13⟩
set_option maxRecDepth 100000 in
theorem vc_62_0 (xs : Option (List Int32)) (d : Nat) (s : zS) (a1 : Int32) (Q : Int32 → zS → Prop) (h : ((s.1 9).toInt = a1.toInt → (zWv xs d 66 0 [(0, .ref 26)] s (fun s5 => Q 1 s5))) ∧ (¬ (s.1 9).toInt = a1.toInt → (zWi xs d 67 0 [(0, .ref 26), (1, .int 20)] s (fun v10 s8 => (v10 = 0 ∨ v10 = 1) ∧ Q v10 s8)))) : zWi xs (d + 1) 62 0 [(0, .ref 26), (1, .int a1)] s Q := by
  unfold zWi
  refine am_wh 3 (pc1 := 5) (lv1 := [(0, .ref 26), (1, .int a1)]) (st1 := [.int a1, .int (s.1 9)]) rfl ?_
  obtain ⟨h2, h3⟩ := h
  by_cases c1 : (s.1 9).toInt = a1.toInt
  · refine am_wb2 rfl true (zt_eq (zq_a _) (zq_a _) (zr_t _) (zr_t _) c1) rfl ?_
    have h4 := h2 c1
    refine am_wh 1 (pc1 := 16) (lv1 := [(0, .ref 26), (1, .int a1)]) (st1 := [.ref 26]) rfl ?_
    refine am_wc rfl rfl rfl ?_
    refine am_ww h4 ?_
    rintro _ _ ⟨s5, rfl, rfl, h6⟩
    show am_W _ _ 62 19 [(0, .ref 26), (1, .int a1)] [] (zH s5) _
    refine am_wh 1 (pc1 := 20) (lv1 := [(0, .ref 26), (1, .int a1)]) (st1 := [.int 1]) rfl ?_
    refine am_wr rfl rfl rfl ?_
    exact ⟨_, _, rfl, rfl, h6⟩
  · refine am_wb2 rfl false (zn_eq (zq_a _) (zq_a _) (zr_t _) (zr_t _) c1) rfl ?_
    have h7 := h3 c1
    refine am_wh 2 (pc1 := 11) (lv1 := [(0, .ref 26), (1, .int a1)]) (st1 := [.int 20, .ref 26]) rfl ?_
    refine am_wc rfl rfl rfl ?_
    refine am_ww h7 ?_
    rintro _ _ ⟨v10, s8, rfl, rfl, h9⟩
    show am_W _ _ 62 14 [(0, .ref 26), (1, .int a1)] [.int v10] (zH s8) _
    obtain ⟨o11, h12⟩ := h9
    refine am_wr rfl rfl (zr_b o11) ?_
    exact ⟨_, _, rfl, rfl, h12⟩
set_option maxRecDepth 100000 in
theorem vc_63_0 (xs : Option (List Int32)) (d : Nat) (s : zS) (a1 : Int32) (a2 : Int32) (Q : Int32 → zS → Prop) (h : ((s.1 9).toInt = a1.toInt → ((a2.toInt < 10 → (zWv xs d 66 0 [(0, .ref 26)] s (fun s9 => Q 1 s9))) ∧ (¬ a2.toInt < 10 → (zWi xs d 67 0 [(0, .ref 26), (1, .int 21)] s (fun v14 s12 => (v14 = 0 ∨ v14 = 1) ∧ Q v14 s12))))) ∧ (¬ (s.1 9).toInt = a1.toInt → (zWi xs d 67 0 [(0, .ref 26), (1, .int 20)] s (fun v20 s18 => (v20 = 0 ∨ v20 = 1) ∧ Q v20 s18)))) : zWi xs (d + 1) 63 0 [(0, .ref 26), (1, .int a1), (2, .int a2)] s Q := by
  unfold zWi
  refine am_wh 3 (pc1 := 5) (lv1 := [(0, .ref 26), (1, .int a1), (2, .int a2)]) (st1 := [.int a1, .int (s.1 9)]) rfl ?_
  obtain ⟨h2, h3⟩ := h
  by_cases c1 : (s.1 9).toInt = a1.toInt
  · refine am_wb2 rfl true (zt_eq (zq_a _) (zq_a _) (zr_t _) (zr_t _) c1) rfl ?_
    have h4 := h2 c1
    refine am_wh 2 (pc1 := 18) (lv1 := [(0, .ref 26), (1, .int a1), (2, .int a2)]) (st1 := [.int 10, .int a2]) rfl ?_
    obtain ⟨h6, h7⟩ := h4
    by_cases c5 : a2.toInt < 10
    · refine am_wb2 rfl true (zt_lt (zq_a _) (by decide) (zr_t _) ⟨by decide, by decide⟩ c5) rfl ?_
      have h8 := h6 c5
      refine am_wh 1 (pc1 := 29) (lv1 := [(0, .ref 26), (1, .int a1), (2, .int a2)]) (st1 := [.ref 26]) rfl ?_
      refine am_wc rfl rfl rfl ?_
      refine am_ww h8 ?_
      rintro _ _ ⟨s9, rfl, rfl, h10⟩
      show am_W _ _ 63 32 [(0, .ref 26), (1, .int a1), (2, .int a2)] [] (zH s9) _
      refine am_wh 1 (pc1 := 33) (lv1 := [(0, .ref 26), (1, .int a1), (2, .int a2)]) (st1 := [.int 1]) rfl ?_
      refine am_wr rfl rfl rfl ?_
      exact ⟨_, _, rfl, rfl, h10⟩
    · refine am_wb2 rfl false (zn_lt (zq_a _) (by decide) (zr_t _) ⟨by decide, by decide⟩ c5) rfl ?_
      have h11 := h7 c5
      refine am_wh 2 (pc1 := 24) (lv1 := [(0, .ref 26), (1, .int a1), (2, .int a2)]) (st1 := [.int 21, .ref 26]) rfl ?_
      refine am_wc rfl rfl rfl ?_
      refine am_ww h11 ?_
      rintro _ _ ⟨v14, s12, rfl, rfl, h13⟩
      show am_W _ _ 63 27 [(0, .ref 26), (1, .int a1), (2, .int a2)] [.int v14] (zH s12) _
      obtain ⟨o15, h16⟩ := h13
      refine am_wr rfl rfl (zr_b o15) ?_
      exact ⟨_, _, rfl, rfl, h16⟩
  · refine am_wb2 rfl false (zn_eq (zq_a _) (zq_a _) (zr_t _) (zr_t _) c1) rfl ?_
    have h17 := h3 c1
    refine am_wh 2 (pc1 := 11) (lv1 := [(0, .ref 26), (1, .int a1), (2, .int a2)]) (st1 := [.int 20, .ref 26]) rfl ?_
    refine am_wc rfl rfl rfl ?_
    refine am_ww h17 ?_
    rintro _ _ ⟨v20, s18, rfl, rfl, h19⟩
    show am_W _ _ 63 14 [(0, .ref 26), (1, .int a1), (2, .int a2)] [.int v20] (zH s18) _
    obtain ⟨o21, h22⟩ := h19
    refine am_wr rfl rfl (zr_b o21) ?_
    exact ⟨_, _, rfl, rfl, h22⟩
set_option maxRecDepth 100000 in
theorem vc_64_0 (xs : Option (List Int32)) (d : Nat) (s : zS) (a1 : Int32) (Q : Int32 → zS → Prop) (h : ((s.1 9).toInt = 0 → (zWv xs d 66 0 [(0, .ref 26)] s (fun s5 => zWv xs d 29 0 [(0, .ref 17), (1, .int (s.1 10)), (2, .int (s5.1 11)), (3, .int (s5.1 12)), (4, .int (s5.1 12)), (5, .int a1)] s5 (fun s7 => Q 1 s7)))) ∧ (¬ (s.1 9).toInt = 0 → (zWi xs d 67 0 [(0, .ref 26), (1, .int 20)] s (fun v12 s10 => (v12 = 0 ∨ v12 = 1) ∧ Q v12 s10)))) : zWi xs (d + 1) 64 0 [(0, .ref 26), (1, .int a1)] s Q := by
  unfold zWi
  refine am_wh 2 (pc1 := 4) (lv1 := [(0, .ref 26), (1, .int a1)]) (st1 := [.int (s.1 9)]) rfl ?_
  obtain ⟨h2, h3⟩ := h
  by_cases c1 : (s.1 9).toInt = 0
  · refine am_wb1 rfl true (zt_eq (zq_a _) (by decide) (zr_t _) ⟨by decide, by decide⟩ c1) rfl ?_
    have h4 := h2 c1
    refine am_wh 4 (pc1 := 20) (lv1 := [(2, .int (s.1 10)), (0, .ref 26), (1, .int a1)]) (st1 := [.ref 26]) rfl ?_
    refine am_wc rfl rfl rfl ?_
    refine am_ww h4 ?_
    rintro _ _ ⟨s5, rfl, rfl, h6⟩
    show am_W _ _ 64 23 [(2, .int (s.1 10)), (0, .ref 26), (1, .int a1)] [] (zH s5) _
    refine am_wh 10 (pc1 := 41) (lv1 := [(2, .int (s.1 10)), (0, .ref 26), (1, .int a1)]) (st1 := [.int a1, .int (s5.1 12), .int (s5.1 12), .int (s5.1 11), .int (s.1 10), .ref 17]) rfl ?_
    refine am_wc rfl rfl rfl ?_
    refine am_ww h6 ?_
    rintro _ _ ⟨s7, rfl, rfl, h8⟩
    show am_W _ _ 64 44 [(2, .int (s.1 10)), (0, .ref 26), (1, .int a1)] [] (zH s7) _
    refine am_wh 1 (pc1 := 45) (lv1 := [(2, .int (s.1 10)), (0, .ref 26), (1, .int a1)]) (st1 := [.int 1]) rfl ?_
    refine am_wr rfl rfl rfl ?_
    exact ⟨_, _, rfl, rfl, h8⟩
  · refine am_wb1 rfl false (zn_eq (zq_a _) (by decide) (zr_t _) ⟨by decide, by decide⟩ c1) rfl ?_
    have h9 := h3 c1
    refine am_wh 2 (pc1 := 10) (lv1 := [(0, .ref 26), (1, .int a1)]) (st1 := [.int 20, .ref 26]) rfl ?_
    refine am_wc rfl rfl rfl ?_
    refine am_ww h9 ?_
    rintro _ _ ⟨v12, s10, rfl, rfl, h11⟩
    show am_W _ _ 64 13 [(0, .ref 26), (1, .int a1)] [.int v12] (zH s10) _
    obtain ⟨o13, h14⟩ := h11
    refine am_wr rfl rfl (zr_b o13) ?_
    exact ⟨_, _, rfl, rfl, h14⟩
set_option maxRecDepth 100000 in
theorem vc_65_0 (xs : Option (List Int32)) (d : Nat) (s : zS)  (Q : zS → Prop) (h : zWv xs d 66 0 [(0, .ref 26)] s (fun s1 => (0 < (s1.1 13).toInt → (zWi xs d 75 0 [(0, .ref 13), (1, .int (s1.1 12))] s1 (fun v9 s7 => zWv xs d 29 0 [(0, .ref 17), (1, .int (s.1 10)), (2, .int (s7.1 11)), (3, .int (s7.1 12)), (4, .int v9), (5, .int 98)] s7 (fun s10 => zWv xs d 66 0 [(0, .ref 26)] s10 (fun s12 => Q s12))))) ∧ (¬ 0 < (s1.1 13).toInt → (zWi xs d 75 0 [(0, .ref 13), (1, .int (s1.1 12))] s1 (fun v17 s15 => zWv xs d 29 0 [(0, .ref 17), (1, .int (s.1 10)), (2, .int (s15.1 11)), (3, .int (s15.1 12)), (4, .int v17), (5, .int 34)] s15 (fun s18 => zWv xs d 66 0 [(0, .ref 26)] s18 (fun s20 => Q s20))))))) : zWv xs (d + 1) 65 0 [(0, .ref 26)] s Q := by
  unfold zWv
  refine am_wh 4 (pc1 := 6) (lv1 := [(1, .int (s.1 10)), (0, .ref 26)]) (st1 := [.ref 26]) rfl ?_
  refine am_wc rfl rfl rfl ?_
  refine am_ww h ?_
  rintro _ _ ⟨s1, rfl, rfl, h2⟩
  show am_W _ _ 65 9 [(1, .int (s.1 10)), (0, .ref 26)] [] (zH s1) _
  refine am_wh 4 (pc1 := 16) (lv1 := [(2, .int 34), (1, .int (s.1 10)), (0, .ref 26)]) (st1 := [.int (s1.1 13)]) rfl ?_
  obtain ⟨h4, h5⟩ := h2
  by_cases c3 : 0 < (s1.1 13).toInt
  · refine am_wb1 rfl false (zn_le (zq_a _) (by decide) (zr_t _) ⟨by decide, by decide⟩ c3) rfl ?_
    have h6 := h4 c3
    refine am_wh 8 (pc1 := 32) (lv1 := [(2, .int 98), (1, .int (s.1 10)), (0, .ref 26)]) (st1 := [.int (s1.1 12), .ref 13]) rfl ?_
    refine am_wc rfl rfl rfl ?_
    refine am_ww h6 ?_
    rintro _ _ ⟨v9, s7, rfl, rfl, h8⟩
    show am_W _ _ 65 35 [(2, .int 98), (1, .int (s.1 10)), (0, .ref 26)] [.int v9] (zH s7) _
    refine am_wh 10 (pc1 := 51) (lv1 := [(3, .int v9), (2, .int 98), (1, .int (s.1 10)), (0, .ref 26)]) (st1 := [.int 98, .int v9, .int (s7.1 12), .int (s7.1 11), .int (s.1 10), .ref 17]) rfl ?_
    refine am_wc rfl rfl rfl ?_
    refine am_ww h8 ?_
    rintro _ _ ⟨s10, rfl, rfl, h11⟩
    show am_W _ _ 65 54 [(3, .int v9), (2, .int 98), (1, .int (s.1 10)), (0, .ref 26)] [] (zH s10) _
    refine am_wh 1 (pc1 := 55) (lv1 := [(3, .int v9), (2, .int 98), (1, .int (s.1 10)), (0, .ref 26)]) (st1 := [.ref 26]) rfl ?_
    refine am_wc rfl rfl rfl ?_
    refine am_ww h11 ?_
    rintro _ _ ⟨s12, rfl, rfl, h13⟩
    show am_W _ _ 65 58 [(3, .int v9), (2, .int 98), (1, .int (s.1 10)), (0, .ref 26)] [] (zH s12) _
    refine am_wr rfl rfl rfl ?_
    exact ⟨_, rfl, rfl, h13⟩
  · refine am_wb1 rfl true (zt_le (zq_a _) (by decide) (zr_t _) ⟨by decide, by decide⟩ c3) rfl ?_
    have h14 := h5 c3
    refine am_wh 4 (pc1 := 32) (lv1 := [(2, .int 34), (1, .int (s.1 10)), (0, .ref 26)]) (st1 := [.int (s1.1 12), .ref 13]) rfl ?_
    refine am_wc rfl rfl rfl ?_
    refine am_ww h14 ?_
    rintro _ _ ⟨v17, s15, rfl, rfl, h16⟩
    show am_W _ _ 65 35 [(2, .int 34), (1, .int (s.1 10)), (0, .ref 26)] [.int v17] (zH s15) _
    refine am_wh 10 (pc1 := 51) (lv1 := [(3, .int v17), (2, .int 34), (1, .int (s.1 10)), (0, .ref 26)]) (st1 := [.int 34, .int v17, .int (s15.1 12), .int (s15.1 11), .int (s.1 10), .ref 17]) rfl ?_
    refine am_wc rfl rfl rfl ?_
    refine am_ww h16 ?_
    rintro _ _ ⟨s18, rfl, rfl, h19⟩
    show am_W _ _ 65 54 [(3, .int v17), (2, .int 34), (1, .int (s.1 10)), (0, .ref 26)] [] (zH s18) _
    refine am_wh 1 (pc1 := 55) (lv1 := [(3, .int v17), (2, .int 34), (1, .int (s.1 10)), (0, .ref 26)]) (st1 := [.ref 26]) rfl ?_
    refine am_wc rfl rfl rfl ?_
    refine am_ww h19 ?_
    rintro _ _ ⟨s20, rfl, rfl, h21⟩
    show am_W _ _ 65 58 [(3, .int v17), (2, .int 34), (1, .int (s.1 10)), (0, .ref 26)] [] (zH s20) _
    refine am_wr rfl rfl rfl ?_
    exact ⟨_, rfl, rfl, h21⟩
set_option maxRecDepth 100000 in
theorem vc_66_0 (xs : Option (List Int32)) (d : Nat) (s : zS)  (Q : zS → Prop) (h : ((s.1 9).toInt < 4 → (((s.1 8).toInt < 0 → (zR ((s.1 8).toInt + 1) ∧ (((s.1 8).toInt + 1) < (s.1 2).toInt → (zX (s.2 4) ((s.1 8).toInt + 1) ∧ zX (s.2 5) ((s.1 8).toInt + 1) ∧ Q (zf (zf (zf s 8 ((s.1 8) + 1)) 9 (zg (s.2 4) ((s.1 8).toInt + 1))) 10 (zg (s.2 5) ((s.1 8).toInt + 1))))) ∧ (¬ ((s.1 8).toInt + 1) < (s.1 2).toInt → (Q (zf s 8 ((s.1 8) + 1)))))) ∧ (¬ (s.1 8).toInt < 0 → (((s.1 8).toInt < (s.1 2).toInt → (zX (s.2 6) (s.1 8).toInt ∧ zR ((s.1 8).toInt + 1) ∧ (((s.1 8).toInt + 1) < (s.1 2).toInt → (zX (s.2 4) ((s.1 8).toInt + 1) ∧ zX (s.2 5) ((s.1 8).toInt + 1) ∧ Q (zf (zf (zf (zf s 11 (zg (s.2 6) (s.1 8).toInt)) 8 ((s.1 8) + 1)) 9 (zg (s.2 4) ((s.1 8).toInt + 1))) 10 (zg (s.2 5) ((s.1 8).toInt + 1))))) ∧ (¬ ((s.1 8).toInt + 1) < (s.1 2).toInt → (Q (zf (zf s 11 (zg (s.2 6) (s.1 8).toInt)) 8 ((s.1 8) + 1)))))) ∧ (¬ (s.1 8).toInt < (s.1 2).toInt → (zR ((s.1 8).toInt + 1) ∧ (((s.1 8).toInt + 1) < (s.1 2).toInt → (zX (s.2 4) ((s.1 8).toInt + 1) ∧ zX (s.2 5) ((s.1 8).toInt + 1) ∧ Q (zf (zf (zf s 8 ((s.1 8) + 1)) 9 (zg (s.2 4) ((s.1 8).toInt + 1))) 10 (zg (s.2 5) ((s.1 8).toInt + 1))))) ∧ (¬ ((s.1 8).toInt + 1) < (s.1 2).toInt → (Q (zf s 8 ((s.1 8) + 1)))))))))) ∧ (¬ (s.1 9).toInt < 4 → ((8 < (s.1 9).toInt → (((s.1 8).toInt < 0 → (zR ((s.1 8).toInt + 1) ∧ (((s.1 8).toInt + 1) < (s.1 2).toInt → (zX (s.2 4) ((s.1 8).toInt + 1) ∧ zX (s.2 5) ((s.1 8).toInt + 1) ∧ Q (zf (zf (zf s 8 ((s.1 8) + 1)) 9 (zg (s.2 4) ((s.1 8).toInt + 1))) 10 (zg (s.2 5) ((s.1 8).toInt + 1))))) ∧ (¬ ((s.1 8).toInt + 1) < (s.1 2).toInt → (Q (zf s 8 ((s.1 8) + 1)))))) ∧ (¬ (s.1 8).toInt < 0 → (((s.1 8).toInt < (s.1 2).toInt → (zX (s.2 6) (s.1 8).toInt ∧ zR ((s.1 8).toInt + 1) ∧ (((s.1 8).toInt + 1) < (s.1 2).toInt → (zX (s.2 4) ((s.1 8).toInt + 1) ∧ zX (s.2 5) ((s.1 8).toInt + 1) ∧ Q (zf (zf (zf (zf s 11 (zg (s.2 6) (s.1 8).toInt)) 8 ((s.1 8) + 1)) 9 (zg (s.2 4) ((s.1 8).toInt + 1))) 10 (zg (s.2 5) ((s.1 8).toInt + 1))))) ∧ (¬ ((s.1 8).toInt + 1) < (s.1 2).toInt → (Q (zf (zf s 11 (zg (s.2 6) (s.1 8).toInt)) 8 ((s.1 8) + 1)))))) ∧ (¬ (s.1 8).toInt < (s.1 2).toInt → (zR ((s.1 8).toInt + 1) ∧ (((s.1 8).toInt + 1) < (s.1 2).toInt → (zX (s.2 4) ((s.1 8).toInt + 1) ∧ zX (s.2 5) ((s.1 8).toInt + 1) ∧ Q (zf (zf (zf s 8 ((s.1 8) + 1)) 9 (zg (s.2 4) ((s.1 8).toInt + 1))) 10 (zg (s.2 5) ((s.1 8).toInt + 1))))) ∧ (¬ ((s.1 8).toInt + 1) < (s.1 2).toInt → (Q (zf s 8 ((s.1 8) + 1)))))))))) ∧ (¬ 8 < (s.1 9).toInt → (zR ((s.1 8).toInt + 1) ∧ (((s.1 8).toInt + 1) < (s.1 2).toInt → (zX (s.2 4) ((s.1 8).toInt + 1) ∧ zX (s.2 5) ((s.1 8).toInt + 1) ∧ Q (zf (zf (zf s 8 ((s.1 8) + 1)) 9 (zg (s.2 4) ((s.1 8).toInt + 1))) 10 (zg (s.2 5) ((s.1 8).toInt + 1))))) ∧ (¬ ((s.1 8).toInt + 1) < (s.1 2).toInt → (Q (zf s 8 ((s.1 8) + 1))))))))) : zWv xs d 66 0 [(0, .ref 26)] s Q := by
  unfold zWv
  refine am_wh 3 (pc1 := 5) (lv1 := [(0, .ref 26)]) (st1 := [.int 4, .int (s.1 9)]) rfl ?_
  obtain ⟨h2, h3⟩ := h
  by_cases c1 : (s.1 9).toInt < 4
  · refine am_wb2 rfl true (zt_lt (zq_a _) (by decide) (zr_t _) ⟨by decide, by decide⟩ c1) rfl ?_
    have h4 := h2 c1
    refine am_wh 7 (pc1 := 31) (lv1 := [(1, .int 1), (0, .ref 26)]) (st1 := [.int (s.1 8)]) rfl ?_
    obtain ⟨h6, h7⟩ := h4
    by_cases c5 : (s.1 8).toInt < 0
    · refine am_wb1 rfl true (zt_lt (zq_a _) (by decide) (zr_t _) ⟨by decide, by decide⟩ c5) rfl ?_
      have h8 := h6 c5
      refine am_wh 5 (pc1 := 71) (lv1 := [(1, .int 1), (0, .ref 26)]) (st1 := [.int ((s.1 8) + 1), .ref 26]) rfl ?_
      refine am_w0 (z := (74, [(1, .int 1), (0, .ref 26)], [], zH (zf s 8 ((s.1 8) + 1)))) rfl rfl (zp_8 ) ?_
      refine am_wh 5 (pc1 := 85) (lv1 := [(1, .int 1), (0, .ref 26)]) (st1 := [.int (s.1 2), .int ((s.1 8) + 1)]) rfl ?_
      obtain ⟨o9, h10⟩ := h8
      obtain ⟨h12, h13⟩ := h10
      by_cases c11 : ((s.1 8).toInt + 1) < (s.1 2).toInt
      · refine am_wb2 rfl false (zn_ge (zq_add (zq_a _) (by decide)) (zq_a _) o9 (zr_t _) c11) rfl ?_
        have h14 := h12 c11
        refine am_wh 6 (pc1 := 100) (lv1 := [(1, .int 1), (0, .ref 26)]) (st1 := [.int ((s.1 8) + 1), .ref 6, .ref 26]) rfl ?_
        obtain ⟨o15, h16⟩ := h14
        refine zw_li (l := (s.2 4)) (i := ((s.1 8).toInt + 1)) rfl rfl (zq_add (zq_a _) (by decide)) o15 ?_
        refine am_w0 (z := (104, [(1, .int 1), (0, .ref 26)], [], zH (zf (zf s 8 ((s.1 8) + 1)) 9 (zg (s.2 4) ((s.1 8).toInt + 1))))) rfl rfl (zp_9 ) ?_
        refine am_wh 6 (pc1 := 116) (lv1 := [(1, .int 1), (0, .ref 26)]) (st1 := [.int ((s.1 8) + 1), .ref 7, .ref 26]) rfl ?_
        obtain ⟨o17, h18⟩ := h16
        refine zw_li (l := (s.2 5)) (i := ((s.1 8).toInt + 1)) rfl rfl (zq_add (zq_a _) (by decide)) o17 ?_
        refine am_w0 (z := (120, [(1, .int 1), (0, .ref 26)], [], zH (zf (zf (zf s 8 ((s.1 8) + 1)) 9 (zg (s.2 4) ((s.1 8).toInt + 1))) 10 (zg (s.2 5) ((s.1 8).toInt + 1))))) rfl rfl (zp_10 ) ?_
        refine am_wr rfl rfl rfl ?_
        exact ⟨_, rfl, rfl, h18⟩
      · refine am_wb2 rfl true (zt_ge (zq_add (zq_a _) (by decide)) (zq_a _) o9 (zr_t _) c11) rfl ?_
        have h19 := h13 c11
        refine am_wr rfl rfl rfl ?_
        exact ⟨_, rfl, rfl, h19⟩
    · refine am_wb1 rfl false (zn_lt (zq_a _) (by decide) (zr_t _) ⟨by decide, by decide⟩ c5) rfl ?_
      have h20 := h7 c5
      refine am_wh 5 (pc1 := 45) (lv1 := [(1, .int 1), (0, .ref 26)]) (st1 := [.int (s.1 2), .int (s.1 8)]) rfl ?_
      obtain ⟨h22, h23⟩ := h20
      by_cases c21 : (s.1 8).toInt < (s.1 2).toInt
      · refine am_wb2 rfl false (zn_ge (zq_a _) (zq_a _) (zr_t _) (zr_t _) c21) rfl ?_
        have h24 := h22 c21
        refine am_wh 6 (pc1 := 60) (lv1 := [(1, .int 1), (0, .ref 26)]) (st1 := [.int (s.1 8), .ref 8, .ref 26]) rfl ?_
        obtain ⟨o25, h26⟩ := h24
        refine zw_li (l := (s.2 6)) (i := (s.1 8).toInt) rfl rfl (zq_a _) o25 ?_
        refine am_w0 (z := (64, [(1, .int 1), (0, .ref 26)], [], zH (zf s 11 (zg (s.2 6) (s.1 8).toInt)))) rfl rfl (zp_11 ) ?_
        refine am_wh 5 (pc1 := 71) (lv1 := [(1, .int 1), (0, .ref 26)]) (st1 := [.int ((s.1 8) + 1), .ref 26]) rfl ?_
        refine am_w0 (z := (74, [(1, .int 1), (0, .ref 26)], [], zH (zf (zf s 11 (zg (s.2 6) (s.1 8).toInt)) 8 ((s.1 8) + 1)))) rfl rfl (zp_8 ) ?_
        refine am_wh 5 (pc1 := 85) (lv1 := [(1, .int 1), (0, .ref 26)]) (st1 := [.int (s.1 2), .int ((s.1 8) + 1)]) rfl ?_
        obtain ⟨o27, h28⟩ := h26
        obtain ⟨h30, h31⟩ := h28
        by_cases c29 : ((s.1 8).toInt + 1) < (s.1 2).toInt
        · refine am_wb2 rfl false (zn_ge (zq_add (zq_a _) (by decide)) (zq_a _) o27 (zr_t _) c29) rfl ?_
          have h32 := h30 c29
          refine am_wh 6 (pc1 := 100) (lv1 := [(1, .int 1), (0, .ref 26)]) (st1 := [.int ((s.1 8) + 1), .ref 6, .ref 26]) rfl ?_
          obtain ⟨o33, h34⟩ := h32
          refine zw_li (l := (s.2 4)) (i := ((s.1 8).toInt + 1)) rfl rfl (zq_add (zq_a _) (by decide)) o33 ?_
          refine am_w0 (z := (104, [(1, .int 1), (0, .ref 26)], [], zH (zf (zf (zf s 11 (zg (s.2 6) (s.1 8).toInt)) 8 ((s.1 8) + 1)) 9 (zg (s.2 4) ((s.1 8).toInt + 1))))) rfl rfl (zp_9 ) ?_
          refine am_wh 6 (pc1 := 116) (lv1 := [(1, .int 1), (0, .ref 26)]) (st1 := [.int ((s.1 8) + 1), .ref 7, .ref 26]) rfl ?_
          obtain ⟨o35, h36⟩ := h34
          refine zw_li (l := (s.2 5)) (i := ((s.1 8).toInt + 1)) rfl rfl (zq_add (zq_a _) (by decide)) o35 ?_
          refine am_w0 (z := (120, [(1, .int 1), (0, .ref 26)], [], zH (zf (zf (zf (zf s 11 (zg (s.2 6) (s.1 8).toInt)) 8 ((s.1 8) + 1)) 9 (zg (s.2 4) ((s.1 8).toInt + 1))) 10 (zg (s.2 5) ((s.1 8).toInt + 1))))) rfl rfl (zp_10 ) ?_
          refine am_wr rfl rfl rfl ?_
          exact ⟨_, rfl, rfl, h36⟩
        · refine am_wb2 rfl true (zt_ge (zq_add (zq_a _) (by decide)) (zq_a _) o27 (zr_t _) c29) rfl ?_
          have h37 := h31 c29
          refine am_wr rfl rfl rfl ?_
          exact ⟨_, rfl, rfl, h37⟩
      · refine am_wb2 rfl true (zt_ge (zq_a _) (zq_a _) (zr_t _) (zr_t _) c21) rfl ?_
        have h38 := h23 c21
        refine am_wh 5 (pc1 := 71) (lv1 := [(1, .int 1), (0, .ref 26)]) (st1 := [.int ((s.1 8) + 1), .ref 26]) rfl ?_
        refine am_w0 (z := (74, [(1, .int 1), (0, .ref 26)], [], zH (zf s 8 ((s.1 8) + 1)))) rfl rfl (zp_8 ) ?_
        refine am_wh 5 (pc1 := 85) (lv1 := [(1, .int 1), (0, .ref 26)]) (st1 := [.int (s.1 2), .int ((s.1 8) + 1)]) rfl ?_
        obtain ⟨o39, h40⟩ := h38
        obtain ⟨h42, h43⟩ := h40
        by_cases c41 : ((s.1 8).toInt + 1) < (s.1 2).toInt
        · refine am_wb2 rfl false (zn_ge (zq_add (zq_a _) (by decide)) (zq_a _) o39 (zr_t _) c41) rfl ?_
          have h44 := h42 c41
          refine am_wh 6 (pc1 := 100) (lv1 := [(1, .int 1), (0, .ref 26)]) (st1 := [.int ((s.1 8) + 1), .ref 6, .ref 26]) rfl ?_
          obtain ⟨o45, h46⟩ := h44
          refine zw_li (l := (s.2 4)) (i := ((s.1 8).toInt + 1)) rfl rfl (zq_add (zq_a _) (by decide)) o45 ?_
          refine am_w0 (z := (104, [(1, .int 1), (0, .ref 26)], [], zH (zf (zf s 8 ((s.1 8) + 1)) 9 (zg (s.2 4) ((s.1 8).toInt + 1))))) rfl rfl (zp_9 ) ?_
          refine am_wh 6 (pc1 := 116) (lv1 := [(1, .int 1), (0, .ref 26)]) (st1 := [.int ((s.1 8) + 1), .ref 7, .ref 26]) rfl ?_
          obtain ⟨o47, h48⟩ := h46
          refine zw_li (l := (s.2 5)) (i := ((s.1 8).toInt + 1)) rfl rfl (zq_add (zq_a _) (by decide)) o47 ?_
          refine am_w0 (z := (120, [(1, .int 1), (0, .ref 26)], [], zH (zf (zf (zf s 8 ((s.1 8) + 1)) 9 (zg (s.2 4) ((s.1 8).toInt + 1))) 10 (zg (s.2 5) ((s.1 8).toInt + 1))))) rfl rfl (zp_10 ) ?_
          refine am_wr rfl rfl rfl ?_
          exact ⟨_, rfl, rfl, h48⟩
        · refine am_wb2 rfl true (zt_ge (zq_add (zq_a _) (by decide)) (zq_a _) o39 (zr_t _) c41) rfl ?_
          have h49 := h43 c41
          refine am_wr rfl rfl rfl ?_
          exact ⟨_, rfl, rfl, h49⟩
  · refine am_wb2 rfl false (zn_lt (zq_a _) (by decide) (zr_t _) ⟨by decide, by decide⟩ c1) rfl ?_
    have h50 := h3 c1
    refine am_wh 3 (pc1 := 14) (lv1 := [(0, .ref 26)]) (st1 := [.int 8, .int (s.1 9)]) rfl ?_
    obtain ⟨h52, h53⟩ := h50
    by_cases c51 : 8 < (s.1 9).toInt
    · refine am_wb2 rfl false (zn_le (zq_a _) (by decide) (zr_t _) ⟨by decide, by decide⟩ c51) rfl ?_
      have h54 := h52 c51
      refine am_wh 7 (pc1 := 31) (lv1 := [(1, .int 1), (0, .ref 26)]) (st1 := [.int (s.1 8)]) rfl ?_
      obtain ⟨h56, h57⟩ := h54
      by_cases c55 : (s.1 8).toInt < 0
      · refine am_wb1 rfl true (zt_lt (zq_a _) (by decide) (zr_t _) ⟨by decide, by decide⟩ c55) rfl ?_
        have h58 := h56 c55
        refine am_wh 5 (pc1 := 71) (lv1 := [(1, .int 1), (0, .ref 26)]) (st1 := [.int ((s.1 8) + 1), .ref 26]) rfl ?_
        refine am_w0 (z := (74, [(1, .int 1), (0, .ref 26)], [], zH (zf s 8 ((s.1 8) + 1)))) rfl rfl (zp_8 ) ?_
        refine am_wh 5 (pc1 := 85) (lv1 := [(1, .int 1), (0, .ref 26)]) (st1 := [.int (s.1 2), .int ((s.1 8) + 1)]) rfl ?_
        obtain ⟨o59, h60⟩ := h58
        obtain ⟨h62, h63⟩ := h60
        by_cases c61 : ((s.1 8).toInt + 1) < (s.1 2).toInt
        · refine am_wb2 rfl false (zn_ge (zq_add (zq_a _) (by decide)) (zq_a _) o59 (zr_t _) c61) rfl ?_
          have h64 := h62 c61
          refine am_wh 6 (pc1 := 100) (lv1 := [(1, .int 1), (0, .ref 26)]) (st1 := [.int ((s.1 8) + 1), .ref 6, .ref 26]) rfl ?_
          obtain ⟨o65, h66⟩ := h64
          refine zw_li (l := (s.2 4)) (i := ((s.1 8).toInt + 1)) rfl rfl (zq_add (zq_a _) (by decide)) o65 ?_
          refine am_w0 (z := (104, [(1, .int 1), (0, .ref 26)], [], zH (zf (zf s 8 ((s.1 8) + 1)) 9 (zg (s.2 4) ((s.1 8).toInt + 1))))) rfl rfl (zp_9 ) ?_
          refine am_wh 6 (pc1 := 116) (lv1 := [(1, .int 1), (0, .ref 26)]) (st1 := [.int ((s.1 8) + 1), .ref 7, .ref 26]) rfl ?_
          obtain ⟨o67, h68⟩ := h66
          refine zw_li (l := (s.2 5)) (i := ((s.1 8).toInt + 1)) rfl rfl (zq_add (zq_a _) (by decide)) o67 ?_
          refine am_w0 (z := (120, [(1, .int 1), (0, .ref 26)], [], zH (zf (zf (zf s 8 ((s.1 8) + 1)) 9 (zg (s.2 4) ((s.1 8).toInt + 1))) 10 (zg (s.2 5) ((s.1 8).toInt + 1))))) rfl rfl (zp_10 ) ?_
          refine am_wr rfl rfl rfl ?_
          exact ⟨_, rfl, rfl, h68⟩
        · refine am_wb2 rfl true (zt_ge (zq_add (zq_a _) (by decide)) (zq_a _) o59 (zr_t _) c61) rfl ?_
          have h69 := h63 c61
          refine am_wr rfl rfl rfl ?_
          exact ⟨_, rfl, rfl, h69⟩
      · refine am_wb1 rfl false (zn_lt (zq_a _) (by decide) (zr_t _) ⟨by decide, by decide⟩ c55) rfl ?_
        have h70 := h57 c55
        refine am_wh 5 (pc1 := 45) (lv1 := [(1, .int 1), (0, .ref 26)]) (st1 := [.int (s.1 2), .int (s.1 8)]) rfl ?_
        obtain ⟨h72, h73⟩ := h70
        by_cases c71 : (s.1 8).toInt < (s.1 2).toInt
        · refine am_wb2 rfl false (zn_ge (zq_a _) (zq_a _) (zr_t _) (zr_t _) c71) rfl ?_
          have h74 := h72 c71
          refine am_wh 6 (pc1 := 60) (lv1 := [(1, .int 1), (0, .ref 26)]) (st1 := [.int (s.1 8), .ref 8, .ref 26]) rfl ?_
          obtain ⟨o75, h76⟩ := h74
          refine zw_li (l := (s.2 6)) (i := (s.1 8).toInt) rfl rfl (zq_a _) o75 ?_
          refine am_w0 (z := (64, [(1, .int 1), (0, .ref 26)], [], zH (zf s 11 (zg (s.2 6) (s.1 8).toInt)))) rfl rfl (zp_11 ) ?_
          refine am_wh 5 (pc1 := 71) (lv1 := [(1, .int 1), (0, .ref 26)]) (st1 := [.int ((s.1 8) + 1), .ref 26]) rfl ?_
          refine am_w0 (z := (74, [(1, .int 1), (0, .ref 26)], [], zH (zf (zf s 11 (zg (s.2 6) (s.1 8).toInt)) 8 ((s.1 8) + 1)))) rfl rfl (zp_8 ) ?_
          refine am_wh 5 (pc1 := 85) (lv1 := [(1, .int 1), (0, .ref 26)]) (st1 := [.int (s.1 2), .int ((s.1 8) + 1)]) rfl ?_
          obtain ⟨o77, h78⟩ := h76
          obtain ⟨h80, h81⟩ := h78
          by_cases c79 : ((s.1 8).toInt + 1) < (s.1 2).toInt
          · refine am_wb2 rfl false (zn_ge (zq_add (zq_a _) (by decide)) (zq_a _) o77 (zr_t _) c79) rfl ?_
            have h82 := h80 c79
            refine am_wh 6 (pc1 := 100) (lv1 := [(1, .int 1), (0, .ref 26)]) (st1 := [.int ((s.1 8) + 1), .ref 6, .ref 26]) rfl ?_
            obtain ⟨o83, h84⟩ := h82
            refine zw_li (l := (s.2 4)) (i := ((s.1 8).toInt + 1)) rfl rfl (zq_add (zq_a _) (by decide)) o83 ?_
            refine am_w0 (z := (104, [(1, .int 1), (0, .ref 26)], [], zH (zf (zf (zf s 11 (zg (s.2 6) (s.1 8).toInt)) 8 ((s.1 8) + 1)) 9 (zg (s.2 4) ((s.1 8).toInt + 1))))) rfl rfl (zp_9 ) ?_
            refine am_wh 6 (pc1 := 116) (lv1 := [(1, .int 1), (0, .ref 26)]) (st1 := [.int ((s.1 8) + 1), .ref 7, .ref 26]) rfl ?_
            obtain ⟨o85, h86⟩ := h84
            refine zw_li (l := (s.2 5)) (i := ((s.1 8).toInt + 1)) rfl rfl (zq_add (zq_a _) (by decide)) o85 ?_
            refine am_w0 (z := (120, [(1, .int 1), (0, .ref 26)], [], zH (zf (zf (zf (zf s 11 (zg (s.2 6) (s.1 8).toInt)) 8 ((s.1 8) + 1)) 9 (zg (s.2 4) ((s.1 8).toInt + 1))) 10 (zg (s.2 5) ((s.1 8).toInt + 1))))) rfl rfl (zp_10 ) ?_
            refine am_wr rfl rfl rfl ?_
            exact ⟨_, rfl, rfl, h86⟩
          · refine am_wb2 rfl true (zt_ge (zq_add (zq_a _) (by decide)) (zq_a _) o77 (zr_t _) c79) rfl ?_
            have h87 := h81 c79
            refine am_wr rfl rfl rfl ?_
            exact ⟨_, rfl, rfl, h87⟩
        · refine am_wb2 rfl true (zt_ge (zq_a _) (zq_a _) (zr_t _) (zr_t _) c71) rfl ?_
          have h88 := h73 c71
          refine am_wh 5 (pc1 := 71) (lv1 := [(1, .int 1), (0, .ref 26)]) (st1 := [.int ((s.1 8) + 1), .ref 26]) rfl ?_
          refine am_w0 (z := (74, [(1, .int 1), (0, .ref 26)], [], zH (zf s 8 ((s.1 8) + 1)))) rfl rfl (zp_8 ) ?_
          refine am_wh 5 (pc1 := 85) (lv1 := [(1, .int 1), (0, .ref 26)]) (st1 := [.int (s.1 2), .int ((s.1 8) + 1)]) rfl ?_
          obtain ⟨o89, h90⟩ := h88
          obtain ⟨h92, h93⟩ := h90
          by_cases c91 : ((s.1 8).toInt + 1) < (s.1 2).toInt
          · refine am_wb2 rfl false (zn_ge (zq_add (zq_a _) (by decide)) (zq_a _) o89 (zr_t _) c91) rfl ?_
            have h94 := h92 c91
            refine am_wh 6 (pc1 := 100) (lv1 := [(1, .int 1), (0, .ref 26)]) (st1 := [.int ((s.1 8) + 1), .ref 6, .ref 26]) rfl ?_
            obtain ⟨o95, h96⟩ := h94
            refine zw_li (l := (s.2 4)) (i := ((s.1 8).toInt + 1)) rfl rfl (zq_add (zq_a _) (by decide)) o95 ?_
            refine am_w0 (z := (104, [(1, .int 1), (0, .ref 26)], [], zH (zf (zf s 8 ((s.1 8) + 1)) 9 (zg (s.2 4) ((s.1 8).toInt + 1))))) rfl rfl (zp_9 ) ?_
            refine am_wh 6 (pc1 := 116) (lv1 := [(1, .int 1), (0, .ref 26)]) (st1 := [.int ((s.1 8) + 1), .ref 7, .ref 26]) rfl ?_
            obtain ⟨o97, h98⟩ := h96
            refine zw_li (l := (s.2 5)) (i := ((s.1 8).toInt + 1)) rfl rfl (zq_add (zq_a _) (by decide)) o97 ?_
            refine am_w0 (z := (120, [(1, .int 1), (0, .ref 26)], [], zH (zf (zf (zf s 8 ((s.1 8) + 1)) 9 (zg (s.2 4) ((s.1 8).toInt + 1))) 10 (zg (s.2 5) ((s.1 8).toInt + 1))))) rfl rfl (zp_10 ) ?_
            refine am_wr rfl rfl rfl ?_
            exact ⟨_, rfl, rfl, h98⟩
          · refine am_wb2 rfl true (zt_ge (zq_add (zq_a _) (by decide)) (zq_a _) o89 (zr_t _) c91) rfl ?_
            have h99 := h93 c91
            refine am_wr rfl rfl rfl ?_
            exact ⟨_, rfl, rfl, h99⟩
    · refine am_wb2 rfl true (zt_le (zq_a _) (by decide) (zr_t _) ⟨by decide, by decide⟩ c51) rfl ?_
      have h100 := h53 c51
      refine am_wh 9 (pc1 := 71) (lv1 := [(1, .int 0), (0, .ref 26)]) (st1 := [.int ((s.1 8) + 1), .ref 26]) rfl ?_
      refine am_w0 (z := (74, [(1, .int 0), (0, .ref 26)], [], zH (zf s 8 ((s.1 8) + 1)))) rfl rfl (zp_8 ) ?_
      refine am_wh 5 (pc1 := 85) (lv1 := [(1, .int 0), (0, .ref 26)]) (st1 := [.int (s.1 2), .int ((s.1 8) + 1)]) rfl ?_
      obtain ⟨o101, h102⟩ := h100
      obtain ⟨h104, h105⟩ := h102
      by_cases c103 : ((s.1 8).toInt + 1) < (s.1 2).toInt
      · refine am_wb2 rfl false (zn_ge (zq_add (zq_a _) (by decide)) (zq_a _) o101 (zr_t _) c103) rfl ?_
        have h106 := h104 c103
        refine am_wh 6 (pc1 := 100) (lv1 := [(1, .int 0), (0, .ref 26)]) (st1 := [.int ((s.1 8) + 1), .ref 6, .ref 26]) rfl ?_
        obtain ⟨o107, h108⟩ := h106
        refine zw_li (l := (s.2 4)) (i := ((s.1 8).toInt + 1)) rfl rfl (zq_add (zq_a _) (by decide)) o107 ?_
        refine am_w0 (z := (104, [(1, .int 0), (0, .ref 26)], [], zH (zf (zf s 8 ((s.1 8) + 1)) 9 (zg (s.2 4) ((s.1 8).toInt + 1))))) rfl rfl (zp_9 ) ?_
        refine am_wh 6 (pc1 := 116) (lv1 := [(1, .int 0), (0, .ref 26)]) (st1 := [.int ((s.1 8) + 1), .ref 7, .ref 26]) rfl ?_
        obtain ⟨o109, h110⟩ := h108
        refine zw_li (l := (s.2 5)) (i := ((s.1 8).toInt + 1)) rfl rfl (zq_add (zq_a _) (by decide)) o109 ?_
        refine am_w0 (z := (120, [(1, .int 0), (0, .ref 26)], [], zH (zf (zf (zf s 8 ((s.1 8) + 1)) 9 (zg (s.2 4) ((s.1 8).toInt + 1))) 10 (zg (s.2 5) ((s.1 8).toInt + 1))))) rfl rfl (zp_10 ) ?_
        refine am_wr rfl rfl rfl ?_
        exact ⟨_, rfl, rfl, h110⟩
      · refine am_wb2 rfl true (zt_ge (zq_add (zq_a _) (by decide)) (zq_a _) o101 (zr_t _) c103) rfl ?_
        have h111 := h105 c103
        refine am_wr rfl rfl rfl ?_
        exact ⟨_, rfl, rfl, h111⟩
set_option maxRecDepth 100000 in
theorem vc_67_0 (xs : Option (List Int32)) (d : Nat) (s : zS) (a1 : Int32) (Q : Int32 → zS → Prop) (h : Q 0 (zf (zf s 14 a1) 15 (s.1 10))) : zWi xs d 67 0 [(0, .ref 26), (1, .int a1)] s Q := by
  unfold zWi
  refine am_wh 2 (pc1 := 2) (lv1 := [(0, .ref 26), (1, .int a1)]) (st1 := [.int a1, .ref 26]) rfl ?_
  refine am_w0 (z := (5, [(0, .ref 26), (1, .int a1)], [], zH (zf s 14 a1))) rfl rfl (zp_14 ) ?_
  refine am_wh 3 (pc1 := 10) (lv1 := [(0, .ref 26), (1, .int a1)]) (st1 := [.int (s.1 10), .ref 26]) rfl ?_
  refine am_w0 (z := (13, [(0, .ref 26), (1, .int a1)], [], zH (zf (zf s 14 a1) 15 (s.1 10)))) rfl rfl (zp_15 ) ?_
  refine am_wh 1 (pc1 := 14) (lv1 := [(0, .ref 26), (1, .int a1)]) (st1 := [.int 0]) rfl ?_
  refine am_wr rfl rfl rfl ?_
  exact ⟨_, _, rfl, rfl, h⟩
