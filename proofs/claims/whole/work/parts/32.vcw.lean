set_option maxRecDepth 100000 in
theorem vc_93_0 (xs : Option (List Int32)) (d : Nat) (s : zS) (a0 : Int64) (Q : Int32 → zS → Prop) (h : zWi xs d 93 2 [(0, .long a0), (2, .int 0)] s Q) : zWi xs d 93 0 [(0, .long a0)] s Q := by
  unfold zWi
  refine am_wh 2 (pc1 := 2) (lv1 := [(2, .int 0), (0, .long a0)]) (st1 := []) rfl ?_
  exact am_wm h ⟨rfl, rfl, trivial⟩
set_option maxRecDepth 100000 in
theorem vc_93_2 (xs : Option (List Int32)) (d : Nat) (s : zS) (a0 : Int64) (a2 : Int32) (Q : Int32 → zS → Prop) (h : (a2.toInt < 14 → (zX14 a2.toInt ∧ ((lg_cmp (am_wd.getD (a2.toInt).toNat 0) a0).toInt = 0 → (Q (16 + a2) s)) ∧ (¬ (lg_cmp (am_wd.getD (a2.toInt).toNat 0) a0).toInt = 0 → (zWi xs d 93 2 [(0, .long a0), (2, .int (a2 + 1))] s Q)))) ∧ (¬ a2.toInt < 14 → (Q 0 s))) : zWi xs d 93 2 [(0, .long a0), (2, .int a2)] s Q := by
  unfold zWi
  refine am_wh 3 (pc1 := 7) (lv1 := [(0, .long a0), (2, .int a2)]) (st1 := [.int 14, .int a2]) rfl ?_
  obtain ⟨h2, h3⟩ := h
  by_cases c1 : a2.toInt < 14
  · refine am_wb2 rfl false (zn_ge (zq_a _) (by decide) (zr_t _) ⟨by decide, by decide⟩ c1) rfl ?_
    have h4 := h2 c1
    refine am_wh 2 (pc1 := 14) (lv1 := [(0, .long a0), (2, .int a2)]) (st1 := [.int a2, .ref 1]) rfl ?_
    obtain ⟨o5, h6⟩ := h4
    refine zw_ll (i := a2.toInt) rfl rfl (zq_a _) o5 ?_
    refine am_wh 2 (pc1 := 17) (lv1 := [(0, .long a0), (2, .int a2)]) (st1 := [.int (lg_cmp (am_wd.getD (a2.toInt).toNat 0) a0)]) rfl ?_
    obtain ⟨h8, h9⟩ := h6
    by_cases c7 : (lg_cmp (am_wd.getD (a2.toInt).toNat 0) a0).toInt = 0
    · refine am_wb1 rfl false (zn_ne (zq_a _) (by decide) (zr_t _) ⟨by decide, by decide⟩ c7) rfl ?_
      have h10 := h8 c7
      refine am_wh 3 (pc1 := 24) (lv1 := [(0, .long a0), (2, .int a2)]) (st1 := [.int (16 + a2)]) rfl ?_
      refine am_wr rfl rfl rfl ?_
      exact ⟨_, _, rfl, rfl, h10⟩
    · refine am_wb1 rfl true (zt_ne (zq_a _) (by decide) (zr_t _) ⟨by decide, by decide⟩ c7) rfl ?_
      have h11 := h9 c7
      refine am_wh 2 (pc1 := 2) (lv1 := [(2, .int (a2 + 1)), (0, .long a0)]) (st1 := []) rfl ?_
      exact am_wm h11 ⟨rfl, rfl, trivial⟩
  · refine am_wb2 rfl true (zt_ge (zq_a _) (by decide) (zr_t _) ⟨by decide, by decide⟩ c1) rfl ?_
    have h12 := h3 c1
    refine am_wh 1 (pc1 := 32) (lv1 := [(0, .long a0), (2, .int a2)]) (st1 := [.int 0]) rfl ?_
    refine am_wr rfl rfl rfl ?_
    exact ⟨_, _, rfl, rfl, h12⟩
