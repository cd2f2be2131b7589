theorem am_le1 {x y : Int32} (h : am_if .gt x y = false) : am_if .le x y = true := by
  have g : ¬ y < x := of_decide_eq_false h
  exact decide_eq_true (Int32.not_lt.mp g)
set_option maxRecDepth 100000 in
set_option maxHeartbeats 4000000 in
theorem wm_edn (xs : Option (List Int32)) (d n : Nat) {u0 u1 u2 u3 u4 u5 u6 u7 u8 u9 u10 u11 u12 u13 u14 u15 u16 u17 u18 u19 u20 u21 u22 u23 u24 u25 u26 u27 u28 u29 u33 u34 u35 u36 u37 u38 u39 u40 u41 u42 u43 u44 u45 u46 u47 u48 u49 u50 u51 u52 u53 : am_E} {mo_tokenCount mo_at mo_depth mo_height mo_last mo_fault mo_faultAt mo_extents mo_scopeCount mo_nameCount mo_errorAt mo_error : Int32} {st : Int32} {s kp : List Int32} (p q : Int32) (e : Int64) (Q : Option Value → List am_E → Prop) (hn : n ≤ 200) (hpl : ¬ ∃ a k : Nat, p = nI a ∧ q = nI k ∧ a + k ≤ n) (hQ : Q (some (.int (-1))) (HH u0 u1 u2 u3 u4 u5 u6 u7 u8 u9 u10 u11 u12 u13 u14 u15 u16 u17 u18 u19 u20 u21 u22 u23 u24 u25 u26 u27 u28 u29 (oj_9 (nI n) st mo_tokenCount mo_at mo_depth mo_height mo_last mo_fault mo_faultAt mo_extents mo_scopeCount mo_nameCount mo_errorAt mo_error) (.inl (false, s)) (.inl (false, kp)) u33 u34 u35 u36 u37 u38 u39 u40 u41 u42 u43 u44 u45 u46 u47 u48 u49 u50 u51 u52 u53)) : am_W (am_CX xs) (d + 1) 132 0 [(0, .ref 32), (1, .int p), (2, .int q), (3, .long e)] [] (HH u0 u1 u2 u3 u4 u5 u6 u7 u8 u9 u10 u11 u12 u13 u14 u15 u16 u17 u18 u19 u20 u21 u22 u23 u24 u25 u26 u27 u28 u29 (oj_9 (nI n) st mo_tokenCount mo_at mo_depth mo_height mo_last mo_fault mo_faultAt mo_extents mo_scopeCount mo_nameCount mo_errorAt mo_error) (.inl (false, s)) (.inl (false, kp)) u33 u34 u35 u36 u37 u38 u39 u40 u41 u42 u43 u44 u45 u46 u47 u48 u49 u50 u51 u52 u53) Q := by
  refine am_wh 3 (pc1 := 4) (lv1 := [(5, .int 0), (0, .ref 32), (1, .int p), (2, .int q), (3, .long e)]) (st1 := [.int p]) rfl ?_
  cases hb1 : am_if .lt p 0 with
  | true =>
    refine am_wb1 rfl true hb1 rfl ?_
    refine am_wh 4 (pc1 := 40) (lv1 := [(7, .int 56), (6, .int 0), (5, .int 0), (0, .ref 32), (1, .int p), (2, .int q), (3, .long e)]) (st1 := []) rfl ?_
    refine am_wl (lv := [(7, .int (ed_k 8)), (5, .int (nI 0)), (6, .int (bif false then 1 else 0)), (0, .ref 32), (1, .int p), (2, .int q), (3, .long e)]) ⟨rfl, rfl, rfl, rfl, rfl, rfl, rfl, trivial⟩ (em_edl xs d p q _ Q e 8 (Nat.le_refl 8) 0 false ?_)
    show am_W _ _ 132 103 [(5, .int (nI (0 + ed_n e 8))), (6, .int 0), (0, .ref 32), (1, .int p), (2, .int q), (3, .long e)] [] _ _
    refine am_wh 5 (pc1 := 134) (lv1 := [(5, .int (nI (0 + ed_n e 8))), (6, .int 0), (0, .ref 32), (1, .int p), (2, .int q), (3, .long e)]) (st1 := [.int (-1)]) rfl ?_
    refine am_wr rfl rfl rfl ?_
    exact hQ
  | false =>
    refine am_wb1 rfl false hb1 rfl ?_
    refine am_wh 3 (pc1 := 12) (lv1 := [(5, .int 0), (0, .ref 32), (1, .int p), (2, .int q), (3, .long e)]) (st1 := [.int (nI n), .int p]) rfl ?_
    cases hb2 : am_if .gt p (nI n) with
    | true =>
      refine am_wb2 rfl true hb2 rfl ?_
      refine am_wh 4 (pc1 := 40) (lv1 := [(7, .int 56), (6, .int 0), (5, .int 0), (0, .ref 32), (1, .int p), (2, .int q), (3, .long e)]) (st1 := []) rfl ?_
      refine am_wl (lv := [(7, .int (ed_k 8)), (5, .int (nI 0)), (6, .int (bif false then 1 else 0)), (0, .ref 32), (1, .int p), (2, .int q), (3, .long e)]) ⟨rfl, rfl, rfl, rfl, rfl, rfl, rfl, trivial⟩ (em_edl xs d p q _ Q e 8 (Nat.le_refl 8) 0 false ?_)
      show am_W _ _ 132 103 [(5, .int (nI (0 + ed_n e 8))), (6, .int 0), (0, .ref 32), (1, .int p), (2, .int q), (3, .long e)] [] _ _
      refine am_wh 5 (pc1 := 134) (lv1 := [(5, .int (nI (0 + ed_n e 8))), (6, .int 0), (0, .ref 32), (1, .int p), (2, .int q), (3, .long e)]) (st1 := [.int (-1)]) rfl ?_
      refine am_wr rfl rfl rfl ?_
      exact hQ
    | false =>
      refine am_wb2 rfl false hb2 rfl ?_
      refine am_wh 1 (pc1 := 16) (lv1 := [(5, .int 0), (0, .ref 32), (1, .int p), (2, .int q), (3, .long e)]) (st1 := [.int q]) rfl ?_
      cases hb3 : am_if .lt q 0 with
      | true =>
        refine am_wb1 rfl true hb3 rfl ?_
        refine am_wh 4 (pc1 := 40) (lv1 := [(7, .int 56), (6, .int 0), (5, .int 0), (0, .ref 32), (1, .int p), (2, .int q), (3, .long e)]) (st1 := []) rfl ?_
        refine am_wl (lv := [(7, .int (ed_k 8)), (5, .int (nI 0)), (6, .int (bif false then 1 else 0)), (0, .ref 32), (1, .int p), (2, .int q), (3, .long e)]) ⟨rfl, rfl, rfl, rfl, rfl, rfl, rfl, trivial⟩ (em_edl xs d p q _ Q e 8 (Nat.le_refl 8) 0 false ?_)
        show am_W _ _ 132 103 [(5, .int (nI (0 + ed_n e 8))), (6, .int 0), (0, .ref 32), (1, .int p), (2, .int q), (3, .long e)] [] _ _
        refine am_wh 5 (pc1 := 134) (lv1 := [(5, .int (nI (0 + ed_n e 8))), (6, .int 0), (0, .ref 32), (1, .int p), (2, .int q), (3, .long e)]) (st1 := [.int (-1)]) rfl ?_
        refine am_wr rfl rfl rfl ?_
        exact hQ
      | false =>
        refine am_wb1 rfl false hb3 rfl ?_
        refine am_wh 5 (pc1 := 26) (lv1 := [(5, .int 0), (0, .ref 32), (1, .int p), (2, .int q), (3, .long e)]) (st1 := [.int ((nI n) - p), .int q]) rfl ?_
        cases hb4 : am_if .gt q ((nI n) - p) with
        | true =>
          refine am_wb2 rfl true hb4 rfl ?_
          refine am_wh 4 (pc1 := 40) (lv1 := [(7, .int 56), (6, .int 0), (5, .int 0), (0, .ref 32), (1, .int p), (2, .int q), (3, .long e)]) (st1 := []) rfl ?_
          refine am_wl (lv := [(7, .int (ed_k 8)), (5, .int (nI 0)), (6, .int (bif false then 1 else 0)), (0, .ref 32), (1, .int p), (2, .int q), (3, .long e)]) ⟨rfl, rfl, rfl, rfl, rfl, rfl, rfl, trivial⟩ (em_edl xs d p q _ Q e 8 (Nat.le_refl 8) 0 false ?_)
          show am_W _ _ 132 103 [(5, .int (nI (0 + ed_n e 8))), (6, .int 0), (0, .ref 32), (1, .int p), (2, .int q), (3, .long e)] [] _ _
          refine am_wh 5 (pc1 := 134) (lv1 := [(5, .int (nI (0 + ed_n e 8))), (6, .int 0), (0, .ref 32), (1, .int p), (2, .int q), (3, .long e)]) (st1 := [.int (-1)]) rfl ?_
          refine am_wr rfl rfl rfl ?_
          exact hQ
        | false =>
          refine am_wb2 rfl false hb4 rfl ?_
          refine am_wh 5 (pc1 := 40) (lv1 := [(7, .int 56), (6, .int 1), (5, .int 0), (0, .ref 32), (1, .int p), (2, .int q), (3, .long e)]) (st1 := []) rfl ?_
          exact absurd (ed_pl hn hb1 hb2 hb3 (am_le1 hb4)) hpl
set_option maxRecDepth 100000 in
set_option maxHeartbeats 4000000 in
theorem wm_edy (xs : Option (List Int32)) (d n a k : Nat) {u0 u1 u2 u3 u4 u5 u6 u7 u8 u9 u10 u11 u12 u13 u14 u15 u16 u17 u18 u19 u20 u21 u22 u23 u24 u25 u26 u27 u28 u29 u33 u34 u35 u36 u37 u38 u39 u40 u41 u42 u43 u44 u45 u46 u47 u48 u49 u50 u51 u52 u53 : am_E} {mo_tokenCount mo_at mo_depth mo_height mo_last mo_fault mo_faultAt mo_extents mo_scopeCount mo_nameCount mo_errorAt mo_error : Int32} {st : Int32} {s kp : List Int32} (e : Int64) (hs : s.length = 200) (hkp : kp.length = 200) (Q : Option Value → List am_E → Prop) (hn : n ≤ 200) (hak : a + k ≤ n) (hQ0 : ed_al e 8 = false → Q (some (.int (-1))) (HH u0 u1 u2 u3 u4 u5 u6 u7 u8 u9 u10 u11 u12 u13 u14 u15 u16 u17 u18 u19 u20 u21 u22 u23 u24 u25 u26 u27 u28 u29 (oj_9 (nI n) st mo_tokenCount mo_at mo_depth mo_height mo_last mo_fault mo_faultAt mo_extents mo_scopeCount mo_nameCount mo_errorAt mo_error) (.inl (false, s)) (.inl (false, kp)) u33 u34 u35 u36 u37 u38 u39 u40 u41 u42 u43 u44 u45 u46 u47 u48 u49 u50 u51 u52 u53)) (hQ1 : ed_al e 8 = true → ¬ n - k + ed_n e 8 ≤ 200 → Q (some (.int (-2))) (HH u0 u1 u2 u3 u4 u5 u6 u7 u8 u9 u10 u11 u12 u13 u14 u15 u16 u17 u18 u19 u20 u21 u22 u23 u24 u25 u26 u27 u28 u29 (oj_9 (nI n) st mo_tokenCount mo_at mo_depth mo_height mo_last mo_fault mo_faultAt mo_extents mo_scopeCount mo_nameCount mo_errorAt mo_error) (.inl (false, s)) (.inl (false, kp)) u33 u34 u35 u36 u37 u38 u39 u40 u41 u42 u43 u44 u45 u46 u47 u48 u49 u50 u51 u52 u53)) (hQ2 : ed_al e 8 = true → n - k + ed_n e 8 ≤ 200 → Q (some (.int (((nI n) - (nI k)) + (nI (ed_n e 8))))) (HH u0 u1 u2 u3 u4 u5 u6 u7 u8 u9 u10 u11 u12 u13 u14 u15 u16 u17 u18 u19 u20 u21 u22 u23 u24 u25 u26 u27 u28 u29 (oj_9 (((nI n) - (nI k)) + (nI (ed_n e 8))) 1 mo_tokenCount mo_at mo_depth mo_height mo_last mo_fault mo_faultAt mo_extents mo_scopeCount mo_nameCount mo_errorAt mo_error) (.inl (false, (md_r e n a k s kp))) (.inl (false, (md_c (n - a - k) (a + k) s kp))) u33 u34 u35 u36 u37 u38 u39 u40 u41 u42 u43 u44 u45 u46 u47 u48 u49 u50 u51 u52 u53)) : am_W (am_CX xs) (d + 2) 132 0 [(0, .ref 32), (1, .int (nI a)), (2, .int (nI k)), (3, .long e)] [] (HH u0 u1 u2 u3 u4 u5 u6 u7 u8 u9 u10 u11 u12 u13 u14 u15 u16 u17 u18 u19 u20 u21 u22 u23 u24 u25 u26 u27 u28 u29 (oj_9 (nI n) st mo_tokenCount mo_at mo_depth mo_height mo_last mo_fault mo_faultAt mo_extents mo_scopeCount mo_nameCount mo_errorAt mo_error) (.inl (false, s)) (.inl (false, kp)) u33 u34 u35 u36 u37 u38 u39 u40 u41 u42 u43 u44 u45 u46 u47 u48 u49 u50 u51 u52 u53) Q := by
  have hn8 : ed_n e 8 ≤ 8 := ed_n_le e 8
  refine am_wh 3 (pc1 := 4) (lv1 := [(5, .int 0), (0, .ref 32), (1, .int (nI a)), (2, .int (nI k)), (3, .long e)]) (st1 := [.int (nI a)]) rfl ?_
  refine am_wb1 rfl false (ed_pl1 hn (by omega)) rfl ?_
  refine am_wh 3 (pc1 := 12) (lv1 := [(5, .int 0), (0, .ref 32), (1, .int (nI a)), (2, .int (nI k)), (3, .long e)]) (st1 := [.int (nI n), .int (nI a)]) rfl ?_
  refine am_wb2 rfl false (ed_pl2 hn (by omega)) rfl ?_
  refine am_wh 1 (pc1 := 16) (lv1 := [(5, .int 0), (0, .ref 32), (1, .int (nI a)), (2, .int (nI k)), (3, .long e)]) (st1 := [.int (nI k)]) rfl ?_
  refine am_wb1 rfl false (ed_pl1 hn (by omega)) rfl ?_
  refine am_wh 5 (pc1 := 26) (lv1 := [(5, .int 0), (0, .ref 32), (1, .int (nI a)), (2, .int (nI k)), (3, .long e)]) (st1 := [.int ((nI n) - (nI a)), .int (nI k)]) rfl ?_
  refine am_wb2 rfl false (ed_pl5 hn hak) rfl ?_
  refine am_wh 5 (pc1 := 40) (lv1 := [(7, .int 56), (6, .int 1), (5, .int 0), (0, .ref 32), (1, .int (nI a)), (2, .int (nI k)), (3, .long e)]) (st1 := []) rfl ?_
  refine am_wl (lv := [(7, .int (ed_k 8)), (5, .int (nI 0)), (6, .int (bif true then 1 else 0)), (0, .ref 32), (1, .int (nI a)), (2, .int (nI k)), (3, .long e)]) ⟨rfl, rfl, rfl, rfl, rfl, rfl, rfl, trivial⟩ (em_edl xs (d + 1) _ _ _ Q e 8 (Nat.le_refl 8) 0 true ?_)
  rw [Nat.zero_add]
  show am_W _ _ 132 103 [(5, .int (nI (ed_n e 8))), (6, .int (bif ed_al e 8 then 1 else 0)), (0, .ref 32), (1, .int (nI a)), (2, .int (nI k)), (3, .long e)] [] _ _
  refine am_wh 1 (pc1 := 105) (lv1 := [(5, .int (nI (ed_n e 8))), (6, .int (bif ed_al e 8 then 1 else 0)), (0, .ref 32), (1, .int (nI a)), (2, .int (nI k)), (3, .long e)]) (st1 := [.int (bif ed_al e 8 then 1 else 0)]) rfl ?_
  cases hb1 : am_if .eq (bif ed_al e 8 then 1 else 0) 0 with
  | true =>
    refine am_wb1 rfl true hb1 rfl ?_
    refine am_wh 1 (pc1 := 125) (lv1 := [(5, .int (nI (ed_n e 8))), (6, .int (bif ed_al e 8 then 1 else 0)), (0, .ref 32), (1, .int (nI a)), (2, .int (nI k)), (3, .long e)]) (st1 := [.int (bif ed_al e 8 then 1 else 0)]) rfl ?_
    refine am_wb1 rfl true (hb1) rfl ?_
    refine am_wh 1 (pc1 := 134) (lv1 := [(5, .int (nI (ed_n e 8))), (6, .int (bif ed_al e 8 then 1 else 0)), (0, .ref 32), (1, .int (nI a)), (2, .int (nI k)), (3, .long e)]) (st1 := [.int (-1)]) rfl ?_
    refine am_wr rfl rfl rfl ?_
    rw [ed_eq] at hb1
    exact hQ0 (by simpa using hb1)
  | false =>
    refine am_wb1 rfl false hb1 rfl ?_
    refine am_wh 7 (pc1 := 120) (lv1 := [(5, .int (nI (ed_n e 8))), (6, .int (bif ed_al e 8 then 1 else 0)), (0, .ref 32), (1, .int (nI a)), (2, .int (nI k)), (3, .long e)]) (st1 := [.int 200, .int (((nI n) - (nI k)) + (nI (ed_n e 8)))]) rfl ?_
    cases hb2 : am_if .le (((nI n) - (nI k)) + (nI (ed_n e 8))) 200 with
    | true =>
      refine am_wb2 rfl true hb2 rfl ?_
      refine am_wh 5 (pc1 := 141) (lv1 := [(5, .int (nI (ed_n e 8))), (6, .int (bif ed_al e 8 then 1 else 0)), (0, .ref 32), (1, .int (nI a)), (2, .int (nI k)), (3, .long e)]) (st1 := [.long e, .int (nI (ed_n e 8)), .int (nI k), .int (nI a), .ref 32]) rfl ?_
      refine am_wc rfl rfl rfl ?_
      refine wm_rep xs _ n a k e _ s kp hs hkp hak hn (by rw [ed_full hn (by omega) hn8] at hb2; exact of_decide_eq_true hb2) ?_
      show am_W _ _ 132 144 [(5, .int (nI (ed_n e 8))), (6, .int (bif ed_al e 8 then 1 else 0)), (0, .ref 32), (1, .int (nI a)), (2, .int (nI k)), (3, .long e)] [] _ _
      refine am_wh 2 (pc1 := 148) (lv1 := [(5, .int (nI (ed_n e 8))), (6, .int (bif ed_al e 8 then 1 else 0)), (0, .ref 32), (1, .int (nI a)), (2, .int (nI k)), (3, .long e)]) (st1 := [.int (((nI n) - (nI k)) + (nI (ed_n e 8)))]) rfl ?_
      refine am_wr rfl rfl rfl ?_
      rw [ed_eq] at hb1
      rw [ed_full hn (by omega) hn8] at hb2
      exact hQ2 (by simpa using hb1) (of_decide_eq_true hb2)
    | false =>
      refine am_wb2 rfl false hb2 rfl ?_
      refine am_wh 1 (pc1 := 125) (lv1 := [(5, .int (nI (ed_n e 8))), (6, .int (bif ed_al e 8 then 1 else 0)), (0, .ref 32), (1, .int (nI a)), (2, .int (nI k)), (3, .long e)]) (st1 := [.int (bif ed_al e 8 then 1 else 0)]) rfl ?_
      refine am_wb1 rfl false (hb1) rfl ?_
      refine am_wh 2 (pc1 := 134) (lv1 := [(5, .int (nI (ed_n e 8))), (6, .int (bif ed_al e 8 then 1 else 0)), (0, .ref 32), (1, .int (nI a)), (2, .int (nI k)), (3, .long e)]) (st1 := [.int (-2)]) rfl ?_
      refine am_wr rfl rfl rfl ?_
      rw [ed_eq] at hb1
      rw [ed_full hn (by omega) hn8] at hb2
      exact hQ1 (by simpa using hb1) (of_decide_eq_false hb2)
set_option maxRecDepth 100000 in
set_option maxHeartbeats 4000000 in
theorem wm_len (xs : Option (List Int32)) (d : Nat) {u0 u1 u2 u3 u4 u5 u6 u7 u8 u9 u10 u11 u12 u13 u14 u15 u16 u17 u18 u19 u20 u21 u22 u23 u24 u25 u26 u27 u28 u29 u33 u34 u35 u36 u37 u38 u39 u40 u41 u42 u43 u44 u45 u46 u47 u48 u49 u50 u51 u52 u53 : am_E} {mo_tokenCount mo_at mo_depth mo_height mo_last mo_fault mo_faultAt mo_extents mo_scopeCount mo_nameCount mo_errorAt mo_error : Int32} {n st : Int32} {s kp : List Int32} (Q : Option Value → List am_E → Prop) (hQ : Q (some (.int n)) (HH u0 u1 u2 u3 u4 u5 u6 u7 u8 u9 u10 u11 u12 u13 u14 u15 u16 u17 u18 u19 u20 u21 u22 u23 u24 u25 u26 u27 u28 u29 (oj_9 n st mo_tokenCount mo_at mo_depth mo_height mo_last mo_fault mo_faultAt mo_extents mo_scopeCount mo_nameCount mo_errorAt mo_error) (.inl (false, s)) (.inl (false, kp)) u33 u34 u35 u36 u37 u38 u39 u40 u41 u42 u43 u44 u45 u46 u47 u48 u49 u50 u51 u52 u53)) : am_W (am_CX xs) d 134 0 [(0, .ref 32)] [] (HH u0 u1 u2 u3 u4 u5 u6 u7 u8 u9 u10 u11 u12 u13 u14 u15 u16 u17 u18 u19 u20 u21 u22 u23 u24 u25 u26 u27 u28 u29 (oj_9 n st mo_tokenCount mo_at mo_depth mo_height mo_last mo_fault mo_faultAt mo_extents mo_scopeCount mo_nameCount mo_errorAt mo_error) (.inl (false, s)) (.inl (false, kp)) u33 u34 u35 u36 u37 u38 u39 u40 u41 u42 u43 u44 u45 u46 u47 u48 u49 u50 u51 u52 u53) Q := by
  refine am_wh 2 (pc1 := 4) (lv1 := [(0, .ref 32)]) (st1 := [.int n]) rfl ?_
  refine am_wr rfl rfl rfl ?_
  exact hQ
set_option maxRecDepth 100000 in
set_option maxHeartbeats 4000000 in
theorem wm_chr (xs : Option (List Int32)) (d : Nat) {u0 u1 u2 u3 u4 u5 u6 u7 u8 u9 u10 u11 u12 u13 u14 u15 u16 u17 u18 u19 u20 u21 u22 u23 u24 u25 u26 u27 u28 u29 u33 u34 u35 u36 u37 u38 u39 u40 u41 u42 u43 u44 u45 u46 u47 u48 u49 u50 u51 u52 u53 : am_E} {mo_tokenCount mo_at mo_depth mo_height mo_last mo_fault mo_faultAt mo_extents mo_scopeCount mo_nameCount mo_errorAt mo_error : Int32} {st : Int32} {t s kp : List Int32} (ht : tx_in t s) (p : Int32) (Q : Option Value → List am_E → Prop) (hQ : Q (some (.int (tx_at t p))) (HH u0 u1 u2 u3 u4 u5 u6 u7 u8 u9 u10 u11 u12 u13 u14 u15 u16 u17 u18 u19 u20 u21 u22 u23 u24 u25 u26 u27 u28 u29 (oj_9 (nI t.length) st mo_tokenCount mo_at mo_depth mo_height mo_last mo_fault mo_faultAt mo_extents mo_scopeCount mo_nameCount mo_errorAt mo_error) (.inl (false, s)) (.inl (false, kp)) u33 u34 u35 u36 u37 u38 u39 u40 u41 u42 u43 u44 u45 u46 u47 u48 u49 u50 u51 u52 u53)) : am_W (am_CX xs) d 135 0 [(0, .ref 32), (1, .int p)] [] (HH u0 u1 u2 u3 u4 u5 u6 u7 u8 u9 u10 u11 u12 u13 u14 u15 u16 u17 u18 u19 u20 u21 u22 u23 u24 u25 u26 u27 u28 u29 (oj_9 (nI t.length) st mo_tokenCount mo_at mo_depth mo_height mo_last mo_fault mo_faultAt mo_extents mo_scopeCount mo_nameCount mo_errorAt mo_error) (.inl (false, s)) (.inl (false, kp)) u33 u34 u35 u36 u37 u38 u39 u40 u41 u42 u43 u44 u45 u46 u47 u48 u49 u50 u51 u52 u53) Q := by
  refine am_wh 1 (pc1 := 1) (lv1 := [(0, .ref 32), (1, .int p)]) (st1 := [.int p]) rfl ?_
  cases hb1 : am_if .lt p 0 with
  | true =>
    refine am_wb1 rfl true hb1 rfl ?_
    refine am_wh 1 (pc1 := 22) (lv1 := [(0, .ref 32), (1, .int p)]) (st1 := [.int (-1)]) rfl ?_
    refine am_wr rfl rfl rfl ?_
    rw [show tx_at t p = -1 by simp [tx_at, hb1]] at hQ
    exact hQ
  | false =>
    refine am_wb1 rfl false hb1 rfl ?_
    refine am_wh 3 (pc1 := 9) (lv1 := [(0, .ref 32), (1, .int p)]) (st1 := [.int (nI t.length), .int p]) rfl ?_
    cases hb2 : am_if .ge p (nI t.length) with
    | true =>
      refine am_wb2 rfl true hb2 rfl ?_
      refine am_wh 1 (pc1 := 22) (lv1 := [(0, .ref 32), (1, .int p)]) (st1 := [.int (-1)]) rfl ?_
      refine am_wr rfl rfl rfl ?_
      rw [show tx_at t p = -1 by simp [tx_at, hb1, am_lt0 hb2]] at hQ
      exact hQ
    | false =>
      refine am_wb2 rfl false hb2 rfl ?_
      refine am_wh 3 (pc1 := 17) (lv1 := [(0, .ref 32), (1, .int p)]) (st1 := [.int p, .ref 33]) rfl ?_
      refine am_wli (v := (tx_at t p)) rfl rfl ((tx_atc ht hb1 (am_lt1 hb2)).1) ((tx_atc ht hb1 (am_lt1 hb2)).2) ?_
      refine am_wh 1 (pc1 := 22) (lv1 := [(0, .ref 32), (1, .int p)]) (st1 := [.int (tx_at t p)]) rfl ?_
      refine am_wr rfl rfl rfl ?_
      exact hQ
