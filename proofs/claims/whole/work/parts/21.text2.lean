theorem ed_pl {p q : Int32} {n : Nat} (hn : n ≤ 200) (h1 : am_if .lt p 0 = false) (h2 : am_if .gt p (nI n) = false) (h3 : am_if .lt q 0 = false) (h4 : am_if .le q (nI n - p) = true) : ∃ a k : Nat, p = nI a ∧ q = nI k ∧ a + k ≤ n := by
  have g1 : ¬ p < 0 := of_decide_eq_false h1
  have g2 : ¬ nI n < p := of_decide_eq_false h2
  have g3 : ¬ q < 0 := of_decide_eq_false h3
  have g4 : q ≤ nI n - p := of_decide_eq_true h4
  obtain ⟨a, ha, rfl⟩ := nI_of g1
  obtain ⟨k, hk, rfl⟩ := nI_of g3
  rw [nI_ltI (by omega) ha] at g2
  rw [pk_sub (by omega), nI_leI hk (by omega)] at g4
  exact ⟨a, k, rfl, rfl, by omega⟩
theorem ed_pl1 {a n : Nat} (hn : n ≤ 200) (h : a ≤ n) : am_if .lt (nI a) 0 = false := decide_eq_false (nI_pos (by omega))
theorem ed_pl2 {a n : Nat} (hn : n ≤ 200) (h : a ≤ n) : am_if .gt (nI a) (nI n) = false := decide_eq_false (by rw [nI_ltI (by omega) (by omega)]; omega)
theorem ed_pl4 {a k n : Nat} (hn : n ≤ 200) (h : a + k ≤ n) : am_if .le (nI k) (nI n - nI a) = true := decide_eq_true (by rw [pk_sub (by omega), nI_leI (by omega) (by omega)]; omega)
theorem ed_pl5 {a k n : Nat} (hn : n ≤ 200) (h : a + k ≤ n) : am_if .gt (nI k) (nI n - nI a) = false := decide_eq_false (by rw [pk_sub (by omega), nI_ltI (by omega) (by omega)]; omega)
theorem ed_full {k n m : Nat} (hn : n ≤ 200) (h : k ≤ n) (hm : m ≤ 8) : am_if .le (nI n - nI k + nI m) 200 = decide (n - k + m ≤ 200) := by
  rw [pk_sub h, nI_add]
  show decide (nI (n - k + m) ≤ nI 200) = _
  exact decide_eq_decide.mpr (nI_leI (by omega) (by omega))
set_option maxRecDepth 100000 in
set_option maxHeartbeats 4000000 in
theorem wx_edn (xs : Option (List Int32)) (d n : Nat) {u3 u4 u5 u6 u7 u8 u9 u10 u11 u12 u13 u14 u15 u16 u17 u18 u19 u20 u21 u22 u23 u24 u25 u26 u27 u28 u29 u30 u31 u32 u33 u34 u35 u36 u37 u38 u39 u40 u41 u42 u43 u44 u45 u46 u47 u48 u49 u50 u51 u52 u53 : am_E} (s p q : Int32) (e : Int64) (l : List Int32) (Q : Option Value → List am_E → Prop) (hn : n ≤ 200) (hpl : ¬ ∃ a k : Nat, p = nI a ∧ q = nI k ∧ a + k ≤ n) (hQ : Q (some (.int (-1))) (HH (oj_0 s) (oj_1 (nI n)) (.inl (true, l)) u3 u4 u5 u6 u7 u8 u9 u10 u11 u12 u13 u14 u15 u16 u17 u18 u19 u20 u21 u22 u23 u24 u25 u26 u27 u28 u29 u30 u31 u32 u33 u34 u35 u36 u37 u38 u39 u40 u41 u42 u43 u44 u45 u46 u47 u48 u49 u50 u51 u52 u53)) : am_W (am_CX xs) d 109 0 [(0, .ref 2), (1, .int p), (2, .int q), (3, .long e)] [] (HH (oj_0 s) (oj_1 (nI n)) (.inl (true, l)) u3 u4 u5 u6 u7 u8 u9 u10 u11 u12 u13 u14 u15 u16 u17 u18 u19 u20 u21 u22 u23 u24 u25 u26 u27 u28 u29 u30 u31 u32 u33 u34 u35 u36 u37 u38 u39 u40 u41 u42 u43 u44 u45 u46 u47 u48 u49 u50 u51 u52 u53) Q := by
  refine am_wh 1 (pc1 := 1) (lv1 := [(0, .ref 2), (1, .int p), (2, .int q), (3, .long e)]) (st1 := [.int p]) rfl ?_
  cases hb1 : am_if .lt p 0 with
  | true =>
    refine am_wb1 rfl true hb1 rfl ?_
    refine am_wh 1 (pc1 := 33) (lv1 := [(0, .ref 2), (1, .int p), (2, .int q), (3, .long e)]) (st1 := [.int (-1)]) rfl ?_
    refine am_wr rfl rfl rfl ?_
    exact hQ
  | false =>
    refine am_wb1 rfl false hb1 rfl ?_
    refine am_wh 4 (pc1 := 12) (lv1 := [(0, .ref 2), (1, .int p), (2, .int q), (3, .long e)]) (st1 := [.int (nI n), .int p]) rfl ?_
    cases hb2 : am_if .gt p (nI n) with
    | true =>
      refine am_wb2 rfl true hb2 rfl ?_
      refine am_wh 1 (pc1 := 33) (lv1 := [(0, .ref 2), (1, .int p), (2, .int q), (3, .long e)]) (st1 := [.int (-1)]) rfl ?_
      refine am_wr rfl rfl rfl ?_
      exact hQ
    | false =>
      refine am_wb2 rfl false hb2 rfl ?_
      refine am_wh 1 (pc1 := 16) (lv1 := [(0, .ref 2), (1, .int p), (2, .int q), (3, .long e)]) (st1 := [.int q]) rfl ?_
      cases hb3 : am_if .lt q 0 with
      | true =>
        refine am_wb1 rfl true hb3 rfl ?_
        refine am_wh 1 (pc1 := 33) (lv1 := [(0, .ref 2), (1, .int p), (2, .int q), (3, .long e)]) (st1 := [.int (-1)]) rfl ?_
        refine am_wr rfl rfl rfl ?_
        exact hQ
      | false =>
        refine am_wb1 rfl false hb3 rfl ?_
        refine am_wh 6 (pc1 := 29) (lv1 := [(0, .ref 2), (1, .int p), (2, .int q), (3, .long e)]) (st1 := [.int ((nI n) - p), .int q]) rfl ?_
        cases hb4 : am_if .le q ((nI n) - p) with
        | true =>
          refine am_wb2 rfl true hb4 rfl ?_
          exact absurd (ed_pl hn hb1 hb2 hb3 hb4) hpl
        | false =>
          refine am_wb2 rfl false hb4 rfl ?_
          refine am_wh 1 (pc1 := 33) (lv1 := [(0, .ref 2), (1, .int p), (2, .int q), (3, .long e)]) (st1 := [.int (-1)]) rfl ?_
          refine am_wr rfl rfl rfl ?_
          exact hQ
set_option maxRecDepth 100000 in
set_option maxHeartbeats 4000000 in
theorem wx_edy (xs : Option (List Int32)) (d n a k : Nat) {u3 u4 u5 u6 u7 u8 u9 u10 u11 u12 u13 u14 u15 u16 u17 u18 u19 u20 u21 u22 u23 u24 u25 u26 u27 u28 u29 u30 u31 u32 u33 u34 u35 u36 u37 u38 u39 u40 u41 u42 u43 u44 u45 u46 u47 u48 u49 u50 u51 u52 u53 : am_E} (s : Int32) (e : Int64) (l : List Int32) (hl : l.length = 200) (hf : ∀ c ∈ l, fits .char (.int c) = true) (Q : Option Value → List am_E → Prop) (hn : n ≤ 200) (hak : a + k ≤ n) (hQ0 : ed_al e 8 = false → Q (some (.int (-1))) (HH (oj_0 s) (oj_1 (nI n)) (.inl (true, l)) u3 u4 u5 u6 u7 u8 u9 u10 u11 u12 u13 u14 u15 u16 u17 u18 u19 u20 u21 u22 u23 u24 u25 u26 u27 u28 u29 u30 u31 u32 u33 u34 u35 u36 u37 u38 u39 u40 u41 u42 u43 u44 u45 u46 u47 u48 u49 u50 u51 u52 u53)) (hQ1 : ed_al e 8 = true → ¬ n - k + ed_n e 8 ≤ 200 → Q (some (.int (-2))) (HH (oj_0 s) (oj_1 (nI n)) (.inl (true, l)) u3 u4 u5 u6 u7 u8 u9 u10 u11 u12 u13 u14 u15 u16 u17 u18 u19 u20 u21 u22 u23 u24 u25 u26 u27 u28 u29 u30 u31 u32 u33 u34 u35 u36 u37 u38 u39 u40 u41 u42 u43 u44 u45 u46 u47 u48 u49 u50 u51 u52 u53)) (hQ2 : ed_al e 8 = true → n - k + ed_n e 8 ≤ 200 → Q (some (.int (((nI n) - (nI k)) + (nI (ed_n e 8))))) (HH (oj_0 1) (oj_1 (((nI n) - (nI k)) + (nI (ed_n e 8)))) (.inl (true, (ed_w e 8 a (am_cp l l (a + k) (a + ed_n e 8) (n - a - k))))) u3 u4 u5 u6 u7 u8 u9 u10 u11 u12 u13 u14 u15 u16 u17 u18 u19 u20 u21 u22 u23 u24 u25 u26 u27 u28 u29 u30 u31 u32 u33 u34 u35 u36 u37 u38 u39 u40 u41 u42 u43 u44 u45 u46 u47 u48 u49 u50 u51 u52 u53)) : am_W (am_CX xs) (d + 3) 109 0 [(0, .ref 2), (1, .int (nI a)), (2, .int (nI k)), (3, .long e)] [] (HH (oj_0 s) (oj_1 (nI n)) (.inl (true, l)) u3 u4 u5 u6 u7 u8 u9 u10 u11 u12 u13 u14 u15 u16 u17 u18 u19 u20 u21 u22 u23 u24 u25 u26 u27 u28 u29 u30 u31 u32 u33 u34 u35 u36 u37 u38 u39 u40 u41 u42 u43 u44 u45 u46 u47 u48 u49 u50 u51 u52 u53) Q := by
  have hn8 : ed_n e 8 ≤ 8 := ed_n_le e 8
  refine am_wh 1 (pc1 := 1) (lv1 := [(0, .ref 2), (1, .int (nI a)), (2, .int (nI k)), (3, .long e)]) (st1 := [.int (nI a)]) rfl ?_
  refine am_wb1 rfl false (ed_pl1 hn (by omega)) rfl ?_
  refine am_wh 4 (pc1 := 12) (lv1 := [(0, .ref 2), (1, .int (nI a)), (2, .int (nI k)), (3, .long e)]) (st1 := [.int (nI n), .int (nI a)]) rfl ?_
  refine am_wb2 rfl false (ed_pl2 hn (by omega)) rfl ?_
  refine am_wh 1 (pc1 := 16) (lv1 := [(0, .ref 2), (1, .int (nI a)), (2, .int (nI k)), (3, .long e)]) (st1 := [.int (nI k)]) rfl ?_
  refine am_wb1 rfl false (ed_pl1 hn (by omega)) rfl ?_
  refine am_wh 6 (pc1 := 29) (lv1 := [(0, .ref 2), (1, .int (nI a)), (2, .int (nI k)), (3, .long e)]) (st1 := [.int ((nI n) - (nI a)), .int (nI k)]) rfl ?_
  refine am_wb2 rfl true (ed_pl4 hn hak) rfl ?_
  refine am_wh 1 (pc1 := 35) (lv1 := [(0, .ref 2), (1, .int (nI a)), (2, .int (nI k)), (3, .long e)]) (st1 := [.long e]) rfl ?_
  refine am_wc rfl rfl rfl ?_
  refine ec_ar _ _ _ _ _ ?_
  show am_W _ _ 109 38 [(0, .ref 2), (1, .int (nI a)), (2, .int (nI k)), (3, .long e)] [.int (bif ed_al e 8 then 1 else 0)] _ _
  cases hb1 : am_if .ne (bif ed_al e 8 then 1 else 0) 0 with
  | true =>
    refine am_wb1 rfl true hb1 rfl ?_
    refine am_wh 6 (pc1 := 53) (lv1 := [(0, .ref 2), (1, .int (nI a)), (2, .int (nI k)), (3, .long e)]) (st1 := [.long e, .int ((nI n) - (nI k))]) rfl ?_
    refine am_wc rfl rfl rfl ?_
    refine ec_sz _ _ _ _ _ ?_
    show am_W _ _ 109 56 [(0, .ref 2), (1, .int (nI a)), (2, .int (nI k)), (3, .long e)] [.int (nI (ed_n e 8)), .int ((nI n) - (nI k))] _ _
    refine am_wh 2 (pc1 := 60) (lv1 := [(0, .ref 2), (1, .int (nI a)), (2, .int (nI k)), (3, .long e)]) (st1 := [.int 200, .int (((nI n) - (nI k)) + (nI (ed_n e 8)))]) rfl ?_
    cases hb2 : am_if .le (((nI n) - (nI k)) + (nI (ed_n e 8))) 200 with
    | true =>
      refine am_wb2 rfl true hb2 rfl ?_
      refine am_wh 5 (pc1 := 73) (lv1 := [(0, .ref 2), (1, .int (nI a)), (2, .int (nI k)), (3, .long e)]) (st1 := [.long e, .int (nI k), .int (nI a), .ref 3]) rfl ?_
      refine am_wc rfl rfl rfl ?_
      refine wx_rep xs d n a k _ e l hl hf hak hn (by rw [ed_full hn (by omega) hn8] at hb2; exact of_decide_eq_true hb2) ?_
      show am_W _ _ 109 76 [(0, .ref 2), (1, .int (nI a)), (2, .int (nI k)), (3, .long e)] [] _ _
      refine am_wn 6 (pc1 := 88) (lv1 := [(0, .ref 2), (1, .int (nI a)), (2, .int (nI k)), (3, .long e)]) (st1 := [.int (((nI n) - (nI k)) + (nI (ed_n e 8)))]) (h1 := (HH (oj_0 1) (oj_1 (((nI n) - (nI k)) + (nI (ed_n e 8)))) (.inl (true, (ed_w e 8 a (am_cp l l (a + k) (a + ed_n e 8) (n - a - k))))) u3 u4 u5 u6 u7 u8 u9 u10 u11 u12 u13 u14 u15 u16 u17 u18 u19 u20 u21 u22 u23 u24 u25 u26 u27 u28 u29 u30 u31 u32 u33 u34 u35 u36 u37 u38 u39 u40 u41 u42 u43 u44 u45 u46 u47 u48 u49 u50 u51 u52 u53)) rfl ?_
      refine am_wr rfl rfl rfl ?_
      rw [ed_ne] at hb1
      rw [ed_full hn (by omega) hn8] at hb2
      exact hQ2 hb1 (of_decide_eq_true hb2)
    | false =>
      refine am_wb2 rfl false hb2 rfl ?_
      refine am_wh 1 (pc1 := 65) (lv1 := [(0, .ref 2), (1, .int (nI a)), (2, .int (nI k)), (3, .long e)]) (st1 := [.int (-2)]) rfl ?_
      refine am_wr rfl rfl rfl ?_
      rw [ed_ne] at hb1
      rw [ed_full hn (by omega) hn8] at hb2
      exact hQ1 hb1 (of_decide_eq_false hb2)
  | false =>
    refine am_wb1 rfl false hb1 rfl ?_
    refine am_wh 1 (pc1 := 42) (lv1 := [(0, .ref 2), (1, .int (nI a)), (2, .int (nI k)), (3, .long e)]) (st1 := [.int (-1)]) rfl ?_
    refine am_wr rfl rfl rfl ?_
    rw [ed_ne] at hb1
    exact hQ0 hb1
set_option maxRecDepth 100000 in
set_option maxHeartbeats 4000000 in
theorem wx_len (xs : Option (List Int32)) (d : Nat) {u3 u4 u5 u6 u7 u8 u9 u10 u11 u12 u13 u14 u15 u16 u17 u18 u19 u20 u21 u22 u23 u24 u25 u26 u27 u28 u29 u30 u31 u32 u33 u34 u35 u36 u37 u38 u39 u40 u41 u42 u43 u44 u45 u46 u47 u48 u49 u50 u51 u52 u53 : am_E} (s n : Int32) (l : List Int32) (Q : Option Value → List am_E → Prop) (hQ : Q (some (.int n)) (HH (oj_0 s) (oj_1 n) (.inl (true, l)) u3 u4 u5 u6 u7 u8 u9 u10 u11 u12 u13 u14 u15 u16 u17 u18 u19 u20 u21 u22 u23 u24 u25 u26 u27 u28 u29 u30 u31 u32 u33 u34 u35 u36 u37 u38 u39 u40 u41 u42 u43 u44 u45 u46 u47 u48 u49 u50 u51 u52 u53)) : am_W (am_CX xs) d 110 0 [(0, .ref 2)] [] (HH (oj_0 s) (oj_1 n) (.inl (true, l)) u3 u4 u5 u6 u7 u8 u9 u10 u11 u12 u13 u14 u15 u16 u17 u18 u19 u20 u21 u22 u23 u24 u25 u26 u27 u28 u29 u30 u31 u32 u33 u34 u35 u36 u37 u38 u39 u40 u41 u42 u43 u44 u45 u46 u47 u48 u49 u50 u51 u52 u53) Q := by
  refine am_wh 3 (pc1 := 7) (lv1 := [(0, .ref 2)]) (st1 := [.int n]) rfl ?_
  refine am_wr rfl rfl rfl ?_
  exact hQ
/-- the character at a place, or -1 -/
def tx_at (t : List Int32) (p : Int32) : Int32 := bif am_if .lt p 0 then -1 else bif am_if .lt p (nI t.length) then t.getD p.toNatClampNeg 0 else -1
theorem tx_atc {t l : List Int32} (ht : tx_in t l) {p : Int32} (h1 : am_if .lt p 0 = false) (h2 : am_if .lt p (nI t.length) = true) : ¬ p < 0 ∧ l[p.toNatClampNeg]? = some (tx_at t p) := by
  have g1 : ¬ p < 0 := of_decide_eq_false h1
  have g2 : p < nI t.length := of_decide_eq_true h2
  obtain ⟨a, ha, rfl⟩ := nI_of g1
  rw [nI_ltI ha (by have := ht.2.1; omega)] at g2
  refine ⟨g1, ?_⟩
  unfold tx_at
  rw [h1, h2, nI_clamp ha, ht.2.2 a g2]
  show t[a]? = some (t.getD a 0)
  rw [List.getD_eq_getElem?_getD, List.getElem?_eq_getElem g2]
  rfl
theorem am_lt1 {x y : Int32} (h : am_if .ge x y = false) : am_if .lt x y = true := by
  have g : ¬ y ≤ x := of_decide_eq_false h
  exact decide_eq_true (Int32.not_le.mp g)
theorem am_lt0 {x y : Int32} (h : am_if .ge x y = true) : am_if .lt x y = false := by
  have g : y ≤ x := of_decide_eq_true h
  exact decide_eq_false (Int32.not_lt.mpr g)
set_option maxRecDepth 100000 in
set_option maxHeartbeats 4000000 in
theorem wx_at (xs : Option (List Int32)) (d : Nat) {u0 u3 u4 u5 u6 u7 u8 u9 u10 u11 u12 u13 u14 u15 u16 u17 u18 u19 u20 u21 u22 u23 u24 u25 u26 u27 u28 u29 u30 u31 u32 u33 u34 u35 u36 u37 u38 u39 u40 u41 u42 u43 u44 u45 u46 u47 u48 u49 u50 u51 u52 u53 : am_E} (t l : List Int32) (ht : tx_in t l) (p : Int32) (Q : Option Value → List am_E → Prop) (hQ : Q (some (.int (tx_at t p))) (HH u0 (oj_1 (nI t.length)) (.inl (true, l)) u3 u4 u5 u6 u7 u8 u9 u10 u11 u12 u13 u14 u15 u16 u17 u18 u19 u20 u21 u22 u23 u24 u25 u26 u27 u28 u29 u30 u31 u32 u33 u34 u35 u36 u37 u38 u39 u40 u41 u42 u43 u44 u45 u46 u47 u48 u49 u50 u51 u52 u53)) : am_W (am_CX xs) d 85 0 [(0, .ref 3), (1, .int p)] [] (HH u0 (oj_1 (nI t.length)) (.inl (true, l)) u3 u4 u5 u6 u7 u8 u9 u10 u11 u12 u13 u14 u15 u16 u17 u18 u19 u20 u21 u22 u23 u24 u25 u26 u27 u28 u29 u30 u31 u32 u33 u34 u35 u36 u37 u38 u39 u40 u41 u42 u43 u44 u45 u46 u47 u48 u49 u50 u51 u52 u53) Q := by
  refine am_wh 1 (pc1 := 1) (lv1 := [(0, .ref 3), (1, .int p)]) (st1 := [.int p]) rfl ?_
  cases hb1 : am_if .lt p 0 with
  | true =>
    refine am_wb1 rfl true hb1 rfl ?_
    refine am_wh 1 (pc1 := 22) (lv1 := [(0, .ref 3), (1, .int p)]) (st1 := [.int (-1)]) rfl ?_
    refine am_wr rfl rfl rfl ?_
    rw [show tx_at t p = -1 by simp [tx_at, hb1]] at hQ
    exact hQ
  | false =>
    refine am_wb1 rfl false hb1 rfl ?_
    refine am_wh 3 (pc1 := 9) (lv1 := [(0, .ref 3), (1, .int p)]) (st1 := [.int (nI t.length), .int p]) rfl ?_
    cases hb2 : am_if .ge p (nI t.length) with
    | true =>
      refine am_wb2 rfl true hb2 rfl ?_
      refine am_wh 1 (pc1 := 22) (lv1 := [(0, .ref 3), (1, .int p)]) (st1 := [.int (-1)]) rfl ?_
      refine am_wr rfl rfl rfl ?_
      rw [show tx_at t p = -1 by simp [tx_at, hb1, am_lt0 hb2]] at hQ
      exact hQ
    | false =>
      refine am_wb2 rfl false hb2 rfl ?_
      refine am_wh 3 (pc1 := 17) (lv1 := [(0, .ref 3), (1, .int p)]) (st1 := [.int p, .ref 4]) rfl ?_
      refine am_wlc (v := (tx_at t p)) rfl rfl ((tx_atc ht hb1 (am_lt1 hb2)).1) ((tx_atc ht hb1 (am_lt1 hb2)).2) ?_
      refine am_wh 1 (pc1 := 22) (lv1 := [(0, .ref 3), (1, .int p)]) (st1 := [.int (tx_at t p)]) rfl ?_
      refine am_wr rfl rfl rfl ?_
      exact hQ
set_option maxRecDepth 100000 in
set_option maxHeartbeats 4000000 in
theorem wx_chr (xs : Option (List Int32)) (d : Nat) {u3 u4 u5 u6 u7 u8 u9 u10 u11 u12 u13 u14 u15 u16 u17 u18 u19 u20 u21 u22 u23 u24 u25 u26 u27 u28 u29 u30 u31 u32 u33 u34 u35 u36 u37 u38 u39 u40 u41 u42 u43 u44 u45 u46 u47 u48 u49 u50 u51 u52 u53 : am_E} (s : Int32) (t l : List Int32) (ht : tx_in t l) (p : Int32) (Q : Option Value → List am_E → Prop) (hQ : Q (some (.int (tx_at t p))) (HH (oj_0 s) (oj_1 (nI t.length)) (.inl (true, l)) u3 u4 u5 u6 u7 u8 u9 u10 u11 u12 u13 u14 u15 u16 u17 u18 u19 u20 u21 u22 u23 u24 u25 u26 u27 u28 u29 u30 u31 u32 u33 u34 u35 u36 u37 u38 u39 u40 u41 u42 u43 u44 u45 u46 u47 u48 u49 u50 u51 u52 u53)) : am_W (am_CX xs) (d + 1) 111 0 [(0, .ref 2), (1, .int p)] [] (HH (oj_0 s) (oj_1 (nI t.length)) (.inl (true, l)) u3 u4 u5 u6 u7 u8 u9 u10 u11 u12 u13 u14 u15 u16 u17 u18 u19 u20 u21 u22 u23 u24 u25 u26 u27 u28 u29 u30 u31 u32 u33 u34 u35 u36 u37 u38 u39 u40 u41 u42 u43 u44 u45 u46 u47 u48 u49 u50 u51 u52 u53) Q := by
  refine am_wh 3 (pc1 := 5) (lv1 := [(0, .ref 2), (1, .int p)]) (st1 := [.int p, .ref 3]) rfl ?_
  refine am_wc rfl rfl rfl ?_
  refine wx_at _ _ t l ht _ _ ?_
  show am_W _ _ 111 8 [(0, .ref 2), (1, .int p)] [.int (tx_at t p)] _ _
  refine am_wr rfl rfl rfl ?_
  exact hQ
