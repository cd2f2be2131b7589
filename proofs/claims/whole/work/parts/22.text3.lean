set_option maxRecDepth 100000 in
set_option maxHeartbeats 4000000 in
theorem em_edl (xs : Option (List Int32)) (d : Nat) (p q : Int32) (h : List am_E) (Q : Option Value → List am_E → Prop) (e : Int64) : ∀ m, m ≤ 8 → ∀ (a : Nat) (g : Bool), am_W (am_CX xs) (d + 1) 132 103 [(5, .int (nI (a + ed_n e m))), (6, .int (bif g && ed_al e m then 1 else 0)), (0, .ref 32), (1, .int p), (2, .int q), (3, .long e)] [] h Q → am_W (am_CX xs) (d + 1) 132 40 [(7, .int (ed_k m)), (5, .int (nI a)), (6, .int (bif g then 1 else 0)), (0, .ref 32), (1, .int p), (2, .int q), (3, .long e)] [] h Q := by
  intro m
  induction m with
  | zero =>
    intro _ a g hK
    show am_W _ _ 132 40 [(7, .int (-8)), (5, .int (nI a)), (6, .int (bif g then 1 else 0)), (0, .ref 32), (1, .int p), (2, .int q), (3, .long e)] [] h _
    refine am_wn 2 (pc1 := 103) (lv1 := [(7, .int (-8)), (5, .int (nI a)), (6, .int (bif g then 1 else 0)), (0, .ref 32), (1, .int p), (2, .int q), (3, .long e)]) (st1 := []) (h1 := h) rfl ?_
    rw [show (g && ed_al e 0) = g by cases g <;> rfl] at hK
    exact am_wm hK ⟨rfl, rfl, rfl, rfl, rfl, rfl, trivial⟩
  | succ m ih =>
    intro hm a g hK
    have hm8 : m < 8 := hm
    show am_W _ _ 132 40 [(7, .int (nI (8 * m))), (5, .int (nI a)), (6, .int (bif g then 1 else 0)), (0, .ref 32), (1, .int p), (2, .int q), (3, .long e)] [] h _
    refine am_wn 1 (pc1 := 42) (lv1 := [(7, .int (nI (8 * m))), (5, .int (nI a)), (6, .int (bif g then 1 else 0)), (0, .ref 32), (1, .int p), (2, .int q), (3, .long e)]) (st1 := [.int (nI (8 * m))]) (h1 := h) rfl ?_
    refine am_wb1 rfl false (ed_kp m hm8) rfl ?_
    refine am_wn 8 (pc1 := 58) (lv1 := [(8, .int (ed_b e m)), (7, .int (nI (8 * m))), (5, .int (nI a)), (6, .int (bif g then 1 else 0)), (0, .ref 32), (1, .int p), (2, .int q), (3, .long e)]) (st1 := [.int (bif g then 1 else 0)]) (h1 := h) rfl ?_
    cases hb1 : am_if .eq (bif g then 1 else 0) 0 with
    | true =>
      refine am_wb1 rfl true hb1 rfl ?_
      refine am_wn 3 (pc1 := 83) (lv1 := [(6, .int 0), (8, .int (ed_b e m)), (7, .int (nI (8 * m))), (5, .int (nI a)), (0, .ref 32), (1, .int p), (2, .int q), (3, .long e)]) (st1 := [.int (ed_b e m)]) (h1 := h) rfl ?_
      cases hb2 : am_if .eq (ed_b e m) 0 with
      | true =>
        refine am_wb1 rfl true hb2 rfl ?_
        refine am_wn 4 (pc1 := 40) (lv1 := [(7, .int ((nI (8 * m)) + (-8))), (5, .int (nI a)), (6, .int 0), (8, .int (ed_b e m)), (0, .ref 32), (1, .int p), (2, .int q), (3, .long e)]) (st1 := []) (h1 := h) rfl ?_
        rw [ed_eq] at hb1
        rw [ed_kd m hm8]
        refine am_wl (lv := [(7, .int (ed_k m)), (5, .int (nI a)), (6, .int (bif false then 1 else 0)), (0, .ref 32), (1, .int p), (2, .int q), (3, .long e)]) ⟨rfl, rfl, rfl, rfl, rfl, rfl, rfl, trivial⟩ (ih (Nat.le_of_lt hm8) a false ?_)
        have e1 : (g && ed_al e (m + 1)) = (false && ed_al e m) := by cases g <;> simp_all [ed_al]
        have e2 : a + ed_n e (m + 1) = a + ed_n e m := by simp [ed_n, hb1, hb2]
        rw [e1, e2] at hK
        exact hK
      | false =>
        refine am_wb1 rfl false hb2 rfl ?_
        refine am_wn 7 (pc1 := 40) (lv1 := [(7, .int ((nI (8 * m)) + (-8))), (5, .int ((nI a) + 1)), (6, .int 0), (8, .int (ed_b e m)), (0, .ref 32), (1, .int p), (2, .int q), (3, .long e)]) (st1 := []) (h1 := h) rfl ?_
        rw [ed_eq] at hb1
        rw [ed_kd m hm8, nI_1]
        refine am_wl (lv := [(7, .int (ed_k m)), (5, .int (nI (a + 1))), (6, .int (bif false then 1 else 0)), (0, .ref 32), (1, .int p), (2, .int q), (3, .long e)]) ⟨rfl, rfl, rfl, rfl, rfl, rfl, rfl, trivial⟩ (ih (Nat.le_of_lt hm8) (a + 1) false ?_)
        have e1 : (g && ed_al e (m + 1)) = (false && ed_al e m) := by cases g <;> simp_all [ed_al]
        have e2 : a + ed_n e (m + 1) = (a + 1) + ed_n e m := by simp [ed_n, hb1, hb2]; omega
        rw [e1, e2] at hK
        exact hK
    | false =>
      refine am_wb1 rfl false hb1 rfl ?_
      refine am_wn 1 (pc1 := 63) (lv1 := [(8, .int (ed_b e m)), (7, .int (nI (8 * m))), (5, .int (nI a)), (6, .int (bif g then 1 else 0)), (0, .ref 32), (1, .int p), (2, .int q), (3, .long e)]) (st1 := [.int (ed_b e m)]) (h1 := h) rfl ?_
      cases hb3 : am_if .eq (ed_b e m) 0 with
      | true =>
        refine am_wb1 rfl true hb3 rfl ?_
        refine am_wn 4 (pc1 := 83) (lv1 := [(6, .int 1), (8, .int (ed_b e m)), (7, .int (nI (8 * m))), (5, .int (nI a)), (0, .ref 32), (1, .int p), (2, .int q), (3, .long e)]) (st1 := [.int (ed_b e m)]) (h1 := h) rfl ?_
        refine am_wb1 rfl true (hb3) rfl ?_
        refine am_wn 4 (pc1 := 40) (lv1 := [(7, .int ((nI (8 * m)) + (-8))), (5, .int (nI a)), (6, .int 1), (8, .int (ed_b e m)), (0, .ref 32), (1, .int p), (2, .int q), (3, .long e)]) (st1 := []) (h1 := h) rfl ?_
        rw [ed_eq] at hb1
        rw [ed_kd m hm8]
        refine am_wl (lv := [(7, .int (ed_k m)), (5, .int (nI a)), (6, .int (bif true then 1 else 0)), (0, .ref 32), (1, .int p), (2, .int q), (3, .long e)]) ⟨rfl, rfl, rfl, rfl, rfl, rfl, rfl, trivial⟩ (ih (Nat.le_of_lt hm8) a true ?_)
        have e1 : (g && ed_al e (m + 1)) = (true && ed_al e m) := by cases g <;> simp_all [ed_al]
        have e2 : a + ed_n e (m + 1) = a + ed_n e m := by simp [ed_n, hb1, hb3]
        rw [e1, e2] at hK
        exact hK
      | false =>
        refine am_wb1 rfl false hb3 rfl ?_
        refine am_wn 1 (pc1 := 68) (lv1 := [(8, .int (ed_b e m)), (7, .int (nI (8 * m))), (5, .int (nI a)), (6, .int (bif g then 1 else 0)), (0, .ref 32), (1, .int p), (2, .int q), (3, .long e)]) (st1 := [.int (ed_b e m)]) (h1 := h) rfl ?_
        refine am_wc rfl rfl rfl ?_
        refine ec_ism _ _ _ _ _ ?_
        show am_W _ _ 132 71 [(8, .int (ed_b e m)), (7, .int (nI (8 * m))), (5, .int (nI a)), (6, .int (bif g then 1 else 0)), (0, .ref 32), (1, .int p), (2, .int q), (3, .long e)] [.int (bif ed_ok (ed_b e m) then 1 else 0)] h _
        cases hb4 : am_if .eq (bif ed_ok (ed_b e m) then 1 else 0) 0 with
        | true =>
          refine am_wb1 rfl true hb4 rfl ?_
          refine am_wn 3 (pc1 := 83) (lv1 := [(6, .int 0), (8, .int (ed_b e m)), (7, .int (nI (8 * m))), (5, .int (nI a)), (0, .ref 32), (1, .int p), (2, .int q), (3, .long e)]) (st1 := [.int (ed_b e m)]) (h1 := h) rfl ?_
          refine am_wb1 rfl false (hb3) rfl ?_
          refine am_wn 7 (pc1 := 40) (lv1 := [(7, .int ((nI (8 * m)) + (-8))), (5, .int ((nI a) + 1)), (6, .int 0), (8, .int (ed_b e m)), (0, .ref 32), (1, .int p), (2, .int q), (3, .long e)]) (st1 := []) (h1 := h) rfl ?_
          rw [ed_eq] at hb1
          rw [ed_eq] at hb4
          rw [ed_kd m hm8, nI_1]
          refine am_wl (lv := [(7, .int (ed_k m)), (5, .int (nI (a + 1))), (6, .int (bif false then 1 else 0)), (0, .ref 32), (1, .int p), (2, .int q), (3, .long e)]) ⟨rfl, rfl, rfl, rfl, rfl, rfl, rfl, trivial⟩ (ih (Nat.le_of_lt hm8) (a + 1) false ?_)
          have e1 : (g && ed_al e (m + 1)) = (false && ed_al e m) := by cases g <;> simp_all [ed_al]
          have e2 : a + ed_n e (m + 1) = (a + 1) + ed_n e m := by simp [ed_n, hb1, hb3, hb4]; omega
          rw [e1, e2] at hK
          exact hK
        | false =>
          refine am_wb1 rfl false hb4 rfl ?_
          refine am_wn 4 (pc1 := 83) (lv1 := [(6, .int 1), (8, .int (ed_b e m)), (7, .int (nI (8 * m))), (5, .int (nI a)), (0, .ref 32), (1, .int p), (2, .int q), (3, .long e)]) (st1 := [.int (ed_b e m)]) (h1 := h) rfl ?_
          refine am_wb1 rfl false (hb3) rfl ?_
          refine am_wn 7 (pc1 := 40) (lv1 := [(7, .int ((nI (8 * m)) + (-8))), (5, .int ((nI a) + 1)), (6, .int 1), (8, .int (ed_b e m)), (0, .ref 32), (1, .int p), (2, .int q), (3, .long e)]) (st1 := []) (h1 := h) rfl ?_
          rw [ed_eq] at hb1
          rw [ed_eq] at hb4
          rw [ed_kd m hm8, nI_1]
          refine am_wl (lv := [(7, .int (ed_k m)), (5, .int (nI (a + 1))), (6, .int (bif true then 1 else 0)), (0, .ref 32), (1, .int p), (2, .int q), (3, .long e)]) ⟨rfl, rfl, rfl, rfl, rfl, rfl, rfl, trivial⟩ (ih (Nat.le_of_lt hm8) (a + 1) true ?_)
          have e1 : (g && ed_al e (m + 1)) = (true && ed_al e m) := by cases g <;> simp_all [ed_al]
          have e2 : a + ed_n e (m + 1) = (a + 1) + ed_n e m := by simp [ed_n, hb1, hb3, hb4]; omega
          rw [e1, e2] at hK
          exact hK
/-! The reference's replace: the tail is copied out, laid back at its new place, the eight are laid. -/
def md_c : Nat → Nat → List Int32 → List Int32 → List Int32
  | 0, _, _, kp => kp
  | c + 1, q, s, kp => md_c c (q + 1) s (kp.set q (s.getD q 0))
def md_s (k m : Nat) : Nat → Nat → List Int32 → List Int32 → List Int32
  | 0, _, _, s => s
  | c + 1, q, kp, s => md_s k m c (q + 1) kp (s.set (q - k + m) (kp.getD q 0))
theorem md_c_len : ∀ (c q : Nat) (s kp : List Int32), (md_c c q s kp).length = kp.length := by
  intro c
  induction c with
  | zero => intro q s kp; rfl
  | succ c ih => intro q s kp; show (md_c c (q + 1) s (kp.set q (s.getD q 0))).length = _; rw [ih, List.length_set]
theorem md_s_len (k m : Nat) : ∀ (c q : Nat) (kp s : List Int32), (md_s k m c q kp s).length = s.length := by
  intro c
  induction c with
  | zero => intro q kp s; rfl
  | succ c ih => intro q kp s; show (md_s k m c (q + 1) kp (s.set (q - k + m) (kp.getD q 0))).length = _; rw [ih, List.length_set]
theorem md_gd {s : List Int32} {q : Nat} (h : q < s.length) : some (s.getD q 0) = s[q]? := by
  rw [List.getD_eq_getElem?_getD, List.getElem?_eq_getElem h]
  rfl
theorem md_c_get : ∀ (c q : Nat) (s kp : List Int32), q + c ≤ s.length → q + c ≤ kp.length → ∀ j : Nat, (md_c c q s kp)[j]? = if q ≤ j ∧ j < q + c then s[j]? else kp[j]? := by
  intro c
  induction c with
  | zero => intro q s kp _ _ j; rw [if_neg (by omega)]; rfl
  | succ c ih =>
    intro q s kp h1 h2 j
    show (md_c c (q + 1) s (kp.set q (s.getD q 0)))[j]? = _
    rw [ih (q + 1) s _ (by omega) (by rw [List.length_set]; omega) j]
    by_cases hj : j = q
    · subst hj
      rw [if_neg (by omega), if_pos (by omega), List.getElem?_set_self (by omega)]
      exact md_gd (by omega)
    · rw [List.getElem?_set_ne (fun z => hj z.symm)]
      by_cases h3 : q + 1 ≤ j ∧ j < q + 1 + c
      · rw [if_pos h3, if_pos (by omega)]
      · rw [if_neg h3, if_neg (by omega)]
theorem md_s_get (k m : Nat) : ∀ (c q : Nat) (kp s : List Int32), k ≤ q → q + c ≤ kp.length → q - k + m + c ≤ s.length → ∀ j : Nat, (md_s k m c q kp s)[j]? = if q - k + m ≤ j ∧ j < q - k + m + c then kp[j + k - m]? else s[j]? := by
  intro c
  induction c with
  | zero => intro q kp s _ _ _ j; rw [if_neg (by omega)]; rfl
  | succ c ih =>
    intro q kp s h0 h1 h2 j
    show (md_s k m c (q + 1) kp (s.set (q - k + m) (kp.getD q 0)))[j]? = _
    rw [ih (q + 1) kp _ (by omega) (by omega) (by rw [List.length_set]; omega) j]
    by_cases hj : j = q - k + m
    · subst hj
      rw [if_neg (by omega), if_pos (by omega), List.getElem?_set_self (by omega)]
      have e : q - k + m + k - m = q := by omega
      rw [e]
      exact md_gd (by omega)
    · rw [List.getElem?_set_ne (fun z => hj z.symm)]
      by_cases h3 : q + 1 - k + m ≤ j ∧ j < q + 1 - k + m + c
      · rw [if_pos h3, if_pos (by omega)]
      · rw [if_neg h3, if_neg (by omega)]
/-- what the text's array is then -/
def md_r (e : Int64) (n a k : Nat) (s kp : List Int32) : List Int32 := ed_w e 8 a (md_s k (ed_n e 8) (n - a - k) (a + k) (md_c (n - a - k) (a + k) s kp) s)
theorem tx_repm {t s kp : List Int32} {a k : Nat} {e : Int64} (ht : tx_in t s) (hk : kp.length = 200) (h : a + k ≤ t.length) (h2 : t.length - k + ed_n e 8 ≤ 200) : tx_in (tx_new t a k e) (md_r e t.length a k s kp) := by
  obtain ⟨h3, h4, h5⟩ := ht
  unfold md_r
  have lc : (md_c (t.length - a - k) (a + k) s kp).length = 200 := by rw [md_c_len, hk]
  have ls : (md_s k (ed_n e 8) (t.length - a - k) (a + k) (md_c (t.length - a - k) (a + k) s kp) s).length = 200 := by rw [md_s_len, h3]
  refine ⟨by rw [ed_w_len, ls], by rw [tx_new_len h]; exact h2, fun j hj => ?_⟩
  rw [tx_new_len h] at hj
  rw [ed_w_get e 8 a _ (by rw [ls]; omega), tx_new_get h]
  by_cases g1 : j < a
  · rw [if_neg (by omega), if_pos g1, md_s_get k _ _ _ _ _ (by omega) (by rw [lc]; omega) (by rw [h3]; omega), if_neg (by omega)]
    exact h5 j (by omega)
  · rw [if_neg g1]
    by_cases g2 : j < a + ed_n e 8
    · rw [if_pos (by omega), if_pos g2]
    · rw [if_neg (by omega), if_neg g2, md_s_get k _ _ _ _ _ (by omega) (by rw [lc]; omega) (by rw [h3]; omega), if_pos (by omega), md_c_get _ _ _ _ (by rw [h3]; omega) (by rw [hk]; omega), if_pos (by omega)]
      have e1 : j + k - ed_n e 8 = j - ed_n e 8 + k := by omega
      rw [e1]
      exact h5 _ (by omega)
set_option maxRecDepth 100000 in
set_option maxHeartbeats 4000000 in
theorem wm_rp1 (xs : Option (List Int32)) (d n a k m : Nat) {u0 u1 u2 u3 u4 u5 u6 u7 u8 u9 u10 u11 u12 u13 u14 u15 u16 u17 u18 u19 u20 u21 u22 u23 u24 u25 u26 u27 u28 u29 u33 u34 u35 u36 u37 u38 u39 u40 u41 u42 u43 u44 u45 u46 u47 u48 u49 u50 u51 u52 u53 : am_E} {mo_tokenCount mo_at mo_depth mo_height mo_last mo_fault mo_faultAt mo_extents mo_scopeCount mo_nameCount mo_errorAt mo_error : Int32} {st : Int32} (e : Int64) (Q : Option Value → List am_E → Prop) (s : List Int32) (hs : s.length = 200) (hn : n ≤ 200) : ∀ (c q : Nat) (kp : List Int32), q + c = n → kp.length = 200 → am_W (am_CX xs) d 133 34 [(0, .ref 32), (1, .int (nI a)), (2, .int (nI k)), (3, .int (nI m)), (4, .long e)] [] (HH u0 u1 u2 u3 u4 u5 u6 u7 u8 u9 u10 u11 u12 u13 u14 u15 u16 u17 u18 u19 u20 u21 u22 u23 u24 u25 u26 u27 u28 u29 (oj_9 (nI n) st mo_tokenCount mo_at mo_depth mo_height mo_last mo_fault mo_faultAt mo_extents mo_scopeCount mo_nameCount mo_errorAt mo_error) (.inl (false, s)) (.inl (false, (md_c c q s kp))) u33 u34 u35 u36 u37 u38 u39 u40 u41 u42 u43 u44 u45 u46 u47 u48 u49 u50 u51 u52 u53) Q → am_W (am_CX xs) d 133 5 [(6, .int (nI q)), (0, .ref 32), (1, .int (nI a)), (2, .int (nI k)), (3, .int (nI m)), (4, .long e)] [] (HH u0 u1 u2 u3 u4 u5 u6 u7 u8 u9 u10 u11 u12 u13 u14 u15 u16 u17 u18 u19 u20 u21 u22 u23 u24 u25 u26 u27 u28 u29 (oj_9 (nI n) st mo_tokenCount mo_at mo_depth mo_height mo_last mo_fault mo_faultAt mo_extents mo_scopeCount mo_nameCount mo_errorAt mo_error) (.inl (false, s)) (.inl (false, kp)) u33 u34 u35 u36 u37 u38 u39 u40 u41 u42 u43 u44 u45 u46 u47 u48 u49 u50 u51 u52 u53) Q := by
  intro c
  induction c with
  | zero =>
    intro q kp hq hkp hK
    refine am_wh 3 (pc1 := 11) (lv1 := [(6, .int (nI q)), (0, .ref 32), (1, .int (nI a)), (2, .int (nI k)), (3, .int (nI m)), (4, .long e)]) (st1 := [.int (nI n), .int (nI q)]) rfl ?_
    refine am_wb2 rfl true (show am_if .ge (nI q) (nI n) = true from decide_eq_true (by rw [nI_leI (by omega) (by omega)]; omega)) rfl ?_
    exact am_wm hK ⟨rfl, rfl, rfl, rfl, rfl, trivial⟩
  | succ c ih =>
    intro q kp hq hkp hK
    refine am_wh 3 (pc1 := 11) (lv1 := [(6, .int (nI q)), (0, .ref 32), (1, .int (nI a)), (2, .int (nI k)), (3, .int (nI m)), (4, .long e)]) (st1 := [.int (nI n), .int (nI q)]) rfl ?_
    refine am_wb2 rfl false (show am_if .ge (nI q) (nI n) = false from decide_eq_false (by rw [nI_leI (by omega) (by omega)]; omega)) rfl ?_
    refine am_wh 6 (pc1 := 26) (lv1 := [(6, .int (nI q)), (0, .ref 32), (1, .int (nI a)), (2, .int (nI k)), (3, .int (nI m)), (4, .long e)]) (st1 := [.int (nI q), .ref 33, .int (nI q), .ref 34]) rfl ?_
    refine am_wliE (i := q) rfl rfl (rfl) (by omega) (by omega) ?_
    refine am_wsiE (i := q) (h1 := (HH u0 u1 u2 u3 u4 u5 u6 u7 u8 u9 u10 u11 u12 u13 u14 u15 u16 u17 u18 u19 u20 u21 u22 u23 u24 u25 u26 u27 u28 u29 (oj_9 (nI n) st mo_tokenCount mo_at mo_depth mo_height mo_last mo_fault mo_faultAt mo_extents mo_scopeCount mo_nameCount mo_errorAt mo_error) (.inl (false, s)) (.inl (false, (kp.set q (s.getD q 0)))) u33 u34 u35 u36 u37 u38 u39 u40 u41 u42 u43 u44 u45 u46 u47 u48 u49 u50 u51 u52 u53)) rfl rfl (rfl) (by omega) (by omega) (rfl) ?_
    refine am_wh 2 (pc1 := 5) (lv1 := [(6, .int ((nI q) + 1)), (0, .ref 32), (1, .int (nI a)), (2, .int (nI k)), (3, .int (nI m)), (4, .long e)]) (st1 := []) rfl ?_
    rw [nI_1]
    exact ih (q + 1) _ (by omega) (by rw [List.length_set]; exact hkp) hK
set_option maxRecDepth 100000 in
set_option maxHeartbeats 4000000 in
theorem wm_rp2 (xs : Option (List Int32)) (d n a k m : Nat) {u0 u1 u2 u3 u4 u5 u6 u7 u8 u9 u10 u11 u12 u13 u14 u15 u16 u17 u18 u19 u20 u21 u22 u23 u24 u25 u26 u27 u28 u29 u33 u34 u35 u36 u37 u38 u39 u40 u41 u42 u43 u44 u45 u46 u47 u48 u49 u50 u51 u52 u53 : am_E} {mo_tokenCount mo_at mo_depth mo_height mo_last mo_fault mo_faultAt mo_extents mo_scopeCount mo_nameCount mo_errorAt mo_error : Int32} {st : Int32} (e : Int64) (Q : Option Value → List am_E → Prop) (kp : List Int32) (hkp : kp.length = 200) (hn : n ≤ 200) : ∀ (c q : Nat) (s : List Int32), q + c = n → k ≤ q → s.length = 200 → n - k + m ≤ 200 → am_W (am_CX xs) d 133 72 [(0, .ref 32), (1, .int (nI a)), (2, .int (nI k)), (3, .int (nI m)), (4, .long e)] [] (HH u0 u1 u2 u3 u4 u5 u6 u7 u8 u9 u10 u11 u12 u13 u14 u15 u16 u17 u18 u19 u20 u21 u22 u23 u24 u25 u26 u27 u28 u29 (oj_9 (nI n) st mo_tokenCount mo_at mo_depth mo_height mo_last mo_fault mo_faultAt mo_extents mo_scopeCount mo_nameCount mo_errorAt mo_error) (.inl (false, (md_s k m c q kp s))) (.inl (false, kp)) u33 u34 u35 u36 u37 u38 u39 u40 u41 u42 u43 u44 u45 u46 u47 u48 u49 u50 u51 u52 u53) Q → am_W (am_CX xs) d 133 39 [(6, .int (nI q)), (0, .ref 32), (1, .int (nI a)), (2, .int (nI k)), (3, .int (nI m)), (4, .long e)] [] (HH u0 u1 u2 u3 u4 u5 u6 u7 u8 u9 u10 u11 u12 u13 u14 u15 u16 u17 u18 u19 u20 u21 u22 u23 u24 u25 u26 u27 u28 u29 (oj_9 (nI n) st mo_tokenCount mo_at mo_depth mo_height mo_last mo_fault mo_faultAt mo_extents mo_scopeCount mo_nameCount mo_errorAt mo_error) (.inl (false, s)) (.inl (false, kp)) u33 u34 u35 u36 u37 u38 u39 u40 u41 u42 u43 u44 u45 u46 u47 u48 u49 u50 u51 u52 u53) Q := by
  intro c
  induction c with
  | zero =>
    intro q s hq hkq hs hm hK
    refine am_wh 3 (pc1 := 45) (lv1 := [(6, .int (nI q)), (0, .ref 32), (1, .int (nI a)), (2, .int (nI k)), (3, .int (nI m)), (4, .long e)]) (st1 := [.int (nI n), .int (nI q)]) rfl ?_
    refine am_wb2 rfl true (show am_if .ge (nI q) (nI n) = true from decide_eq_true (by rw [nI_leI (by omega) (by omega)]; omega)) rfl ?_
    exact am_wm hK ⟨rfl, rfl, rfl, rfl, rfl, trivial⟩
  | succ c ih =>
    intro q s hq hkq hs hm hK
    refine am_wh 3 (pc1 := 45) (lv1 := [(6, .int (nI q)), (0, .ref 32), (1, .int (nI a)), (2, .int (nI k)), (3, .int (nI m)), (4, .long e)]) (st1 := [.int (nI n), .int (nI q)]) rfl ?_
    refine am_wb2 rfl false (show am_if .ge (nI q) (nI n) = false from decide_eq_false (by rw [nI_leI (by omega) (by omega)]; omega)) rfl ?_
    refine am_wh 10 (pc1 := 64) (lv1 := [(6, .int (nI q)), (0, .ref 32), (1, .int (nI a)), (2, .int (nI k)), (3, .int (nI m)), (4, .long e)]) (st1 := [.int (nI q), .ref 34, .int (((nI q) - (nI k)) + (nI m)), .ref 33]) rfl ?_
    refine am_wliE (i := q) rfl rfl (rfl) (by omega) (by omega) ?_
    refine am_wsiE (i := (q - k + m)) (h1 := (HH u0 u1 u2 u3 u4 u5 u6 u7 u8 u9 u10 u11 u12 u13 u14 u15 u16 u17 u18 u19 u20 u21 u22 u23 u24 u25 u26 u27 u28 u29 (oj_9 (nI n) st mo_tokenCount mo_at mo_depth mo_height mo_last mo_fault mo_faultAt mo_extents mo_scopeCount mo_nameCount mo_errorAt mo_error) (.inl (false, (s.set (q - k + m) (kp.getD q 0)))) (.inl (false, kp)) u33 u34 u35 u36 u37 u38 u39 u40 u41 u42 u43 u44 u45 u46 u47 u48 u49 u50 u51 u52 u53)) rfl rfl (by rw [pk_sub (by omega), nI_add]) (by omega) (by omega) (rfl) ?_
    refine am_wh 2 (pc1 := 39) (lv1 := [(6, .int ((nI q) + 1)), (0, .ref 32), (1, .int (nI a)), (2, .int (nI k)), (3, .int (nI m)), (4, .long e)]) (st1 := []) rfl ?_
    rw [nI_1]
    exact ih (q + 1) _ (by omega) (by omega) (by rw [List.length_set]; exact hs) (by omega) hK
set_option maxRecDepth 100000 in
set_option maxHeartbeats 4000000 in
theorem wm_rp3 (xs : Option (List Int32)) (d : Nat) {u0 u1 u2 u3 u4 u5 u6 u7 u8 u9 u10 u11 u12 u13 u14 u15 u16 u17 u18 u19 u20 u21 u22 u23 u24 u25 u26 u27 u28 u29 u33 u34 u35 u36 u37 u38 u39 u40 u41 u42 u43 u44 u45 u46 u47 u48 u49 u50 u51 u52 u53 : am_E} {mo_tokenCount mo_at mo_depth mo_height mo_last mo_fault mo_faultAt mo_extents mo_scopeCount mo_nameCount mo_errorAt mo_error : Int32} {n st : Int32} {kp : List Int32} (e : Int64) (Q : Option Value → List am_E → Prop) : ∀ m, m ≤ 8 → ∀ (q : Nat) (s : List Int32), q + ed_n e m ≤ 200 → s.length = 200 → Q none (HH u0 u1 u2 u3 u4 u5 u6 u7 u8 u9 u10 u11 u12 u13 u14 u15 u16 u17 u18 u19 u20 u21 u22 u23 u24 u25 u26 u27 u28 u29 (oj_9 n 1 mo_tokenCount mo_at mo_depth mo_height mo_last mo_fault mo_faultAt mo_extents mo_scopeCount mo_nameCount mo_errorAt mo_error) (.inl (false, (ed_w e m q s))) (.inl (false, kp)) u33 u34 u35 u36 u37 u38 u39 u40 u41 u42 u43 u44 u45 u46 u47 u48 u49 u50 u51 u52 u53) → am_W (am_CX xs) d 133 91 [(7, .int (ed_k m)), (6, .int (nI q)), (0, .ref 32), (4, .long e)] [] (HH u0 u1 u2 u3 u4 u5 u6 u7 u8 u9 u10 u11 u12 u13 u14 u15 u16 u17 u18 u19 u20 u21 u22 u23 u24 u25 u26 u27 u28 u29 (oj_9 n st mo_tokenCount mo_at mo_depth mo_height mo_last mo_fault mo_faultAt mo_extents mo_scopeCount mo_nameCount mo_errorAt mo_error) (.inl (false, s)) (.inl (false, kp)) u33 u34 u35 u36 u37 u38 u39 u40 u41 u42 u43 u44 u45 u46 u47 u48 u49 u50 u51 u52 u53) Q := by
  intro m
  induction m with
  | zero =>
    intro _ q s _ hs hQ
    show am_W _ _ 133 91 [(7, .int (-8)), (6, .int (nI q)), (0, .ref 32), (4, .long e)] [] _ _
    refine am_wn 5 (pc1 := 136) (lv1 := [(7, .int (-8)), (6, .int (nI q)), (0, .ref 32), (4, .long e)]) (st1 := []) (h1 := (HH u0 u1 u2 u3 u4 u5 u6 u7 u8 u9 u10 u11 u12 u13 u14 u15 u16 u17 u18 u19 u20 u21 u22 u23 u24 u25 u26 u27 u28 u29 (oj_9 n 1 mo_tokenCount mo_at mo_depth mo_height mo_last mo_fault mo_faultAt mo_extents mo_scopeCount mo_nameCount mo_errorAt mo_error) (.inl (false, s)) (.inl (false, kp)) u33 u34 u35 u36 u37 u38 u39 u40 u41 u42 u43 u44 u45 u46 u47 u48 u49 u50 u51 u52 u53)) rfl ?_
    refine am_wr rfl rfl rfl ?_
    exact hQ
  | succ m ih =>
    intro hm q s hq hs hQ
    have hm8 : m < 8 := hm
    show am_W _ _ 133 91 [(7, .int (nI (8 * m))), (6, .int (nI q)), (0, .ref 32), (4, .long e)] [] _ _
    refine am_wh 1 (pc1 := 93) (lv1 := [(7, .int (nI (8 * m))), (6, .int (nI q)), (0, .ref 32), (4, .long e)]) (st1 := [.int (nI (8 * m))]) rfl ?_
    refine am_wb1 rfl false (ed_kp m hm8) rfl ?_
    refine am_wh 8 (pc1 := 110) (lv1 := [(8, .int (ed_b e m)), (7, .int (nI (8 * m))), (6, .int (nI q)), (0, .ref 32), (4, .long e)]) (st1 := [.int (ed_b e m)]) rfl ?_
    cases hb1 : am_if .eq (ed_b e m) 0 with
    | true =>
      have hw : ed_w e (m + 1) q s = ed_w e m q s := by show (bif am_if .eq (ed_b e m) 0 then _ else _) = _; rw [hb1]; rfl
      have hn : ed_n e (m + 1) = ed_n e m := by show (bif am_if .eq (ed_b e m) 0 then 0 else 1) + _ = _; rw [hb1]; exact Nat.zero_add _
      refine am_wb1 rfl true hb1 rfl ?_
      refine am_wh 2 (pc1 := 91) (lv1 := [(7, .int ((nI (8 * m)) + (-8))), (8, .int (ed_b e m)), (6, .int (nI q)), (0, .ref 32), (4, .long e)]) (st1 := []) rfl ?_
      rw [ed_kd m hm8]
      exact am_wm (ih (Nat.le_of_lt hm8) q s (by omega) hs (by rw [hw] at hQ; exact hQ)) ⟨rfl, rfl, rfl, rfl, trivial⟩
    | false =>
      have hw : ed_w e (m + 1) q s = ed_w e m (q + 1) (s.set q (ed_b e m)) := by show (bif am_if .eq (ed_b e m) 0 then _ else _) = _; rw [hb1]; rfl
      have hn : ed_n e (m + 1) = 1 + ed_n e m := by show (bif am_if .eq (ed_b e m) 0 then 0 else 1) + _ = _; rw [hb1]; rfl
      refine am_wb1 rfl false hb1 rfl ?_
      refine am_wh 4 (pc1 := 121) (lv1 := [(8, .int (ed_b e m)), (7, .int (nI (8 * m))), (6, .int (nI q)), (0, .ref 32), (4, .long e)]) (st1 := [.int (ed_b e m), .int (nI q), .ref 33]) rfl ?_
      refine am_wsiE (i := q) (h1 := (HH u0 u1 u2 u3 u4 u5 u6 u7 u8 u9 u10 u11 u12 u13 u14 u15 u16 u17 u18 u19 u20 u21 u22 u23 u24 u25 u26 u27 u28 u29 (oj_9 n st mo_tokenCount mo_at mo_depth mo_height mo_last mo_fault mo_faultAt mo_extents mo_scopeCount mo_nameCount mo_errorAt mo_error) (.inl (false, (s.set q (ed_b e m)))) (.inl (false, kp)) u33 u34 u35 u36 u37 u38 u39 u40 u41 u42 u43 u44 u45 u46 u47 u48 u49 u50 u51 u52 u53)) rfl rfl (rfl) (by omega) (by omega) (rfl) ?_
      refine am_wh 3 (pc1 := 91) (lv1 := [(7, .int ((nI (8 * m)) + (-8))), (6, .int ((nI q) + 1)), (8, .int (ed_b e m)), (0, .ref 32), (4, .long e)]) (st1 := []) rfl ?_
      rw [ed_kd m hm8, nI_1]
      exact am_wm (ih (Nat.le_of_lt hm8) (q + 1) _ (by omega) (by rw [List.length_set]; exact hs) (by rw [hw] at hQ; exact hQ)) ⟨rfl, rfl, rfl, rfl, trivial⟩
set_option maxRecDepth 100000 in
set_option maxHeartbeats 4000000 in
theorem wm_rep (xs : Option (List Int32)) (d n a k : Nat) {u0 u1 u2 u3 u4 u5 u6 u7 u8 u9 u10 u11 u12 u13 u14 u15 u16 u17 u18 u19 u20 u21 u22 u23 u24 u25 u26 u27 u28 u29 u33 u34 u35 u36 u37 u38 u39 u40 u41 u42 u43 u44 u45 u46 u47 u48 u49 u50 u51 u52 u53 : am_E} {mo_tokenCount mo_at mo_depth mo_height mo_last mo_fault mo_faultAt mo_extents mo_scopeCount mo_nameCount mo_errorAt mo_error : Int32} {st : Int32} (e : Int64) (Q : Option Value → List am_E → Prop) (s kp : List Int32) (hs : s.length = 200) (hkp : kp.length = 200) (h1 : a + k ≤ n) (hn : n ≤ 200) (h3 : n - k + ed_n e 8 ≤ 200) (hQ : Q none (HH u0 u1 u2 u3 u4 u5 u6 u7 u8 u9 u10 u11 u12 u13 u14 u15 u16 u17 u18 u19 u20 u21 u22 u23 u24 u25 u26 u27 u28 u29 (oj_9 (((nI n) - (nI k)) + (nI (ed_n e 8))) 1 mo_tokenCount mo_at mo_depth mo_height mo_last mo_fault mo_faultAt mo_extents mo_scopeCount mo_nameCount mo_errorAt mo_error) (.inl (false, (md_r e n a k s kp))) (.inl (false, (md_c (n - a - k) (a + k) s kp))) u33 u34 u35 u36 u37 u38 u39 u40 u41 u42 u43 u44 u45 u46 u47 u48 u49 u50 u51 u52 u53)) : am_W (am_CX xs) d 133 0 [(0, .ref 32), (1, .int (nI a)), (2, .int (nI k)), (3, .int (nI (ed_n e 8))), (4, .long e)] [] (HH u0 u1 u2 u3 u4 u5 u6 u7 u8 u9 u10 u11 u12 u13 u14 u15 u16 u17 u18 u19 u20 u21 u22 u23 u24 u25 u26 u27 u28 u29 (oj_9 (nI n) st mo_tokenCount mo_at mo_depth mo_height mo_last mo_fault mo_faultAt mo_extents mo_scopeCount mo_nameCount mo_errorAt mo_error) (.inl (false, s)) (.inl (false, kp)) u33 u34 u35 u36 u37 u38 u39 u40 u41 u42 u43 u44 u45 u46 u47 u48 u49 u50 u51 u52 u53) Q := by
  have hn8 : ed_n e 8 ≤ 8 := ed_n_le e 8
  refine am_wh 4 (pc1 := 5) (lv1 := [(6, .int ((nI a) + (nI k))), (0, .ref 32), (1, .int (nI a)), (2, .int (nI k)), (3, .int (nI (ed_n e 8))), (4, .long e)]) (st1 := []) rfl ?_
  rw [nI_add a k]
  refine wm_rp1 xs d n a k (ed_n e 8) e Q s hs hn (n - a - k) (a + k) kp (by omega) hkp ?_
  refine am_wh 4 (pc1 := 39) (lv1 := [(6, .int ((nI a) + (nI k))), (0, .ref 32), (1, .int (nI a)), (2, .int (nI k)), (3, .int (nI (ed_n e 8))), (4, .long e)]) (st1 := []) rfl ?_
  rw [nI_add a k]
  refine wm_rp2 xs d n a k (ed_n e 8) e Q _ (by rw [md_c_len]; exact hkp) hn (n - a - k) (a + k) s (by omega) (by omega) hs h3 ?_
  refine am_wn 12 (pc1 := 91) (lv1 := [(7, .int 56), (6, .int (nI a)), (0, .ref 32), (1, .int (nI a)), (2, .int (nI k)), (3, .int (nI (ed_n e 8))), (4, .long e)]) (st1 := []) (h1 := (HH u0 u1 u2 u3 u4 u5 u6 u7 u8 u9 u10 u11 u12 u13 u14 u15 u16 u17 u18 u19 u20 u21 u22 u23 u24 u25 u26 u27 u28 u29 (oj_9 (((nI n) - (nI k)) + (nI (ed_n e 8))) st mo_tokenCount mo_at mo_depth mo_height mo_last mo_fault mo_faultAt mo_extents mo_scopeCount mo_nameCount mo_errorAt mo_error) (.inl (false, (md_s k (ed_n e 8) (n - a - k) (a + k) (md_c (n - a - k) (a + k) s kp) s))) (.inl (false, (md_c (n - a - k) (a + k) s kp))) u33 u34 u35 u36 u37 u38 u39 u40 u41 u42 u43 u44 u45 u46 u47 u48 u49 u50 u51 u52 u53)) rfl ?_
  exact am_wm (wm_rp3 xs d e Q 8 (Nat.le_refl 8) a _ (by omega) (by rw [md_s_len]; exact hs) hQ) ⟨rfl, rfl, rfl, rfl, trivial⟩
