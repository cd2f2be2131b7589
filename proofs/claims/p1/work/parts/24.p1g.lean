set_option maxRecDepth 100000 in
set_option maxHeartbeats 4000000 in
theorem em_rpl (xs : Option (List Int32)) (d : Nat) (n : Int32) (c0 c1 c2 : am_E) (Q : Option Value → List am_E → Prop) (e : Int64) (hQ : ∀ l2 : List Int32, l2.length = 200 → Q none (hm_f (c0) (c1) (c2) (.inr (9, [.int n, .ref 33, .ref 34, .ref 35, .int 1, .int 0, .ref 36, .ref 37, .ref 38, .ref 39, .ref 40, .ref 41, .int 0, .int 0, .int 0, .ref 42, .ref 43, .int 0, .int 0, .int 0, .int 0, .ref 44, .ref 45, .int 0, .ref 46, .ref 47, .ref 48, .ref 49, .ref 50, .ref 51, .ref 52, .int 0, .ref 53, .int 0, .int 0, .ref 54, .ref 55])) (.inl (false, l2)))) : ∀ m, m ≤ 8 → ∀ (q : Nat) (l : List Int32), q + m ≤ 200 → l.length = 200 → am_W (am_CX xs) d 133 91 [(7, .int (ed_k m)), (6, .int (nI q)), (0, .ref 32), (4, .long e)] [] (hm_f (c0) (c1) (c2) (.inr (9, [.int n, .ref 33, .ref 34, .ref 35, .int 1, .int 0, .ref 36, .ref 37, .ref 38, .ref 39, .ref 40, .ref 41, .int 0, .int 0, .int 0, .ref 42, .ref 43, .int 0, .int 0, .int 0, .int 0, .ref 44, .ref 45, .int 0, .ref 46, .ref 47, .ref 48, .ref 49, .ref 50, .ref 51, .ref 52, .int 0, .ref 53, .int 0, .int 0, .ref 54, .ref 55])) (.inl (false, l))) Q := by
  intro m
  induction m with
  | zero =>
    intro _ q l _ hl
    show am_W _ _ 133 91 [(7, .int (-8)), (6, .int (nI q)), (0, .ref 32), (4, .long e)] [] (hm_f (c0) (c1) (c2) (.inr (9, [.int n, .ref 33, .ref 34, .ref 35, .int 1, .int 0, .ref 36, .ref 37, .ref 38, .ref 39, .ref 40, .ref 41, .int 0, .int 0, .int 0, .ref 42, .ref 43, .int 0, .int 0, .int 0, .int 0, .ref 44, .ref 45, .int 0, .ref 46, .ref 47, .ref 48, .ref 49, .ref 50, .ref 51, .ref 52, .int 0, .ref 53, .int 0, .int 0, .ref 54, .ref 55])) (.inl (false, l))) _
    refine am_wn 5 (pc1 := 136) (lv1 := [(7, .int (-8)), (6, .int (nI q)), (0, .ref 32), (4, .long e)]) (st1 := []) (h1 := (hm_f (c0) (c1) (c2) (.inr (9, [.int n, .ref 33, .ref 34, .ref 35, .int 1, .int 0, .ref 36, .ref 37, .ref 38, .ref 39, .ref 40, .ref 41, .int 0, .int 0, .int 0, .ref 42, .ref 43, .int 0, .int 0, .int 0, .int 0, .ref 44, .ref 45, .int 0, .ref 46, .ref 47, .ref 48, .ref 49, .ref 50, .ref 51, .ref 52, .int 0, .ref 53, .int 0, .int 0, .ref 54, .ref 55])) (.inl (false, l)))) rfl ?_
    refine am_wr rfl rfl rfl ?_
    exact hQ l hl
  | succ m ih =>
    intro hm q l hq hl
    have hm8 : m < 8 := hm
    show am_W _ _ 133 91 [(7, .int (nI (8 * m))), (6, .int (nI q)), (0, .ref 32), (4, .long e)] [] (hm_f (c0) (c1) (c2) (.inr (9, [.int n, .ref 33, .ref 34, .ref 35, .int 1, .int 0, .ref 36, .ref 37, .ref 38, .ref 39, .ref 40, .ref 41, .int 0, .int 0, .int 0, .ref 42, .ref 43, .int 0, .int 0, .int 0, .int 0, .ref 44, .ref 45, .int 0, .ref 46, .ref 47, .ref 48, .ref 49, .ref 50, .ref 51, .ref 52, .int 0, .ref 53, .int 0, .int 0, .ref 54, .ref 55])) (.inl (false, l))) _
    refine am_wn 1 (pc1 := 93) (lv1 := [(7, .int (nI (8 * m))), (6, .int (nI q)), (0, .ref 32), (4, .long e)]) (st1 := [.int (nI (8 * m))]) (h1 := (hm_f (c0) (c1) (c2) (.inr (9, [.int n, .ref 33, .ref 34, .ref 35, .int 1, .int 0, .ref 36, .ref 37, .ref 38, .ref 39, .ref 40, .ref 41, .int 0, .int 0, .int 0, .ref 42, .ref 43, .int 0, .int 0, .int 0, .int 0, .ref 44, .ref 45, .int 0, .ref 46, .ref 47, .ref 48, .ref 49, .ref 50, .ref 51, .ref 52, .int 0, .ref 53, .int 0, .int 0, .ref 54, .ref 55])) (.inl (false, l)))) rfl ?_
    refine am_wb1 rfl false (ed_kp m hm8) rfl ?_
    refine am_wn 8 (pc1 := 110) (lv1 := [(8, .int (ed_b e m)), (7, .int (nI (8 * m))), (6, .int (nI q)), (0, .ref 32), (4, .long e)]) (st1 := [.int (ed_b e m)]) (h1 := (hm_f (c0) (c1) (c2) (.inr (9, [.int n, .ref 33, .ref 34, .ref 35, .int 1, .int 0, .ref 36, .ref 37, .ref 38, .ref 39, .ref 40, .ref 41, .int 0, .int 0, .int 0, .ref 42, .ref 43, .int 0, .int 0, .int 0, .int 0, .ref 44, .ref 45, .int 0, .ref 46, .ref 47, .ref 48, .ref 49, .ref 50, .ref 51, .ref 52, .int 0, .ref 53, .int 0, .int 0, .ref 54, .ref 55])) (.inl (false, l)))) rfl ?_
    cases hb1 : am_if .eq (ed_b e m) 0 with
    | true =>
      refine am_wb1 rfl true hb1 rfl ?_
      refine am_wn 2 (pc1 := 91) (lv1 := [(7, .int ((nI (8 * m)) + (-8))), (8, .int (ed_b e m)), (6, .int (nI q)), (0, .ref 32), (4, .long e)]) (st1 := []) (h1 := (hm_f (c0) (c1) (c2) (.inr (9, [.int n, .ref 33, .ref 34, .ref 35, .int 1, .int 0, .ref 36, .ref 37, .ref 38, .ref 39, .ref 40, .ref 41, .int 0, .int 0, .int 0, .ref 42, .ref 43, .int 0, .int 0, .int 0, .int 0, .ref 44, .ref 45, .int 0, .ref 46, .ref 47, .ref 48, .ref 49, .ref 50, .ref 51, .ref 52, .int 0, .ref 53, .int 0, .int 0, .ref 54, .ref 55])) (.inl (false, l)))) rfl ?_
      rw [ed_kd m hm8]
      exact am_wm (ih (Nat.le_of_lt hm8) q l (by omega) hl) ⟨rfl, rfl, rfl, rfl, trivial⟩
    | false =>
      refine am_wb1 rfl false hb1 rfl ?_
      refine am_wn 4 (pc1 := 121) (lv1 := [(8, .int (ed_b e m)), (7, .int (nI (8 * m))), (6, .int (nI q)), (0, .ref 32), (4, .long e)]) (st1 := [.int (ed_b e m), .int (nI q), .ref 33]) (h1 := (hm_f (c0) (c1) (c2) (.inr (9, [.int n, .ref 33, .ref 34, .ref 35, .int 1, .int 0, .ref 36, .ref 37, .ref 38, .ref 39, .ref 40, .ref 41, .int 0, .int 0, .int 0, .ref 42, .ref 43, .int 0, .int 0, .int 0, .int 0, .ref 44, .ref 45, .int 0, .ref 46, .ref 47, .ref 48, .ref 49, .ref 50, .ref 51, .ref 52, .int 0, .ref 53, .int 0, .int 0, .ref 54, .ref 55])) (.inl (false, l)))) rfl ?_
      refine am_wsi (h1 := (hm_f (c0) (c1) (c2) (.inr (9, [.int n, .ref 33, .ref 34, .ref 35, .int 1, .int 0, .ref 36, .ref 37, .ref 38, .ref 39, .ref 40, .ref 41, .int 0, .int 0, .int 0, .ref 42, .ref 43, .int 0, .int 0, .int 0, .int 0, .ref 44, .ref 45, .int 0, .ref 46, .ref 47, .ref 48, .ref 49, .ref 50, .ref 51, .ref 52, .int 0, .ref 53, .int 0, .int 0, .ref 54, .ref 55])) (.inl (false, (l.set (nI q).toNatClampNeg (ed_b e m)))))) rfl rfl (nI_pos (by omega)) (by rw [nI_clamp (by omega)]; omega) rfl ?_
      refine am_wn 3 (pc1 := 91) (lv1 := [(7, .int ((nI (8 * m)) + (-8))), (6, .int ((nI q) + 1)), (8, .int (ed_b e m)), (0, .ref 32), (4, .long e)]) (st1 := []) (h1 := (hm_f (c0) (c1) (c2) (.inr (9, [.int n, .ref 33, .ref 34, .ref 35, .int 1, .int 0, .ref 36, .ref 37, .ref 38, .ref 39, .ref 40, .ref 41, .int 0, .int 0, .int 0, .ref 42, .ref 43, .int 0, .int 0, .int 0, .int 0, .ref 44, .ref 45, .int 0, .ref 46, .ref 47, .ref 48, .ref 49, .ref 50, .ref 51, .ref 52, .int 0, .ref 53, .int 0, .int 0, .ref 54, .ref 55])) (.inl (false, (l.set (nI q).toNatClampNeg (ed_b e m)))))) rfl ?_
      rw [ed_kd m hm8, nI_1]
      exact am_wm (ih (Nat.le_of_lt hm8) (q + 1) _ (by omega) (by rw [List.length_set]; exact hl)) ⟨rfl, rfl, rfl, rfl, trivial⟩
set_option maxRecDepth 100000 in
set_option maxHeartbeats 4000000 in
theorem em_rep (xs : Option (List Int32)) (d : Nat) (n : Int32) (c0 c1 c2 : am_E) (Q : Option Value → List am_E → Prop) (e : Int64) (l : List Int32) (hl : l.length = 200) (hQ : ∀ l2 : List Int32, l2.length = 200 → Q none (hm_f (c0) (c1) (c2) (.inr (9, [.int (0 + n), .ref 33, .ref 34, .ref 35, .int 1, .int 0, .ref 36, .ref 37, .ref 38, .ref 39, .ref 40, .ref 41, .int 0, .int 0, .int 0, .ref 42, .ref 43, .int 0, .int 0, .int 0, .int 0, .ref 44, .ref 45, .int 0, .ref 46, .ref 47, .ref 48, .ref 49, .ref 50, .ref 51, .ref 52, .int 0, .ref 53, .int 0, .int 0, .ref 54, .ref 55])) (.inl (false, l2)))) : am_W (am_CX xs) d 133 0 [(0, .ref 32), (1, .int 0), (2, .int 0), (3, .int n), (4, .long e)] [] (hm_f (c0) (c1) (c2) (.inr (9, [.int 0, .ref 33, .ref 34, .ref 35, .int 1, .int 0, .ref 36, .ref 37, .ref 38, .ref 39, .ref 40, .ref 41, .int 0, .int 0, .int 0, .ref 42, .ref 43, .int 0, .int 0, .int 0, .int 0, .ref 44, .ref 45, .int 0, .ref 46, .ref 47, .ref 48, .ref 49, .ref 50, .ref 51, .ref 52, .int 0, .ref 53, .int 0, .int 0, .ref 54, .ref 55])) (.inl (false, l))) Q := by
  refine am_wn 28 (pc1 := 91) (lv1 := [(7, .int 56), (6, .int 0), (0, .ref 32), (1, .int 0), (2, .int 0), (3, .int n), (4, .long e)]) (st1 := []) (h1 := (hm_f (c0) (c1) (c2) (.inr (9, [.int (0 + n), .ref 33, .ref 34, .ref 35, .int 1, .int 0, .ref 36, .ref 37, .ref 38, .ref 39, .ref 40, .ref 41, .int 0, .int 0, .int 0, .ref 42, .ref 43, .int 0, .int 0, .int 0, .int 0, .ref 44, .ref 45, .int 0, .ref 46, .ref 47, .ref 48, .ref 49, .ref 50, .ref 51, .ref 52, .int 0, .ref 53, .int 0, .int 0, .ref 54, .ref 55])) (.inl (false, l)))) rfl ?_
  exact am_wm (em_rpl xs d _ c0 c1 c2 Q e hQ 8 (Nat.le_refl 8) 0 l (by omega) hl) ⟨rfl, rfl, rfl, rfl, trivial⟩
set_option maxRecDepth 100000 in
set_option maxHeartbeats 4000000 in
theorem em_edl (xs : Option (List Int32)) (d : Nat) (p q : Int32) (h : List am_E) (Q : Option Value → List am_E → Prop) (e : Int64) : ∀ m, m ≤ 8 → ∀ (a : Nat) (g : Bool), am_W (am_CX xs) (d + 1) 132 103 [(5, .int (nI (a + ed_n e m))), (6, .int (bif g && ed_al e m then 1 else 0)), (0, .ref 32), (1, .int p), (2, .int q), (3, .long e)] [] h Q → am_W (am_CX xs) (d + 1) 132 40 [(7, .int (ed_k m)), (5, .int (nI a)), (6, .int (bif g then 1 else 0)), (0, .ref 32), (1, .int p), (2, .int q), (3, .long e)] [] h Q := by
  intro m
  induction m with
  | zero =>
    intro _ a g hK
    show am_W _ _ 132 40 [(7, .int (-8)), (5, .int (nI a)), (6, .int (bif g then 1 else 0)), (0, .ref 32), (1, .int p), (2, .int q), (3, .long e)] [] h _
    refine am_wn 2 (pc1 := 103) (lv1 := [(7, .int (-8)), (5, .int (nI a)), (6, .int (bif g then 1 else 0)), (0, .ref 32), (1, .int p), (2, .int q), (3, .long e)]) (st1 := []) (h1 := h) rfl ?_
    rw [show (g && ed_al e 0) = g by cases g <;> rfl] at hK
    exact am_wm hK ⟨rfl, rfl, rfl, rfl, rfl, rfl, trivial⟩
  | succ m ih =>
    intro hm a g hK
    have hm8 : m < 8 := hm
    show am_W _ _ 132 40 [(7, .int (nI (8 * m))), (5, .int (nI a)), (6, .int (bif g then 1 else 0)), (0, .ref 32), (1, .int p), (2, .int q), (3, .long e)] [] h _
    refine am_wn 1 (pc1 := 42) (lv1 := [(7, .int (nI (8 * m))), (5, .int (nI a)), (6, .int (bif g then 1 else 0)), (0, .ref 32), (1, .int p), (2, .int q), (3, .long e)]) (st1 := [.int (nI (8 * m))]) (h1 := h) rfl ?_
    refine am_wb1 rfl false (ed_kp m hm8) rfl ?_
    refine am_wn 8 (pc1 := 58) (lv1 := [(8, .int (ed_b e m)), (7, .int (nI (8 * m))), (5, .int (nI a)), (6, .int (bif g then 1 else 0)), (0, .ref 32), (1, .int p), (2, .int q), (3, .long e)]) (st1 := [.int (bif g then 1 else 0)]) (h1 := h) rfl ?_
    cases hb1 : am_if .eq (bif g then 1 else 0) 0 with
    | true =>
      refine am_wb1 rfl true hb1 rfl ?_
      refine am_wn 3 (pc1 := 83) (lv1 := [(6, .int 0), (8, .int (ed_b e m)), (7, .int (nI (8 * m))), (5, .int (nI a)), (0, .ref 32), (1, .int p), (2, .int q), (3, .long e)]) (st1 := [.int (ed_b e m)]) (h1 := h) rfl ?_
      cases hb2 : am_if .eq (ed_b e m) 0 with
      | true =>
        refine am_wb1 rfl true hb2 rfl ?_
        refine am_wn 4 (pc1 := 40) (lv1 := [(7, .int ((nI (8 * m)) + (-8))), (5, .int (nI a)), (6, .int 0), (8, .int (ed_b e m)), (0, .ref 32), (1, .int p), (2, .int q), (3, .long e)]) (st1 := []) (h1 := h) rfl ?_
        rw [ed_eq] at hb1
        rw [ed_kd m hm8]
        refine am_wl (lv := [(7, .int (ed_k m)), (5, .int (nI a)), (6, .int (bif false then 1 else 0)), (0, .ref 32), (1, .int p), (2, .int q), (3, .long e)]) ⟨rfl, rfl, rfl, rfl, rfl, rfl, rfl, trivial⟩ (ih (Nat.le_of_lt hm8) a false ?_)
        have e1 : (g && ed_al e (m + 1)) = (false && ed_al e m) := by cases g <;> simp_all [ed_al]
        have e2 : a + ed_n e (m + 1) = a + ed_n e m := by simp [ed_n, hb1, hb2]
        rw [e1, e2] at hK
        exact hK
      | false =>
        refine am_wb1 rfl false hb2 rfl ?_
        refine am_wn 7 (pc1 := 40) (lv1 := [(7, .int ((nI (8 * m)) + (-8))), (5, .int ((nI a) + 1)), (6, .int 0), (8, .int (ed_b e m)), (0, .ref 32), (1, .int p), (2, .int q), (3, .long e)]) (st1 := []) (h1 := h) rfl ?_
        rw [ed_eq] at hb1
        rw [ed_kd m hm8, nI_1]
        refine am_wl (lv := [(7, .int (ed_k m)), (5, .int (nI (a + 1))), (6, .int (bif false then 1 else 0)), (0, .ref 32), (1, .int p), (2, .int q), (3, .long e)]) ⟨rfl, rfl, rfl, rfl, rfl, rfl, rfl, trivial⟩ (ih (Nat.le_of_lt hm8) (a + 1) false ?_)
        have e1 : (g && ed_al e (m + 1)) = (false && ed_al e m) := by cases g <;> simp_all [ed_al]
        have e2 : a + ed_n e (m + 1) = (a + 1) + ed_n e m := by simp [ed_n, hb1, hb2]; omega
        rw [e1, e2] at hK
        exact hK
    | false =>
      refine am_wb1 rfl false hb1 rfl ?_
      refine am_wn 1 (pc1 := 63) (lv1 := [(8, .int (ed_b e m)), (7, .int (nI (8 * m))), (5, .int (nI a)), (6, .int (bif g then 1 else 0)), (0, .ref 32), (1, .int p), (2, .int q), (3, .long e)]) (st1 := [.int (ed_b e m)]) (h1 := h) rfl ?_
      cases hb3 : am_if .eq (ed_b e m) 0 with
      | true =>
        refine am_wb1 rfl true hb3 rfl ?_
        refine am_wn 4 (pc1 := 83) (lv1 := [(6, .int 1), (8, .int (ed_b e m)), (7, .int (nI (8 * m))), (5, .int (nI a)), (0, .ref 32), (1, .int p), (2, .int q), (3, .long e)]) (st1 := [.int (ed_b e m)]) (h1 := h) rfl ?_
        refine am_wb1 rfl true (hb3) rfl ?_
        refine am_wn 4 (pc1 := 40) (lv1 := [(7, .int ((nI (8 * m)) + (-8))), (5, .int (nI a)), (6, .int 1), (8, .int (ed_b e m)), (0, .ref 32), (1, .int p), (2, .int q), (3, .long e)]) (st1 := []) (h1 := h) rfl ?_
        rw [ed_eq] at hb1
        rw [ed_kd m hm8]
        refine am_wl (lv := [(7, .int (ed_k m)), (5, .int (nI a)), (6, .int (bif true then 1 else 0)), (0, .ref 32), (1, .int p), (2, .int q), (3, .long e)]) ⟨rfl, rfl, rfl, rfl, rfl, rfl, rfl, trivial⟩ (ih (Nat.le_of_lt hm8) a true ?_)
        have e1 : (g && ed_al e (m + 1)) = (true && ed_al e m) := by cases g <;> simp_all [ed_al]
        have e2 : a + ed_n e (m + 1) = a + ed_n e m := by simp [ed_n, hb1, hb3]
        rw [e1, e2] at hK
        exact hK
      | false =>
        refine am_wb1 rfl false hb3 rfl ?_
        refine am_wn 1 (pc1 := 68) (lv1 := [(8, .int (ed_b e m)), (7, .int (nI (8 * m))), (5, .int (nI a)), (6, .int (bif g then 1 else 0)), (0, .ref 32), (1, .int p), (2, .int q), (3, .long e)]) (st1 := [.int (ed_b e m)]) (h1 := h) rfl ?_
        refine am_wc rfl rfl rfl ?_
        refine ec_ism _ _ _ _ _ ?_
        show am_W _ _ 132 71 [(8, .int (ed_b e m)), (7, .int (nI (8 * m))), (5, .int (nI a)), (6, .int (bif g then 1 else 0)), (0, .ref 32), (1, .int p), (2, .int q), (3, .long e)] [.int (bif ed_ok (ed_b e m) then 1 else 0)] h _
        cases hb4 : am_if .eq (bif ed_ok (ed_b e m) then 1 else 0) 0 with
        | true =>
          refine am_wb1 rfl true hb4 rfl ?_
          refine am_wn 3 (pc1 := 83) (lv1 := [(6, .int 0), (8, .int (ed_b e m)), (7, .int (nI (8 * m))), (5, .int (nI a)), (0, .ref 32), (1, .int p), (2, .int q), (3, .long e)]) (st1 := [.int (ed_b e m)]) (h1 := h) rfl ?_
          refine am_wb1 rfl false (hb3) rfl ?_
          refine am_wn 7 (pc1 := 40) (lv1 := [(7, .int ((nI (8 * m)) + (-8))), (5, .int ((nI a) + 1)), (6, .int 0), (8, .int (ed_b e m)), (0, .ref 32), (1, .int p), (2, .int q), (3, .long e)]) (st1 := []) (h1 := h) rfl ?_
          rw [ed_eq] at hb1
          rw [ed_eq] at hb4
          rw [ed_kd m hm8, nI_1]
          refine am_wl (lv := [(7, .int (ed_k m)), (5, .int (nI (a + 1))), (6, .int (bif false then 1 else 0)), (0, .ref 32), (1, .int p), (2, .int q), (3, .long e)]) ⟨rfl, rfl, rfl, rfl, rfl, rfl, rfl, trivial⟩ (ih (Nat.le_of_lt hm8) (a + 1) false ?_)
          have e1 : (g && ed_al e (m + 1)) = (false && ed_al e m) := by cases g <;> simp_all [ed_al]
          have e2 : a + ed_n e (m + 1) = (a + 1) + ed_n e m := by simp [ed_n, hb1, hb3, hb4]; omega
          rw [e1, e2] at hK
          exact hK
        | false =>
          refine am_wb1 rfl false hb4 rfl ?_
          refine am_wn 4 (pc1 := 83) (lv1 := [(6, .int 1), (8, .int (ed_b e m)), (7, .int (nI (8 * m))), (5, .int (nI a)), (0, .ref 32), (1, .int p), (2, .int q), (3, .long e)]) (st1 := [.int (ed_b e m)]) (h1 := h) rfl ?_
          refine am_wb1 rfl false (hb3) rfl ?_
          refine am_wn 7 (pc1 := 40) (lv1 := [(7, .int ((nI (8 * m)) + (-8))), (5, .int ((nI a) + 1)), (6, .int 1), (8, .int (ed_b e m)), (0, .ref 32), (1, .int p), (2, .int q), (3, .long e)]) (st1 := []) (h1 := h) rfl ?_
          rw [ed_eq] at hb1
          rw [ed_eq] at hb4
          rw [ed_kd m hm8, nI_1]
          refine am_wl (lv := [(7, .int (ed_k m)), (5, .int (nI (a + 1))), (6, .int (bif true then 1 else 0)), (0, .ref 32), (1, .int p), (2, .int q), (3, .long e)]) ⟨rfl, rfl, rfl, rfl, rfl, rfl, rfl, trivial⟩ (ih (Nat.le_of_lt hm8) (a + 1) true ?_)
          have e1 : (g && ed_al e (m + 1)) = (true && ed_al e m) := by cases g <;> simp_all [ed_al]
          have e2 : a + ed_n e (m + 1) = (a + 1) + ed_n e m := by simp [ed_n, hb1, hb3, hb4]; omega
          rw [e1, e2] at hK
          exact hK
set_option maxRecDepth 100000 in
set_option maxHeartbeats 4000000 in
theorem em_edn (xs : Option (List Int32)) (d : Nat) (p q : Int32) (e : Int64) (c0 c1 c2 : am_E) (l : List Int32) (Q : Option Value → List am_E → Prop) (hpq : ¬ (p = 0 ∧ q = 0)) (hQ : Q (some (.int (-1))) (hm_f (c0) (c1) (c2) (.inr (9, [.int 0, .ref 33, .ref 34, .ref 35, .int 1, .int 0, .ref 36, .ref 37, .ref 38, .ref 39, .ref 40, .ref 41, .int 0, .int 0, .int 0, .ref 42, .ref 43, .int 0, .int 0, .int 0, .int 0, .ref 44, .ref 45, .int 0, .ref 46, .ref 47, .ref 48, .ref 49, .ref 50, .ref 51, .ref 52, .int 0, .ref 53, .int 0, .int 0, .ref 54, .ref 55])) (.inl (false, l)))) : am_W (am_CX xs) (d + 1) 132 0 [(0, .ref 32), (1, .int p), (2, .int q), (3, .long e)] [] (hm_f (c0) (c1) (c2) (.inr (9, [.int 0, .ref 33, .ref 34, .ref 35, .int 1, .int 0, .ref 36, .ref 37, .ref 38, .ref 39, .ref 40, .ref 41, .int 0, .int 0, .int 0, .ref 42, .ref 43, .int 0, .int 0, .int 0, .int 0, .ref 44, .ref 45, .int 0, .ref 46, .ref 47, .ref 48, .ref 49, .ref 50, .ref 51, .ref 52, .int 0, .ref 53, .int 0, .int 0, .ref 54, .ref 55])) (.inl (false, l))) Q := by
  refine am_wn 3 (pc1 := 4) (lv1 := [(5, .int 0), (0, .ref 32), (1, .int p), (2, .int q), (3, .long e)]) (st1 := [.int p]) (h1 := (hm_f (c0) (c1) (c2) (.inr (9, [.int 0, .ref 33, .ref 34, .ref 35, .int 1, .int 0, .ref 36, .ref 37, .ref 38, .ref 39, .ref 40, .ref 41, .int 0, .int 0, .int 0, .ref 42, .ref 43, .int 0, .int 0, .int 0, .int 0, .ref 44, .ref 45, .int 0, .ref 46, .ref 47, .ref 48, .ref 49, .ref 50, .ref 51, .ref 52, .int 0, .ref 53, .int 0, .int 0, .ref 54, .ref 55])) (.inl (false, l)))) rfl ?_
  cases hb1 : am_if .lt p 0 with
  | true =>
    refine am_wb1 rfl true hb1 rfl ?_
    refine am_wn 4 (pc1 := 40) (lv1 := [(7, .int 56), (6, .int 0), (5, .int 0), (0, .ref 32), (1, .int p), (2, .int q), (3, .long e)]) (st1 := []) (h1 := (hm_f (c0) (c1) (c2) (.inr (9, [.int 0, .ref 33, .ref 34, .ref 35, .int 1, .int 0, .ref 36, .ref 37, .ref 38, .ref 39, .ref 40, .ref 41, .int 0, .int 0, .int 0, .ref 42, .ref 43, .int 0, .int 0, .int 0, .int 0, .ref 44, .ref 45, .int 0, .ref 46, .ref 47, .ref 48, .ref 49, .ref 50, .ref 51, .ref 52, .int 0, .ref 53, .int 0, .int 0, .ref 54, .ref 55])) (.inl (false, l)))) rfl ?_
    refine am_wl (lv := [(7, .int (ed_k 8)), (5, .int (nI 0)), (6, .int (bif false then 1 else 0)), (0, .ref 32), (1, .int p), (2, .int q), (3, .long e)]) ⟨rfl, rfl, rfl, rfl, rfl, rfl, rfl, trivial⟩ (em_edl xs d p q _ Q e 8 (Nat.le_refl 8) 0 false ?_)
    show am_W _ _ 132 103 [(5, .int (nI (0 + ed_n e 8))), (6, .int 0), (0, .ref 32), (1, .int p), (2, .int q), (3, .long e)] [] (hm_f (c0) (c1) (c2) (.inr (9, [.int 0, .ref 33, .ref 34, .ref 35, .int 1, .int 0, .ref 36, .ref 37, .ref 38, .ref 39, .ref 40, .ref 41, .int 0, .int 0, .int 0, .ref 42, .ref 43, .int 0, .int 0, .int 0, .int 0, .ref 44, .ref 45, .int 0, .ref 46, .ref 47, .ref 48, .ref 49, .ref 50, .ref 51, .ref 52, .int 0, .ref 53, .int 0, .int 0, .ref 54, .ref 55])) (.inl (false, l))) _
    refine am_wn 5 (pc1 := 134) (lv1 := [(5, .int (nI (0 + ed_n e 8))), (6, .int 0), (0, .ref 32), (1, .int p), (2, .int q), (3, .long e)]) (st1 := [.int (-1)]) (h1 := (hm_f (c0) (c1) (c2) (.inr (9, [.int 0, .ref 33, .ref 34, .ref 35, .int 1, .int 0, .ref 36, .ref 37, .ref 38, .ref 39, .ref 40, .ref 41, .int 0, .int 0, .int 0, .ref 42, .ref 43, .int 0, .int 0, .int 0, .int 0, .ref 44, .ref 45, .int 0, .ref 46, .ref 47, .ref 48, .ref 49, .ref 50, .ref 51, .ref 52, .int 0, .ref 53, .int 0, .int 0, .ref 54, .ref 55])) (.inl (false, l)))) rfl ?_
    refine am_wr rfl rfl rfl ?_
    exact hQ
  | false =>
    refine am_wb1 rfl false hb1 rfl ?_
    refine am_wn 3 (pc1 := 12) (lv1 := [(5, .int 0), (0, .ref 32), (1, .int p), (2, .int q), (3, .long e)]) (st1 := [.int 0, .int p]) (h1 := (hm_f (c0) (c1) (c2) (.inr (9, [.int 0, .ref 33, .ref 34, .ref 35, .int 1, .int 0, .ref 36, .ref 37, .ref 38, .ref 39, .ref 40, .ref 41, .int 0, .int 0, .int 0, .ref 42, .ref 43, .int 0, .int 0, .int 0, .int 0, .ref 44, .ref 45, .int 0, .ref 46, .ref 47, .ref 48, .ref 49, .ref 50, .ref 51, .ref 52, .int 0, .ref 53, .int 0, .int 0, .ref 54, .ref 55])) (.inl (false, l)))) rfl ?_
    cases hb2 : am_if .gt p 0 with
    | true =>
      refine am_wb2 rfl true hb2 rfl ?_
      refine am_wn 4 (pc1 := 40) (lv1 := [(7, .int 56), (6, .int 0), (5, .int 0), (0, .ref 32), (1, .int p), (2, .int q), (3, .long e)]) (st1 := []) (h1 := (hm_f (c0) (c1) (c2) (.inr (9, [.int 0, .ref 33, .ref 34, .ref 35, .int 1, .int 0, .ref 36, .ref 37, .ref 38, .ref 39, .ref 40, .ref 41, .int 0, .int 0, .int 0, .ref 42, .ref 43, .int 0, .int 0, .int 0, .int 0, .ref 44, .ref 45, .int 0, .ref 46, .ref 47, .ref 48, .ref 49, .ref 50, .ref 51, .ref 52, .int 0, .ref 53, .int 0, .int 0, .ref 54, .ref 55])) (.inl (false, l)))) rfl ?_
      refine am_wl (lv := [(7, .int (ed_k 8)), (5, .int (nI 0)), (6, .int (bif false then 1 else 0)), (0, .ref 32), (1, .int p), (2, .int q), (3, .long e)]) ⟨rfl, rfl, rfl, rfl, rfl, rfl, rfl, trivial⟩ (em_edl xs d p q _ Q e 8 (Nat.le_refl 8) 0 false ?_)
      show am_W _ _ 132 103 [(5, .int (nI (0 + ed_n e 8))), (6, .int 0), (0, .ref 32), (1, .int p), (2, .int q), (3, .long e)] [] (hm_f (c0) (c1) (c2) (.inr (9, [.int 0, .ref 33, .ref 34, .ref 35, .int 1, .int 0, .ref 36, .ref 37, .ref 38, .ref 39, .ref 40, .ref 41, .int 0, .int 0, .int 0, .ref 42, .ref 43, .int 0, .int 0, .int 0, .int 0, .ref 44, .ref 45, .int 0, .ref 46, .ref 47, .ref 48, .ref 49, .ref 50, .ref 51, .ref 52, .int 0, .ref 53, .int 0, .int 0, .ref 54, .ref 55])) (.inl (false, l))) _
      refine am_wn 5 (pc1 := 134) (lv1 := [(5, .int (nI (0 + ed_n e 8))), (6, .int 0), (0, .ref 32), (1, .int p), (2, .int q), (3, .long e)]) (st1 := [.int (-1)]) (h1 := (hm_f (c0) (c1) (c2) (.inr (9, [.int 0, .ref 33, .ref 34, .ref 35, .int 1, .int 0, .ref 36, .ref 37, .ref 38, .ref 39, .ref 40, .ref 41, .int 0, .int 0, .int 0, .ref 42, .ref 43, .int 0, .int 0, .int 0, .int 0, .ref 44, .ref 45, .int 0, .ref 46, .ref 47, .ref 48, .ref 49, .ref 50, .ref 51, .ref 52, .int 0, .ref 53, .int 0, .int 0, .ref 54, .ref 55])) (.inl (false, l)))) rfl ?_
      refine am_wr rfl rfl rfl ?_
      exact hQ
    | false =>
      refine am_wb2 rfl false hb2 rfl ?_
      refine am_wn 1 (pc1 := 16) (lv1 := [(5, .int 0), (0, .ref 32), (1, .int p), (2, .int q), (3, .long e)]) (st1 := [.int q]) (h1 := (hm_f (c0) (c1) (c2) (.inr (9, [.int 0, .ref 33, .ref 34, .ref 35, .int 1, .int 0, .ref 36, .ref 37, .ref 38, .ref 39, .ref 40, .ref 41, .int 0, .int 0, .int 0, .ref 42, .ref 43, .int 0, .int 0, .int 0, .int 0, .ref 44, .ref 45, .int 0, .ref 46, .ref 47, .ref 48, .ref 49, .ref 50, .ref 51, .ref 52, .int 0, .ref 53, .int 0, .int 0, .ref 54, .ref 55])) (.inl (false, l)))) rfl ?_
      cases hb3 : am_if .lt q 0 with
      | true =>
        refine am_wb1 rfl true hb3 rfl ?_
        refine am_wn 4 (pc1 := 40) (lv1 := [(7, .int 56), (6, .int 0), (5, .int 0), (0, .ref 32), (1, .int p), (2, .int q), (3, .long e)]) (st1 := []) (h1 := (hm_f (c0) (c1) (c2) (.inr (9, [.int 0, .ref 33, .ref 34, .ref 35, .int 1, .int 0, .ref 36, .ref 37, .ref 38, .ref 39, .ref 40, .ref 41, .int 0, .int 0, .int 0, .ref 42, .ref 43, .int 0, .int 0, .int 0, .int 0, .ref 44, .ref 45, .int 0, .ref 46, .ref 47, .ref 48, .ref 49, .ref 50, .ref 51, .ref 52, .int 0, .ref 53, .int 0, .int 0, .ref 54, .ref 55])) (.inl (false, l)))) rfl ?_
        refine am_wl (lv := [(7, .int (ed_k 8)), (5, .int (nI 0)), (6, .int (bif false then 1 else 0)), (0, .ref 32), (1, .int p), (2, .int q), (3, .long e)]) ⟨rfl, rfl, rfl, rfl, rfl, rfl, rfl, trivial⟩ (em_edl xs d p q _ Q e 8 (Nat.le_refl 8) 0 false ?_)
        show am_W _ _ 132 103 [(5, .int (nI (0 + ed_n e 8))), (6, .int 0), (0, .ref 32), (1, .int p), (2, .int q), (3, .long e)] [] (hm_f (c0) (c1) (c2) (.inr (9, [.int 0, .ref 33, .ref 34, .ref 35, .int 1, .int 0, .ref 36, .ref 37, .ref 38, .ref 39, .ref 40, .ref 41, .int 0, .int 0, .int 0, .ref 42, .ref 43, .int 0, .int 0, .int 0, .int 0, .ref 44, .ref 45, .int 0, .ref 46, .ref 47, .ref 48, .ref 49, .ref 50, .ref 51, .ref 52, .int 0, .ref 53, .int 0, .int 0, .ref 54, .ref 55])) (.inl (false, l))) _
        refine am_wn 5 (pc1 := 134) (lv1 := [(5, .int (nI (0 + ed_n e 8))), (6, .int 0), (0, .ref 32), (1, .int p), (2, .int q), (3, .long e)]) (st1 := [.int (-1)]) (h1 := (hm_f (c0) (c1) (c2) (.inr (9, [.int 0, .ref 33, .ref 34, .ref 35, .int 1, .int 0, .ref 36, .ref 37, .ref 38, .ref 39, .ref 40, .ref 41, .int 0, .int 0, .int 0, .ref 42, .ref 43, .int 0, .int 0, .int 0, .int 0, .ref 44, .ref 45, .int 0, .ref 46, .ref 47, .ref 48, .ref 49, .ref 50, .ref 51, .ref 52, .int 0, .ref 53, .int 0, .int 0, .ref 54, .ref 55])) (.inl (false, l)))) rfl ?_
        refine am_wr rfl rfl rfl ?_
        exact hQ
      | false =>
        refine am_wb1 rfl false hb3 rfl ?_
        refine am_wn 5 (pc1 := 26) (lv1 := [(5, .int 0), (0, .ref 32), (1, .int p), (2, .int q), (3, .long e)]) (st1 := [.int (0 - p), .int q]) (h1 := (hm_f (c0) (c1) (c2) (.inr (9, [.int 0, .ref 33, .ref 34, .ref 35, .int 1, .int 0, .ref 36, .ref 37, .ref 38, .ref 39, .ref 40, .ref 41, .int 0, .int 0, .int 0, .ref 42, .ref 43, .int 0, .int 0, .int 0, .int 0, .ref 44, .ref 45, .int 0, .ref 46, .ref 47, .ref 48, .ref 49, .ref 50, .ref 51, .ref 52, .int 0, .ref 53, .int 0, .int 0, .ref 54, .ref 55])) (.inl (false, l)))) rfl ?_
        cases hb4 : am_if .gt q (0 - p) with
        | true =>
          refine am_wb2 rfl true hb4 rfl ?_
          refine am_wn 4 (pc1 := 40) (lv1 := [(7, .int 56), (6, .int 0), (5, .int 0), (0, .ref 32), (1, .int p), (2, .int q), (3, .long e)]) (st1 := []) (h1 := (hm_f (c0) (c1) (c2) (.inr (9, [.int 0, .ref 33, .ref 34, .ref 35, .int 1, .int 0, .ref 36, .ref 37, .ref 38, .ref 39, .ref 40, .ref 41, .int 0, .int 0, .int 0, .ref 42, .ref 43, .int 0, .int 0, .int 0, .int 0, .ref 44, .ref 45, .int 0, .ref 46, .ref 47, .ref 48, .ref 49, .ref 50, .ref 51, .ref 52, .int 0, .ref 53, .int 0, .int 0, .ref 54, .ref 55])) (.inl (false, l)))) rfl ?_
          refine am_wl (lv := [(7, .int (ed_k 8)), (5, .int (nI 0)), (6, .int (bif false then 1 else 0)), (0, .ref 32), (1, .int p), (2, .int q), (3, .long e)]) ⟨rfl, rfl, rfl, rfl, rfl, rfl, rfl, trivial⟩ (em_edl xs d p q _ Q e 8 (Nat.le_refl 8) 0 false ?_)
          show am_W _ _ 132 103 [(5, .int (nI (0 + ed_n e 8))), (6, .int 0), (0, .ref 32), (1, .int p), (2, .int q), (3, .long e)] [] (hm_f (c0) (c1) (c2) (.inr (9, [.int 0, .ref 33, .ref 34, .ref 35, .int 1, .int 0, .ref 36, .ref 37, .ref 38, .ref 39, .ref 40, .ref 41, .int 0, .int 0, .int 0, .ref 42, .ref 43, .int 0, .int 0, .int 0, .int 0, .ref 44, .ref 45, .int 0, .ref 46, .ref 47, .ref 48, .ref 49, .ref 50, .ref 51, .ref 52, .int 0, .ref 53, .int 0, .int 0, .ref 54, .ref 55])) (.inl (false, l))) _
          refine am_wn 5 (pc1 := 134) (lv1 := [(5, .int (nI (0 + ed_n e 8))), (6, .int 0), (0, .ref 32), (1, .int p), (2, .int q), (3, .long e)]) (st1 := [.int (-1)]) (h1 := (hm_f (c0) (c1) (c2) (.inr (9, [.int 0, .ref 33, .ref 34, .ref 35, .int 1, .int 0, .ref 36, .ref 37, .ref 38, .ref 39, .ref 40, .ref 41, .int 0, .int 0, .int 0, .ref 42, .ref 43, .int 0, .int 0, .int 0, .int 0, .ref 44, .ref 45, .int 0, .ref 46, .ref 47, .ref 48, .ref 49, .ref 50, .ref 51, .ref 52, .int 0, .ref 53, .int 0, .int 0, .ref 54, .ref 55])) (.inl (false, l)))) rfl ?_
          refine am_wr rfl rfl rfl ?_
          exact hQ
        | false =>
          refine am_wb2 rfl false hb4 rfl ?_
          refine am_wn 5 (pc1 := 40) (lv1 := [(7, .int 56), (6, .int 1), (5, .int 0), (0, .ref 32), (1, .int p), (2, .int q), (3, .long e)]) (st1 := []) (h1 := (hm_f (c0) (c1) (c2) (.inr (9, [.int 0, .ref 33, .ref 34, .ref 35, .int 1, .int 0, .ref 36, .ref 37, .ref 38, .ref 39, .ref 40, .ref 41, .int 0, .int 0, .int 0, .ref 42, .ref 43, .int 0, .int 0, .int 0, .int 0, .ref 44, .ref 45, .int 0, .ref 46, .ref 47, .ref 48, .ref 49, .ref 50, .ref 51, .ref 52, .int 0, .ref 53, .int 0, .int 0, .ref 54, .ref 55])) (.inl (false, l)))) rfl ?_
          exact absurd (ed_pq2 hb1 hb2 hb3 hb4) hpq
set_option maxRecDepth 100000 in
set_option maxHeartbeats 4000000 in
theorem em_edy (xs : Option (List Int32)) (d : Nat) (e : Int64) (c0 c1 c2 : am_E) (l : List Int32) (hl : l.length = 200) (Q : Option Value → List am_E → Prop) (hQ0 : ed_al e 8 = false → Q (some (.int (-1))) (hm_f (c0) (c1) (c2) (.inr (9, [.int 0, .ref 33, .ref 34, .ref 35, .int 1, .int 0, .ref 36, .ref 37, .ref 38, .ref 39, .ref 40, .ref 41, .int 0, .int 0, .int 0, .ref 42, .ref 43, .int 0, .int 0, .int 0, .int 0, .ref 44, .ref 45, .int 0, .ref 46, .ref 47, .ref 48, .ref 49, .ref 50, .ref 51, .ref 52, .int 0, .ref 53, .int 0, .int 0, .ref 54, .ref 55])) (.inl (false, l)))) (hQ : ed_al e 8 = true → ∀ l2 : List Int32, l2.length = 200 → Q (some (.int (0 + nI (ed_n e 8)))) (hm_f (c0) (c1) (c2) (.inr (9, [.int (0 + (nI (ed_n e 8))), .ref 33, .ref 34, .ref 35, .int 1, .int 0, .ref 36, .ref 37, .ref 38, .ref 39, .ref 40, .ref 41, .int 0, .int 0, .int 0, .ref 42, .ref 43, .int 0, .int 0, .int 0, .int 0, .ref 44, .ref 45, .int 0, .ref 46, .ref 47, .ref 48, .ref 49, .ref 50, .ref 51, .ref 52, .int 0, .ref 53, .int 0, .int 0, .ref 54, .ref 55])) (.inl (false, l2)))) : am_W (am_CX xs) (d + 2) 132 0 [(0, .ref 32), (1, .int 0), (2, .int 0), (3, .long e)] [] (hm_f (c0) (c1) (c2) (.inr (9, [.int 0, .ref 33, .ref 34, .ref 35, .int 1, .int 0, .ref 36, .ref 37, .ref 38, .ref 39, .ref 40, .ref 41, .int 0, .int 0, .int 0, .ref 42, .ref 43, .int 0, .int 0, .int 0, .int 0, .ref 44, .ref 45, .int 0, .ref 46, .ref 47, .ref 48, .ref 49, .ref 50, .ref 51, .ref 52, .int 0, .ref 53, .int 0, .int 0, .ref 54, .ref 55])) (.inl (false, l))) Q := by
  have hn8 : ed_n e 8 ≤ 8 := ed_n_le e 8
  refine am_wn 21 (pc1 := 40) (lv1 := [(7, .int 56), (6, .int 1), (5, .int 0), (0, .ref 32), (1, .int 0), (2, .int 0), (3, .long e)]) (st1 := []) (h1 := (hm_f (c0) (c1) (c2) (.inr (9, [.int 0, .ref 33, .ref 34, .ref 35, .int 1, .int 0, .ref 36, .ref 37, .ref 38, .ref 39, .ref 40, .ref 41, .int 0, .int 0, .int 0, .ref 42, .ref 43, .int 0, .int 0, .int 0, .int 0, .ref 44, .ref 45, .int 0, .ref 46, .ref 47, .ref 48, .ref 49, .ref 50, .ref 51, .ref 52, .int 0, .ref 53, .int 0, .int 0, .ref 54, .ref 55])) (.inl (false, l)))) rfl ?_
  refine am_wl (lv := [(7, .int (ed_k 8)), (5, .int (nI 0)), (6, .int (bif true then 1 else 0)), (0, .ref 32), (1, .int 0), (2, .int 0), (3, .long e)]) ⟨rfl, rfl, rfl, rfl, rfl, rfl, rfl, trivial⟩ (em_edl xs (d + 1) 0 0 _ Q e 8 (Nat.le_refl 8) 0 true ?_)
  rw [Nat.zero_add]
  show am_W _ _ 132 103 [(5, .int (nI (ed_n e 8))), (6, .int (bif ed_al e 8 then 1 else 0)), (0, .ref 32), (1, .int 0), (2, .int 0), (3, .long e)] [] (hm_f (c0) (c1) (c2) (.inr (9, [.int 0, .ref 33, .ref 34, .ref 35, .int 1, .int 0, .ref 36, .ref 37, .ref 38, .ref 39, .ref 40, .ref 41, .int 0, .int 0, .int 0, .ref 42, .ref 43, .int 0, .int 0, .int 0, .int 0, .ref 44, .ref 45, .int 0, .ref 46, .ref 47, .ref 48, .ref 49, .ref 50, .ref 51, .ref 52, .int 0, .ref 53, .int 0, .int 0, .ref 54, .ref 55])) (.inl (false, l))) _
  generalize hn : ed_n e 8 = n at hn8 hQ ⊢
  refine am_wn 1 (pc1 := 105) (lv1 := [(5, .int (nI n)), (6, .int (bif ed_al e 8 then 1 else 0)), (0, .ref 32), (1, .int 0), (2, .int 0), (3, .long e)]) (st1 := [.int (bif ed_al e 8 then 1 else 0)]) (h1 := (hm_f (c0) (c1) (c2) (.inr (9, [.int 0, .ref 33, .ref 34, .ref 35, .int 1, .int 0, .ref 36, .ref 37, .ref 38, .ref 39, .ref 40, .ref 41, .int 0, .int 0, .int 0, .ref 42, .ref 43, .int 0, .int 0, .int 0, .int 0, .ref 44, .ref 45, .int 0, .ref 46, .ref 47, .ref 48, .ref 49, .ref 50, .ref 51, .ref 52, .int 0, .ref 53, .int 0, .int 0, .ref 54, .ref 55])) (.inl (false, l)))) rfl ?_
  cases hb1 : am_if .eq (bif ed_al e 8 then 1 else 0) 0 with
  | true =>
    refine am_wb1 rfl true hb1 rfl ?_
    refine am_wn 1 (pc1 := 125) (lv1 := [(5, .int (nI n)), (6, .int (bif ed_al e 8 then 1 else 0)), (0, .ref 32), (1, .int 0), (2, .int 0), (3, .long e)]) (st1 := [.int (bif ed_al e 8 then 1 else 0)]) (h1 := (hm_f (c0) (c1) (c2) (.inr (9, [.int 0, .ref 33, .ref 34, .ref 35, .int 1, .int 0, .ref 36, .ref 37, .ref 38, .ref 39, .ref 40, .ref 41, .int 0, .int 0, .int 0, .ref 42, .ref 43, .int 0, .int 0, .int 0, .int 0, .ref 44, .ref 45, .int 0, .ref 46, .ref 47, .ref 48, .ref 49, .ref 50, .ref 51, .ref 52, .int 0, .ref 53, .int 0, .int 0, .ref 54, .ref 55])) (.inl (false, l)))) rfl ?_
    refine am_wb1 rfl true (hb1) rfl ?_
    refine am_wn 1 (pc1 := 134) (lv1 := [(5, .int (nI n)), (6, .int (bif ed_al e 8 then 1 else 0)), (0, .ref 32), (1, .int 0), (2, .int 0), (3, .long e)]) (st1 := [.int (-1)]) (h1 := (hm_f (c0) (c1) (c2) (.inr (9, [.int 0, .ref 33, .ref 34, .ref 35, .int 1, .int 0, .ref 36, .ref 37, .ref 38, .ref 39, .ref 40, .ref 41, .int 0, .int 0, .int 0, .ref 42, .ref 43, .int 0, .int 0, .int 0, .int 0, .ref 44, .ref 45, .int 0, .ref 46, .ref 47, .ref 48, .ref 49, .ref 50, .ref 51, .ref 52, .int 0, .ref 53, .int 0, .int 0, .ref 54, .ref 55])) (.inl (false, l)))) rfl ?_
    refine am_wr rfl rfl rfl ?_
    rw [ed_eq] at hb1
    exact hQ0 (by simpa using hb1)
  | false =>
    refine am_wb1 rfl false hb1 rfl ?_
    refine am_wn 7 (pc1 := 120) (lv1 := [(5, .int (nI n)), (6, .int (bif ed_al e 8 then 1 else 0)), (0, .ref 32), (1, .int 0), (2, .int 0), (3, .long e)]) (st1 := [.int 200, .int (0 + (nI n))]) (h1 := (hm_f (c0) (c1) (c2) (.inr (9, [.int 0, .ref 33, .ref 34, .ref 35, .int 1, .int 0, .ref 36, .ref 37, .ref 38, .ref 39, .ref 40, .ref 41, .int 0, .int 0, .int 0, .ref 42, .ref 43, .int 0, .int 0, .int 0, .int 0, .ref 44, .ref 45, .int 0, .ref 46, .ref 47, .ref 48, .ref 49, .ref 50, .ref 51, .ref 52, .int 0, .ref 53, .int 0, .int 0, .ref 54, .ref 55])) (.inl (false, l)))) rfl ?_
    refine am_wb2 rfl true (ed_200 n hn8) rfl ?_
    refine am_wn 5 (pc1 := 141) (lv1 := [(5, .int (nI n)), (6, .int (bif ed_al e 8 then 1 else 0)), (0, .ref 32), (1, .int 0), (2, .int 0), (3, .long e)]) (st1 := [.long e, .int (nI n), .int 0, .int 0, .ref 32]) (h1 := (hm_f (c0) (c1) (c2) (.inr (9, [.int 0, .ref 33, .ref 34, .ref 35, .int 1, .int 0, .ref 36, .ref 37, .ref 38, .ref 39, .ref 40, .ref 41, .int 0, .int 0, .int 0, .ref 42, .ref 43, .int 0, .int 0, .int 0, .int 0, .ref 44, .ref 45, .int 0, .ref 46, .ref 47, .ref 48, .ref 49, .ref 50, .ref 51, .ref 52, .int 0, .ref 53, .int 0, .int 0, .ref 54, .ref 55])) (.inl (false, l)))) rfl ?_
    refine am_wc rfl rfl rfl ?_
    refine em_rep _ _ _ _ _ _ _ _ l hl (fun l2 hl2 => ?_)
    show am_W _ _ 132 144 [(5, .int (nI n)), (6, .int (bif ed_al e 8 then 1 else 0)), (0, .ref 32), (1, .int 0), (2, .int 0), (3, .long e)] [] (hm_f (c0) (c1) (c2) (.inr (9, [.int (0 + (nI n)), .ref 33, .ref 34, .ref 35, .int 1, .int 0, .ref 36, .ref 37, .ref 38, .ref 39, .ref 40, .ref 41, .int 0, .int 0, .int 0, .ref 42, .ref 43, .int 0, .int 0, .int 0, .int 0, .ref 44, .ref 45, .int 0, .ref 46, .ref 47, .ref 48, .ref 49, .ref 50, .ref 51, .ref 52, .int 0, .ref 53, .int 0, .int 0, .ref 54, .ref 55])) (.inl (false, l2))) _
    refine am_wn 2 (pc1 := 148) (lv1 := [(5, .int (nI n)), (6, .int (bif ed_al e 8 then 1 else 0)), (0, .ref 32), (1, .int 0), (2, .int 0), (3, .long e)]) (st1 := [.int (0 + (nI n))]) (h1 := (hm_f (c0) (c1) (c2) (.inr (9, [.int (0 + (nI n)), .ref 33, .ref 34, .ref 35, .int 1, .int 0, .ref 36, .ref 37, .ref 38, .ref 39, .ref 40, .ref 41, .int 0, .int 0, .int 0, .ref 42, .ref 43, .int 0, .int 0, .int 0, .int 0, .ref 44, .ref 45, .int 0, .ref 46, .ref 47, .ref 48, .ref 49, .ref 50, .ref 51, .ref 52, .int 0, .ref 53, .int 0, .int 0, .ref 54, .ref 55])) (.inl (false, l2)))) rfl ?_
    refine am_wr rfl rfl rfl ?_
    rw [ed_eq] at hb1
    exact hQ (by simpa using hb1) l2 hl2
set_option maxRecDepth 100000 in
set_option maxHeartbeats 4000000 in
theorem em_let (xs : Option (List Int32)) (d : Nat) (h : List am_E) (Q : Option Value → List am_E → Prop) (c : Int32) (hQ : ∀ v : Int32, Q (some (.int v)) h) : am_W (am_CX xs) d 138 0 [(0, .int c)] [] h Q := by
  refine am_wn 2 (pc1 := 3) (lv1 := [(0, .int c)]) (st1 := [.int 97, .int c]) (h1 := h) rfl ?_
  cases hb1 : am_if .lt c 97 with
  | true =>
    refine am_wb2 rfl true hb1 rfl ?_
    refine am_wn 2 (pc1 := 15) (lv1 := [(0, .int c)]) (st1 := [.int 65, .int c]) (h1 := h) rfl ?_
    cases hb2 : am_if .lt c 65 with
    | true =>
      refine am_wb2 rfl true hb2 rfl ?_
      refine am_wn 2 (pc1 := 27) (lv1 := [(0, .int c)]) (st1 := [.int 95, .int c]) (h1 := h) rfl ?_
      cases hb3 : am_if .ne c 95 with
      | true =>
        refine am_wb2 rfl true hb3 rfl ?_
        refine am_wn 1 (pc1 := 35) (lv1 := [(0, .int c)]) (st1 := [.int 0]) (h1 := h) rfl ?_
        refine am_wr rfl rfl rfl ?_
        exact hQ _
      | false =>
        refine am_wb2 rfl false hb3 rfl ?_
        refine am_wn 2 (pc1 := 35) (lv1 := [(0, .int c)]) (st1 := [.int 1]) (h1 := h) rfl ?_
        refine am_wr rfl rfl rfl ?_
        exact hQ _
    | false =>
      refine am_wb2 rfl false hb2 rfl ?_
      refine am_wn 2 (pc1 := 21) (lv1 := [(0, .int c)]) (st1 := [.int 90, .int c]) (h1 := h) rfl ?_
      cases hb4 : am_if .le c 90 with
      | true =>
        refine am_wb2 rfl true hb4 rfl ?_
        refine am_wn 2 (pc1 := 35) (lv1 := [(0, .int c)]) (st1 := [.int 1]) (h1 := h) rfl ?_
        refine am_wr rfl rfl rfl ?_
        exact hQ _
      | false =>
        refine am_wb2 rfl false hb4 rfl ?_
        refine am_wn 2 (pc1 := 27) (lv1 := [(0, .int c)]) (st1 := [.int 95, .int c]) (h1 := h) rfl ?_
        cases hb5 : am_if .ne c 95 with
        | true =>
          refine am_wb2 rfl true hb5 rfl ?_
          refine am_wn 1 (pc1 := 35) (lv1 := [(0, .int c)]) (st1 := [.int 0]) (h1 := h) rfl ?_
          refine am_wr rfl rfl rfl ?_
          exact hQ _
        | false =>
          refine am_wb2 rfl false hb5 rfl ?_
          refine am_wn 2 (pc1 := 35) (lv1 := [(0, .int c)]) (st1 := [.int 1]) (h1 := h) rfl ?_
          refine am_wr rfl rfl rfl ?_
          exact hQ _
  | false =>
    refine am_wb2 rfl false hb1 rfl ?_
    refine am_wn 2 (pc1 := 9) (lv1 := [(0, .int c)]) (st1 := [.int 122, .int c]) (h1 := h) rfl ?_
    cases hb6 : am_if .le c 122 with
    | true =>
      refine am_wb2 rfl true hb6 rfl ?_
      refine am_wn 2 (pc1 := 35) (lv1 := [(0, .int c)]) (st1 := [.int 1]) (h1 := h) rfl ?_
      refine am_wr rfl rfl rfl ?_
      exact hQ _
    | false =>
      refine am_wb2 rfl false hb6 rfl ?_
      refine am_wn 2 (pc1 := 15) (lv1 := [(0, .int c)]) (st1 := [.int 65, .int c]) (h1 := h) rfl ?_
      cases hb7 : am_if .lt c 65 with
      | true =>
        refine am_wb2 rfl true hb7 rfl ?_
        refine am_wn 2 (pc1 := 27) (lv1 := [(0, .int c)]) (st1 := [.int 95, .int c]) (h1 := h) rfl ?_
        cases hb8 : am_if .ne c 95 with
        | true =>
          refine am_wb2 rfl true hb8 rfl ?_
          refine am_wn 1 (pc1 := 35) (lv1 := [(0, .int c)]) (st1 := [.int 0]) (h1 := h) rfl ?_
          refine am_wr rfl rfl rfl ?_
          exact hQ _
        | false =>
          refine am_wb2 rfl false hb8 rfl ?_
          refine am_wn 2 (pc1 := 35) (lv1 := [(0, .int c)]) (st1 := [.int 1]) (h1 := h) rfl ?_
          refine am_wr rfl rfl rfl ?_
          exact hQ _
      | false =>
        refine am_wb2 rfl false hb7 rfl ?_
        refine am_wn 2 (pc1 := 21) (lv1 := [(0, .int c)]) (st1 := [.int 90, .int c]) (h1 := h) rfl ?_
        cases hb9 : am_if .le c 90 with
        | true =>
          refine am_wb2 rfl true hb9 rfl ?_
          refine am_wn 2 (pc1 := 35) (lv1 := [(0, .int c)]) (st1 := [.int 1]) (h1 := h) rfl ?_
          refine am_wr rfl rfl rfl ?_
          exact hQ _
        | false =>
          refine am_wb2 rfl false hb9 rfl ?_
          refine am_wn 2 (pc1 := 27) (lv1 := [(0, .int c)]) (st1 := [.int 95, .int c]) (h1 := h) rfl ?_
          cases hb10 : am_if .ne c 95 with
          | true =>
            refine am_wb2 rfl true hb10 rfl ?_
            refine am_wn 1 (pc1 := 35) (lv1 := [(0, .int c)]) (st1 := [.int 0]) (h1 := h) rfl ?_
            refine am_wr rfl rfl rfl ?_
            exact hQ _
          | false =>
            refine am_wb2 rfl false hb10 rfl ?_
            refine am_wn 2 (pc1 := 35) (lv1 := [(0, .int c)]) (st1 := [.int 1]) (h1 := h) rfl ?_
            refine am_wr rfl rfl rfl ?_
            exact hQ _
set_option maxRecDepth 100000 in
set_option maxHeartbeats 4000000 in
theorem em_dig (xs : Option (List Int32)) (d : Nat) (h : List am_E) (Q : Option Value → List am_E → Prop) (c : Int32) (hQ : ∀ v : Int32, Q (some (.int v)) h) : am_W (am_CX xs) d 137 0 [(0, .int c)] [] h Q := by
  refine am_wn 2 (pc1 := 3) (lv1 := [(0, .int c)]) (st1 := [.int 48, .int c]) (h1 := h) rfl ?_
  cases hb1 : am_if .lt c 48 with
  | true =>
    refine am_wb2 rfl true hb1 rfl ?_
    refine am_wn 1 (pc1 := 17) (lv1 := [(0, .int c)]) (st1 := [.int 0]) (h1 := h) rfl ?_
    refine am_wr rfl rfl rfl ?_
    exact hQ _
  | false =>
    refine am_wb2 rfl false hb1 rfl ?_
    refine am_wn 2 (pc1 := 9) (lv1 := [(0, .int c)]) (st1 := [.int 57, .int c]) (h1 := h) rfl ?_
    cases hb2 : am_if .gt c 57 with
    | true =>
      refine am_wb2 rfl true hb2 rfl ?_
      refine am_wn 1 (pc1 := 17) (lv1 := [(0, .int c)]) (st1 := [.int 0]) (h1 := h) rfl ?_
      refine am_wr rfl rfl rfl ?_
      exact hQ _
    | false =>
      refine am_wb2 rfl false hb2 rfl ?_
      refine am_wn 2 (pc1 := 17) (lv1 := [(0, .int c)]) (st1 := [.int 1]) (h1 := h) rfl ?_
      refine am_wr rfl rfl rfl ?_
      exact hQ _
set_option maxRecDepth 100000 in
set_option maxHeartbeats 4000000 in
theorem em_wrd (xs : Option (List Int32)) (d : Nat) (h : List am_E) (Q : Option Value → List am_E → Prop) (w : Int64) (hQ : ∀ v : Int32, Q (some (.int v)) h) : am_W (am_CX xs) d 139 0 [(0, .long w)] [] h Q := by
  refine am_wn 3 (pc1 := 5) (lv1 := [(0, .long w)]) (st1 := [.int (lg_cmp w 427020088179)]) (h1 := h) rfl ?_
  cases hb1 : am_if .ne (lg_cmp w 427020088179) 0 with
  | true =>
    refine am_wb1 rfl true hb1 rfl ?_
    refine am_wn 3 (pc1 := 17) (lv1 := [(0, .long w)]) (st1 := [.int (lg_cmp w 6579558)]) (h1 := h) rfl ?_
    cases hb2 : am_if .ne (lg_cmp w 6579558) 0 with
    | true =>
      refine am_wb1 rfl true hb2 rfl ?_
      refine am_wn 3 (pc1 := 29) (lv1 := [(0, .long w)]) (st1 := [.int (lg_cmp w 6579564)]) (h1 := h) rfl ?_
      cases hb3 : am_if .ne (lg_cmp w 6579564) 0 with
      | true =>
        refine am_wb1 rfl true hb3 rfl ?_
        refine am_wn 3 (pc1 := 41) (lv1 := [(0, .long w)]) (st1 := [.int (lg_cmp w 1701606245)]) (h1 := h) rfl ?_
        cases hb4 : am_if .ne (lg_cmp w 1701606245) 0 with
        | true =>
          refine am_wb1 rfl true hb4 rfl ?_
          refine am_wn 3 (pc1 := 53) (lv1 := [(0, .long w)]) (st1 := [.int (lg_cmp w 6713202)]) (h1 := h) rfl ?_
          cases hb5 : am_if .ne (lg_cmp w 6713202) 0 with
          | true =>
            refine am_wb1 rfl true hb5 rfl ?_
            refine am_wn 3 (pc1 := 65) (lv1 := [(0, .long w)]) (st1 := [.int (lg_cmp w 113715422847340)]) (h1 := h) rfl ?_
            cases hb6 : am_if .ne (lg_cmp w 113715422847340) 0 with
            | true =>
              refine am_wb1 rfl true hb6 rfl ?_
              refine am_wn 3 (pc1 := 78) (lv1 := [(0, .long w)]) (st1 := [.int (lg_cmp w 26982)]) (h1 := h) rfl ?_
              cases hb7 : am_if .ne (lg_cmp w 26982) 0 with
              | true =>
                refine am_wb1 rfl true hb7 rfl ?_
                refine am_wn 3 (pc1 := 91) (lv1 := [(0, .long w)]) (st1 := [.int (lg_cmp w 115918758703732)]) (h1 := h) rfl ?_
                cases hb8 : am_if .ne (lg_cmp w 115918758703732) 0 with
                | true =>
                  refine am_wb1 rfl true hb8 rfl ?_
                  refine am_wn 3 (pc1 := 104) (lv1 := [(0, .long w)]) (st1 := [.int (lg_cmp w 26990)]) (h1 := h) rfl ?_
                  cases hb9 : am_if .ne (lg_cmp w 26990) 0 with
                  | true =>
                    refine am_wb1 rfl true hb9 rfl ?_
                    refine am_wn 3 (pc1 := 117) (lv1 := [(0, .long w)]) (st1 := [.int (lg_cmp w 119165702792289)]) (h1 := h) rfl ?_
                    cases hb10 : am_if .ne (lg_cmp w 119165702792289) 0 with
                    | true =>
                      refine am_wb1 rfl true hb10 rfl ?_
                      refine am_wn 3 (pc1 := 130) (lv1 := [(0, .long w)]) (st1 := [.int (lg_cmp w 7957700478591263084)]) (h1 := h) rfl ?_
                      cases hb11 : am_if .ne (lg_cmp w 7957700478591263084) 0 with
                      | true =>
                        refine am_wb1 rfl true hb11 rfl ?_
                        refine am_wn 3 (pc1 := 143) (lv1 := [(0, .long w)]) (st1 := [.int (lg_cmp w 1885434739)]) (h1 := h) rfl ?_
                        cases hb12 : am_if .ne (lg_cmp w 1885434739) 0 with
                        | true =>
                          refine am_wb1 rfl true hb12 rfl ?_
                          refine am_wn 3 (pc1 := 156) (lv1 := [(0, .long w)]) (st1 := [.int (lg_cmp w 125780071117422)]) (h1 := h) rfl ?_
                          cases hb13 : am_if .ne (lg_cmp w 125780071117422) 0 with
                          | true =>
                            refine am_wb1 rfl true hb13 rfl ?_
                            refine am_wn 3 (pc1 := 169) (lv1 := [(0, .long w)]) (st1 := [.int (lg_cmp w 512852847717)]) (h1 := h) rfl ?_
                            cases hb14 : am_if .ne (lg_cmp w 512852847717) 0 with
                            | true =>
                              refine am_wb1 rfl true hb14 rfl ?_
                              refine am_wn 1 (pc1 := 178) (lv1 := [(0, .long w)]) (st1 := [.int 0]) (h1 := h) rfl ?_
                              refine am_wr rfl rfl rfl ?_
                              exact hQ _
                            | false =>
                              refine am_wb1 rfl false hb14 rfl ?_
                              refine am_wn 2 (pc1 := 178) (lv1 := [(0, .long w)]) (st1 := [.int 14]) (h1 := h) rfl ?_
                              refine am_wr rfl rfl rfl ?_
                              exact hQ _
                          | false =>
                            refine am_wb1 rfl false hb13 rfl ?_
                            refine am_wn 2 (pc1 := 178) (lv1 := [(0, .long w)]) (st1 := [.int 13]) (h1 := h) rfl ?_
                            refine am_wr rfl rfl rfl ?_
                            exact hQ _
                        | false =>
                          refine am_wb1 rfl false hb12 rfl ?_
                          refine am_wn 2 (pc1 := 178) (lv1 := [(0, .long w)]) (st1 := [.int 12]) (h1 := h) rfl ?_
                          refine am_wr rfl rfl rfl ?_
                          exact hQ _
                      | false =>
                        refine am_wb1 rfl false hb11 rfl ?_
                        refine am_wn 2 (pc1 := 178) (lv1 := [(0, .long w)]) (st1 := [.int 11]) (h1 := h) rfl ?_
                        refine am_wr rfl rfl rfl ?_
                        exact hQ _
                    | false =>
                      refine am_wb1 rfl false hb10 rfl ?_
                      refine am_wn 2 (pc1 := 178) (lv1 := [(0, .long w)]) (st1 := [.int 10]) (h1 := h) rfl ?_
                      refine am_wr rfl rfl rfl ?_
                      exact hQ _
                  | false =>
                    refine am_wb1 rfl false hb9 rfl ?_
                    refine am_wn 2 (pc1 := 178) (lv1 := [(0, .long w)]) (st1 := [.int 9]) (h1 := h) rfl ?_
                    refine am_wr rfl rfl rfl ?_
                    exact hQ _
                | false =>
                  refine am_wb1 rfl false hb8 rfl ?_
                  refine am_wn 2 (pc1 := 178) (lv1 := [(0, .long w)]) (st1 := [.int 8]) (h1 := h) rfl ?_
                  refine am_wr rfl rfl rfl ?_
                  exact hQ _
              | false =>
                refine am_wb1 rfl false hb7 rfl ?_
                refine am_wn 2 (pc1 := 178) (lv1 := [(0, .long w)]) (st1 := [.int 7]) (h1 := h) rfl ?_
                refine am_wr rfl rfl rfl ?_
                exact hQ _
            | false =>
              refine am_wb1 rfl false hb6 rfl ?_
              refine am_wn 2 (pc1 := 178) (lv1 := [(0, .long w)]) (st1 := [.int 6]) (h1 := h) rfl ?_
              refine am_wr rfl rfl rfl ?_
              exact hQ _
          | false =>
            refine am_wb1 rfl false hb5 rfl ?_
            refine am_wn 2 (pc1 := 178) (lv1 := [(0, .long w)]) (st1 := [.int 5]) (h1 := h) rfl ?_
            refine am_wr rfl rfl rfl ?_
            exact hQ _
        | false =>
          refine am_wb1 rfl false hb4 rfl ?_
          refine am_wn 2 (pc1 := 178) (lv1 := [(0, .long w)]) (st1 := [.int 4]) (h1 := h) rfl ?_
          refine am_wr rfl rfl rfl ?_
          exact hQ _
      | false =>
        refine am_wb1 rfl false hb3 rfl ?_
        refine am_wn 2 (pc1 := 178) (lv1 := [(0, .long w)]) (st1 := [.int 3]) (h1 := h) rfl ?_
        refine am_wr rfl rfl rfl ?_
        exact hQ _
    | false =>
      refine am_wb1 rfl false hb2 rfl ?_
      refine am_wn 2 (pc1 := 178) (lv1 := [(0, .long w)]) (st1 := [.int 2]) (h1 := h) rfl ?_
      refine am_wr rfl rfl rfl ?_
      exact hQ _
  | false =>
    refine am_wb1 rfl false hb1 rfl ?_
    refine am_wn 2 (pc1 := 178) (lv1 := [(0, .long w)]) (st1 := [.int 1]) (h1 := h) rfl ?_
    refine am_wr rfl rfl rfl ?_
    exact hQ _
set_option maxRecDepth 100000 in
set_option maxHeartbeats 4000000 in
theorem em_nll (xs : Option (List Int32)) (d : Nat) (h : List am_E) (Q : Option Value → List am_E → Prop) (e : Int64) (hQ : ∀ v : Int32, Q (some (.int v)) h) : ∀ m, m ≤ 8 → ∀ (mn g : Int32) (w : Int64), am_W (am_CX xs) (d + 1) 198 11 [(6, .int (ed_k m)), (2, .int mn), (3, .long w), (5, .int g), (0, .long e)] [] h Q := by
  intro m
  induction m with
  | zero =>
    intro _ mn g w
    show am_W _ _ 198 11 [(6, .int (-8)), (2, .int mn), (3, .long w), (5, .int g), (0, .long e)] [] h _
    refine am_wn 3 (pc1 := 85) (lv1 := [(6, .int (-8)), (2, .int mn), (3, .long w), (5, .int g), (0, .long e)]) (st1 := [.int g]) (h1 := h) rfl ?_
    cases hb1 : am_if .eq g 0 with
    | true =>
      refine am_wb1 rfl true hb1 rfl ?_
      refine am_wn 1 (pc1 := 100) (lv1 := [(6, .int (-8)), (2, .int mn), (3, .long w), (5, .int g), (0, .long e)]) (st1 := [.int 0]) (h1 := h) rfl ?_
      refine am_wr rfl rfl rfl ?_
      exact hQ _
    | false =>
      refine am_wb1 rfl false hb1 rfl ?_
      refine am_wn 1 (pc1 := 89) (lv1 := [(6, .int (-8)), (2, .int mn), (3, .long w), (5, .int g), (0, .long e)]) (st1 := [.long w]) (h1 := h) rfl ?_
      refine am_wc rfl rfl rfl ?_
      refine em_wrd _ _ _ _ _ (fun v1 => ?_)
      show am_W _ _ 198 92 [(6, .int (-8)), (2, .int mn), (3, .long w), (5, .int g), (0, .long e)] [.int v1] h _
      cases hb2 : am_if .ne v1 0 with
      | true =>
        refine am_wb1 rfl true hb2 rfl ?_
        refine am_wn 1 (pc1 := 100) (lv1 := [(6, .int (-8)), (2, .int mn), (3, .long w), (5, .int g), (0, .long e)]) (st1 := [.int 0]) (h1 := h) rfl ?_
        refine am_wr rfl rfl rfl ?_
        exact hQ _
      | false =>
        refine am_wb1 rfl false hb2 rfl ?_
        refine am_wn 2 (pc1 := 100) (lv1 := [(6, .int (-8)), (2, .int mn), (3, .long w), (5, .int g), (0, .long e)]) (st1 := [.int mn]) (h1 := h) rfl ?_
        refine am_wr rfl rfl rfl ?_
        exact hQ _
  | succ m ih =>
    intro hm mn g w
    have hm8 : m < 8 := hm
    show am_W _ _ 198 11 [(6, .int (nI (8 * m))), (2, .int mn), (3, .long w), (5, .int g), (0, .long e)] [] h _
    refine am_wn 1 (pc1 := 13) (lv1 := [(6, .int (nI (8 * m))), (2, .int mn), (3, .long w), (5, .int g), (0, .long e)]) (st1 := [.int (nI (8 * m))]) (h1 := h) rfl ?_
    refine am_wb1 rfl false (ed_kp m hm8) rfl ?_
    refine am_wn 8 (pc1 := 29) (lv1 := [(7, .int (ed_b e m)), (6, .int (nI (8 * m))), (2, .int mn), (3, .long w), (5, .int g), (0, .long e)]) (st1 := [.int (ed_b e m)]) (h1 := h) rfl ?_
    cases hb1 : am_if .eq (ed_b e m) 0 with
    | true =>
      refine am_wb1 rfl true hb1 rfl ?_
      refine am_wn 2 (pc1 := 11) (lv1 := [(6, .int ((nI (8 * m)) + (-8))), (7, .int (ed_b e m)), (2, .int mn), (3, .long w), (5, .int g), (0, .long e)]) (st1 := []) (h1 := h) rfl ?_
      rw [ed_kd m hm8]
      exact am_wm (ih (Nat.le_of_lt hm8) _ _ _) ⟨rfl, rfl, rfl, rfl, rfl, trivial⟩
    | false =>
      refine am_wb1 rfl false hb1 rfl ?_
      refine am_wn 1 (pc1 := 34) (lv1 := [(7, .int (ed_b e m)), (6, .int (nI (8 * m))), (2, .int mn), (3, .long w), (5, .int g), (0, .long e)]) (st1 := [.int g]) (h1 := h) rfl ?_
      cases hb2 : am_if .eq g 0 with
      | true =>
        refine am_wb1 rfl true hb2 rfl ?_
        refine am_wn 12 (pc1 := 11) (lv1 := [(6, .int ((nI (8 * m)) + (-8))), (2, .int (mn + 1)), (3, .long ((w * 256) + (Int32.toInt64 (ed_b e m)))), (5, .int 0), (7, .int (ed_b e m)), (0, .long e)]) (st1 := []) (h1 := h) rfl ?_
        rw [ed_kd m hm8]
        exact am_wm (ih (Nat.le_of_lt hm8) _ _ _) ⟨rfl, rfl, rfl, rfl, rfl, trivial⟩
      | false =>
        refine am_wb1 rfl false hb2 rfl ?_
        refine am_wn 1 (pc1 := 39) (lv1 := [(7, .int (ed_b e m)), (6, .int (nI (8 * m))), (2, .int mn), (3, .long w), (5, .int g), (0, .long e)]) (st1 := [.int (ed_b e m)]) (h1 := h) rfl ?_
        refine am_wc rfl rfl rfl ?_
        refine em_let _ _ _ _ _ (fun v1 => ?_)
        show am_W _ _ 198 42 [(7, .int (ed_b e m)), (6, .int (nI (8 * m))), (2, .int mn), (3, .long w), (5, .int g), (0, .long e)] [.int v1] h _
        cases hb3 : am_if .ne v1 0 with
        | true =>
          refine am_wb1 rfl true hb3 rfl ?_
          refine am_wn 13 (pc1 := 11) (lv1 := [(6, .int ((nI (8 * m)) + (-8))), (2, .int (mn + 1)), (3, .long ((w * 256) + (Int32.toInt64 (ed_b e m)))), (5, .int 1), (7, .int (ed_b e m)), (0, .long e)]) (st1 := []) (h1 := h) rfl ?_
          rw [ed_kd m hm8]
          exact am_wm (ih (Nat.le_of_lt hm8) _ _ _) ⟨rfl, rfl, rfl, rfl, rfl, trivial⟩
        | false =>
          refine am_wb1 rfl false hb3 rfl ?_
          refine am_wn 1 (pc1 := 46) (lv1 := [(7, .int (ed_b e m)), (6, .int (nI (8 * m))), (2, .int mn), (3, .long w), (5, .int g), (0, .long e)]) (st1 := [.int mn]) (h1 := h) rfl ?_
          cases hb4 : am_if .le mn 0 with
          | true =>
            refine am_wb1 rfl true hb4 rfl ?_
            refine am_wn 12 (pc1 := 11) (lv1 := [(6, .int ((nI (8 * m)) + (-8))), (2, .int (mn + 1)), (3, .long ((w * 256) + (Int32.toInt64 (ed_b e m)))), (5, .int 0), (7, .int (ed_b e m)), (0, .long e)]) (st1 := []) (h1 := h) rfl ?_
            rw [ed_kd m hm8]
            exact am_wm (ih (Nat.le_of_lt hm8) _ _ _) ⟨rfl, rfl, rfl, rfl, rfl, trivial⟩
          | false =>
            refine am_wb1 rfl false hb4 rfl ?_
            refine am_wn 1 (pc1 := 51) (lv1 := [(7, .int (ed_b e m)), (6, .int (nI (8 * m))), (2, .int mn), (3, .long w), (5, .int g), (0, .long e)]) (st1 := [.int (ed_b e m)]) (h1 := h) rfl ?_
            refine am_wc rfl rfl rfl ?_
            refine em_dig _ _ _ _ _ (fun v2 => ?_)
            show am_W _ _ 198 54 [(7, .int (ed_b e m)), (6, .int (nI (8 * m))), (2, .int mn), (3, .long w), (5, .int g), (0, .long e)] [.int v2] h _
            cases hb5 : am_if .eq v2 0 with
            | true =>
              refine am_wb1 rfl true hb5 rfl ?_
              refine am_wn 12 (pc1 := 11) (lv1 := [(6, .int ((nI (8 * m)) + (-8))), (2, .int (mn + 1)), (3, .long ((w * 256) + (Int32.toInt64 (ed_b e m)))), (5, .int 0), (7, .int (ed_b e m)), (0, .long e)]) (st1 := []) (h1 := h) rfl ?_
              rw [ed_kd m hm8]
              exact am_wm (ih (Nat.le_of_lt hm8) _ _ _) ⟨rfl, rfl, rfl, rfl, rfl, trivial⟩
            | false =>
              refine am_wb1 rfl false hb5 rfl ?_
              refine am_wn 13 (pc1 := 11) (lv1 := [(6, .int ((nI (8 * m)) + (-8))), (2, .int (mn + 1)), (3, .long ((w * 256) + (Int32.toInt64 (ed_b e m)))), (5, .int 1), (7, .int (ed_b e m)), (0, .long e)]) (st1 := []) (h1 := h) rfl ?_
              rw [ed_kd m hm8]
              exact am_wm (ih (Nat.le_of_lt hm8) _ _ _) ⟨rfl, rfl, rfl, rfl, rfl, trivial⟩
set_option maxRecDepth 100000 in
set_option maxHeartbeats 4000000 in
theorem em_nl (xs : Option (List Int32)) (d : Nat) (h : List am_E) (Q : Option Value → List am_E → Prop) (e : Int64) (hQ : ∀ v : Int32, Q (some (.int v)) h) : am_W (am_CX xs) (d + 1) 198 0 [(0, .long e)] [] h Q := by
  refine am_wn 8 (pc1 := 11) (lv1 := [(6, .int 56), (5, .int 1), (3, .long 0), (2, .int 0), (0, .long e)]) (st1 := []) (h1 := h) rfl ?_
  exact am_wm (em_nll xs d h Q e hQ 8 (Nat.le_refl 8) _ _ _) ⟨rfl, rfl, rfl, rfl, rfl, trivial⟩
