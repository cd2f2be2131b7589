/-! The eight characters of a long. -/
def ed_c (e : Int64) (k : Int32) : Int32 := (Int64.toInt32 (((Int64.toUInt64 e) >>> ((Int32.toInt64 k).toUInt64 &&& Int64.toUInt64 63)).toInt64)) &&& 255
def ed_ok (c : Int32) : Bool := am_if .eq c 10 || (!am_if .lt c 32 && !am_if .gt c 126)
def ed_b (e : Int64) (i : Nat) : Int32 := ed_c e (nI (8 * i))
def ed_al (e : Int64) : Nat → Bool
  | 0 => true
  | i + 1 => (am_if .eq (ed_b e i) 0 || ed_ok (ed_b e i)) && ed_al e i
def ed_n (e : Int64) : Nat → Nat
  | 0 => 0
  | i + 1 => (bif am_if .eq (ed_b e i) 0 then 0 else 1) + ed_n e i
theorem ed_n_le (e : Int64) : ∀ m, ed_n e m ≤ m := by
  intro m
  induction m with
  | zero => exact Nat.le_refl 0
  | succ m ih =>
    show (bif am_if .eq (ed_b e m) 0 then 0 else 1) + ed_n e m ≤ m + 1
    cases am_if .eq (ed_b e m) 0
    · show 1 + ed_n e m ≤ m + 1
      omega
    · show 0 + ed_n e m ≤ m + 1
      omega
theorem ed_sh : ∀ m, m < 8 → (56 : Int32) - 8 * nI (8 - (m + 1)) = nI (8 * m) := by decide +kernel
theorem ed_ge : ∀ m, m < 8 → am_if .ge (nI (8 - (m + 1))) 8 = false := by decide +kernel
theorem ed_up : ∀ m, m < 8 → nI (8 - (m + 1)) + 1 = nI (8 - m) := by decide +kernel
theorem ed_ne (b : Bool) : am_if .ne (bif b then 1 else 0) 0 = b := by cases b <;> decide +kernel
theorem ed_eq (b : Bool) : am_if .eq (bif b then 1 else 0) 0 = !b := by cases b <;> decide +kernel
set_option maxRecDepth 100000 in
set_option maxHeartbeats 4000000 in
theorem ec_byte (xs : Option (List Int32)) (d : Nat) (h : List am_E) (Q : Option Value → List am_E → Prop) (e : Int64) (k : Int32) (hQ : Q (some (.int (ed_c e (56 - 8 * k)))) h) : am_W (am_CX xs) d 19 0 [(0, .long e), (2, .int k)] [] h Q := by
  refine am_wn 10 (pc1 := 14) (lv1 := [(0, .long e), (2, .int k)]) (st1 := [.int ((Int64.toInt32 (((Int64.toUInt64 e) >>> ((Int32.toInt64 (56 - (8 * k))).toUInt64 &&& Int64.toUInt64 63)).toInt64)) &&& 255)]) (h1 := h) rfl ?_
  refine am_wr rfl rfl rfl ?_
  exact hQ
set_option maxRecDepth 100000 in
set_option maxHeartbeats 4000000 in
theorem ec_isx (xs : Option (List Int32)) (d : Nat) (h : List am_E) (Q : Option Value → List am_E → Prop) (c : Int32) (hQ : Q (some (.int (bif ed_ok c then 1 else 0))) h) : am_W (am_CX xs) d 81 0 [(0, .int c)] [] h Q := by
  refine am_wn 2 (pc1 := 3) (lv1 := [(0, .int c)]) (st1 := [.int 10, .int c]) (h1 := h) rfl ?_
  cases hb1 : am_if .eq c 10 with
  | true =>
    refine am_wb2 rfl true hb1 rfl ?_
    refine am_wn 2 (pc1 := 23) (lv1 := [(0, .int c)]) (st1 := [.int 1]) (h1 := h) rfl ?_
    refine am_wr rfl rfl rfl ?_
    rw [show ed_ok c = true by simp [ed_ok, hb1]] at hQ
    exact hQ
  | false =>
    refine am_wb2 rfl false hb1 rfl ?_
    refine am_wn 2 (pc1 := 9) (lv1 := [(0, .int c)]) (st1 := [.int 32, .int c]) (h1 := h) rfl ?_
    cases hb2 : am_if .lt c 32 with
    | true =>
      refine am_wb2 rfl true hb2 rfl ?_
      refine am_wn 1 (pc1 := 23) (lv1 := [(0, .int c)]) (st1 := [.int 0]) (h1 := h) rfl ?_
      refine am_wr rfl rfl rfl ?_
      rw [show ed_ok c = false by simp [ed_ok, hb1, hb2]] at hQ
      exact hQ
    | false =>
      refine am_wb2 rfl false hb2 rfl ?_
      refine am_wn 2 (pc1 := 15) (lv1 := [(0, .int c)]) (st1 := [.int 126, .int c]) (h1 := h) rfl ?_
      cases hb3 : am_if .gt c 126 with
      | true =>
        refine am_wb2 rfl true hb3 rfl ?_
        refine am_wn 1 (pc1 := 23) (lv1 := [(0, .int c)]) (st1 := [.int 0]) (h1 := h) rfl ?_
        refine am_wr rfl rfl rfl ?_
        rw [show ed_ok c = false by simp [ed_ok, hb1, hb2, hb3]] at hQ
        exact hQ
      | false =>
        refine am_wb2 rfl false hb3 rfl ?_
        refine am_wn 2 (pc1 := 23) (lv1 := [(0, .int c)]) (st1 := [.int 1]) (h1 := h) rfl ?_
        refine am_wr rfl rfl rfl ?_
        rw [show ed_ok c = true by simp [ed_ok, hb1, hb2, hb3]] at hQ
        exact hQ
set_option maxRecDepth 100000 in
set_option maxHeartbeats 4000000 in
theorem ec_ism (xs : Option (List Int32)) (d : Nat) (h : List am_E) (Q : Option Value → List am_E → Prop) (c : Int32) (hQ : Q (some (.int (bif ed_ok c then 1 else 0))) h) : am_W (am_CX xs) d 131 0 [(0, .int c)] [] h Q := by
  refine am_wn 2 (pc1 := 3) (lv1 := [(0, .int c)]) (st1 := [.int 10, .int c]) (h1 := h) rfl ?_
  cases hb1 : am_if .eq c 10 with
  | true =>
    refine am_wb2 rfl true hb1 rfl ?_
    refine am_wn 2 (pc1 := 23) (lv1 := [(0, .int c)]) (st1 := [.int 1]) (h1 := h) rfl ?_
    refine am_wr rfl rfl rfl ?_
    rw [show ed_ok c = true by simp [ed_ok, hb1]] at hQ
    exact hQ
  | false =>
    refine am_wb2 rfl false hb1 rfl ?_
    refine am_wn 2 (pc1 := 9) (lv1 := [(0, .int c)]) (st1 := [.int 32, .int c]) (h1 := h) rfl ?_
    cases hb2 : am_if .lt c 32 with
    | true =>
      refine am_wb2 rfl true hb2 rfl ?_
      refine am_wn 1 (pc1 := 23) (lv1 := [(0, .int c)]) (st1 := [.int 0]) (h1 := h) rfl ?_
      refine am_wr rfl rfl rfl ?_
      rw [show ed_ok c = false by simp [ed_ok, hb1, hb2]] at hQ
      exact hQ
    | false =>
      refine am_wb2 rfl false hb2 rfl ?_
      refine am_wn 2 (pc1 := 15) (lv1 := [(0, .int c)]) (st1 := [.int 126, .int c]) (h1 := h) rfl ?_
      cases hb3 : am_if .gt c 126 with
      | true =>
        refine am_wb2 rfl true hb3 rfl ?_
        refine am_wn 1 (pc1 := 23) (lv1 := [(0, .int c)]) (st1 := [.int 0]) (h1 := h) rfl ?_
        refine am_wr rfl rfl rfl ?_
        rw [show ed_ok c = false by simp [ed_ok, hb1, hb2, hb3]] at hQ
        exact hQ
      | false =>
        refine am_wb2 rfl false hb3 rfl ?_
        refine am_wn 2 (pc1 := 23) (lv1 := [(0, .int c)]) (st1 := [.int 1]) (h1 := h) rfl ?_
        refine am_wr rfl rfl rfl ?_
        rw [show ed_ok c = true by simp [ed_ok, hb1, hb2, hb3]] at hQ
        exact hQ
set_option maxRecDepth 100000 in
set_option maxHeartbeats 4000000 in
theorem ec_arl (xs : Option (List Int32)) (d : Nat) (h : List am_E) (Q : Option Value → List am_E → Prop) (e : Int64) : ∀ m, m ≤ 8 → Q (some (.int (bif ed_al e m then 1 else 0))) h → am_W (am_CX xs) (d + 1) 21 2 [(2, .int (nI (8 - m))), (0, .long e)] [] h Q := by
  intro m
  induction m with
  | zero =>
    intro _ hQ
    refine am_wn 4 (pc1 := 34) (lv1 := [(2, .int (nI 8)), (0, .long e)]) (st1 := [.int 1]) (h1 := h) rfl ?_
    refine am_wr rfl rfl rfl ?_
    exact hQ
  | succ m ih =>
    intro hm hQ
    have hm : m < 8 := hm
    refine am_wn 2 (pc1 := 5) (lv1 := [(2, .int (nI (8 - (m + 1)))), (0, .long e)]) (st1 := [.int 8, .int (nI (8 - (m + 1)))]) (h1 := h) rfl ?_
    refine am_wb2 rfl false (ed_ge m hm) rfl ?_
    refine am_wn 2 (pc1 := 10) (lv1 := [(2, .int (nI (8 - (m + 1)))), (0, .long e)]) (st1 := [.int (nI (8 - (m + 1))), .long e]) (h1 := h) rfl ?_
    refine am_wc rfl rfl rfl ?_
    refine ec_byte _ _ _ _ _ _ ?_
    rw [ed_sh m hm]
    show am_W _ _ 21 13 [(2, .int (nI (8 - (m + 1)))), (0, .long e)] [.int (ed_b e m)] h _
    refine am_wn 2 (pc1 := 15) (lv1 := [(3, .int (ed_b e m)), (2, .int (nI (8 - (m + 1)))), (0, .long e)]) (st1 := [.int (ed_b e m)]) (h1 := h) rfl ?_
    cases hb1 : am_if .eq (ed_b e m) 0 with
    | true =>
      refine am_wb1 rfl true hb1 rfl ?_
      refine am_wn 2 (pc1 := 2) (lv1 := [(2, .int ((nI (8 - (m + 1))) + 1)), (3, .int (ed_b e m)), (0, .long e)]) (st1 := []) (h1 := h) rfl ?_
      rw [show ed_al e (m + 1) = ed_al e m by simp [ed_al, hb1]] at hQ
      rw [ed_up m hm]
      exact am_wm (ih (Nat.le_of_lt hm) hQ) ⟨rfl, rfl, trivial⟩
    | false =>
      refine am_wb1 rfl false hb1 rfl ?_
      refine am_wn 1 (pc1 := 19) (lv1 := [(3, .int (ed_b e m)), (2, .int (nI (8 - (m + 1)))), (0, .long e)]) (st1 := [.int (ed_b e m)]) (h1 := h) rfl ?_
      refine am_wc rfl rfl rfl ?_
      refine ec_isx _ _ _ _ _ ?_
      show am_W _ _ 21 22 [(3, .int (ed_b e m)), (2, .int (nI (8 - (m + 1)))), (0, .long e)] [.int (bif ed_ok (ed_b e m) then 1 else 0)] h _
      cases hb2 : am_if .ne (bif ed_ok (ed_b e m) then 1 else 0) 0 with
      | true =>
        refine am_wb1 rfl true hb2 rfl ?_
        refine am_wn 2 (pc1 := 2) (lv1 := [(2, .int ((nI (8 - (m + 1))) + 1)), (3, .int (ed_b e m)), (0, .long e)]) (st1 := []) (h1 := h) rfl ?_
        rw [ed_ne] at hb2
        rw [show ed_al e (m + 1) = ed_al e m by simp [ed_al, hb1, hb2]] at hQ
        rw [ed_up m hm]
        exact am_wm (ih (Nat.le_of_lt hm) hQ) ⟨rfl, rfl, trivial⟩
      | false =>
        refine am_wb1 rfl false hb2 rfl ?_
        refine am_wn 1 (pc1 := 26) (lv1 := [(3, .int (ed_b e m)), (2, .int (nI (8 - (m + 1)))), (0, .long e)]) (st1 := [.int 0]) (h1 := h) rfl ?_
        refine am_wr rfl rfl rfl ?_
        rw [ed_ne] at hb2
        rw [show ed_al e (m + 1) = false by simp [ed_al, hb1, hb2]] at hQ
        exact hQ
set_option maxRecDepth 100000 in
set_option maxHeartbeats 4000000 in
theorem ec_ar (xs : Option (List Int32)) (d : Nat) (h : List am_E) (Q : Option Value → List am_E → Prop) (e : Int64) (hQ : Q (some (.int (bif ed_al e 8 then 1 else 0))) h) : am_W (am_CX xs) (d + 1) 21 0 [(0, .long e)] [] h Q := by
  refine am_wn 2 (pc1 := 2) (lv1 := [(2, .int 0), (0, .long e)]) (st1 := []) (h1 := h) rfl ?_
  exact ec_arl xs d h Q e 8 (Nat.le_refl 8) hQ
set_option maxRecDepth 100000 in
set_option maxHeartbeats 4000000 in
theorem ec_szl (xs : Option (List Int32)) (d : Nat) (h : List am_E) (Q : Option Value → List am_E → Prop) (e : Int64) : ∀ m, m ≤ 8 → ∀ a : Nat, Q (some (.int (nI (a + ed_n e m)))) h → am_W (am_CX xs) (d + 1) 20 4 [(3, .int (nI (8 - m))), (2, .int (nI a)), (0, .long e)] [] h Q := by
  intro m
  induction m with
  | zero =>
    intro _ a hQ
    refine am_wn 4 (pc1 := 28) (lv1 := [(3, .int (nI 8)), (2, .int (nI a)), (0, .long e)]) (st1 := [.int (nI a)]) (h1 := h) rfl ?_
    refine am_wr rfl rfl rfl ?_
    exact hQ
  | succ m ih =>
    intro hm a hQ
    have hm : m < 8 := hm
    refine am_wn 2 (pc1 := 7) (lv1 := [(3, .int (nI (8 - (m + 1)))), (2, .int (nI a)), (0, .long e)]) (st1 := [.int 8, .int (nI (8 - (m + 1)))]) (h1 := h) rfl ?_
    refine am_wb2 rfl false (ed_ge m hm) rfl ?_
    refine am_wn 2 (pc1 := 12) (lv1 := [(3, .int (nI (8 - (m + 1)))), (2, .int (nI a)), (0, .long e)]) (st1 := [.int (nI (8 - (m + 1))), .long e]) (h1 := h) rfl ?_
    refine am_wc rfl rfl rfl ?_
    refine ec_byte _ _ _ _ _ _ ?_
    rw [ed_sh m hm]
    show am_W _ _ 20 15 [(3, .int (nI (8 - (m + 1)))), (2, .int (nI a)), (0, .long e)] [.int (ed_b e m)] h _
    cases hb1 : am_if .eq (ed_b e m) 0 with
    | true =>
      refine am_wb1 rfl true hb1 rfl ?_
      refine am_wn 2 (pc1 := 4) (lv1 := [(3, .int ((nI (8 - (m + 1))) + 1)), (2, .int (nI a)), (0, .long e)]) (st1 := []) (h1 := h) rfl ?_
      rw [show a + ed_n e (m + 1) = a + ed_n e m by simp [ed_n, hb1]] at hQ
      rw [ed_up m hm]
      exact ih (Nat.le_of_lt hm) a hQ
    | false =>
      refine am_wb1 rfl false hb1 rfl ?_
      refine am_wn 3 (pc1 := 4) (lv1 := [(3, .int ((nI (8 - (m + 1))) + 1)), (2, .int ((nI a) + 1)), (0, .long e)]) (st1 := []) (h1 := h) rfl ?_
      rw [show a + ed_n e (m + 1) = (a + 1) + ed_n e m by simp [ed_n, hb1]; omega] at hQ
      rw [ed_up m hm, nI_1]
      exact ih (Nat.le_of_lt hm) (a + 1) hQ
set_option maxRecDepth 100000 in
set_option maxHeartbeats 4000000 in
theorem ec_sz (xs : Option (List Int32)) (d : Nat) (h : List am_E) (Q : Option Value → List am_E → Prop) (e : Int64) (hQ : Q (some (.int (nI (ed_n e 8)))) h) : am_W (am_CX xs) (d + 1) 20 0 [(0, .long e)] [] h Q := by
  refine am_wn 4 (pc1 := 4) (lv1 := [(3, .int 0), (2, .int 0), (0, .long e)]) (st1 := []) (h1 := h) rfl ?_
  exact ec_szl xs d h Q e 8 (Nat.le_refl 8) 0 (by rw [Nat.zero_add]; exact hQ)
