def hm_f (a0 a1 a2 a30 a31 : am_E) : List am_E := [a0, a1, a2, .inr (2, [.ref 3, .ref 6, .ref 7, .ref 8, .ref 9, .int 0, .int 0, .int 0]), .inl (false, List.replicate 272 0), .inl (false, List.replicate 272 0), .inl (false, List.replicate 272 0), .inl (false, List.replicate 24 0), .inr (3, [.ref 11, .ref 12, .int 0]), .inl (false, List.replicate 204 0), .inl (false, List.replicate 204 0), .inr (4, [.ref 14, .ref 15, .ref 16, .int 0]), .inl (false, List.replicate 32 0), .inl (false, List.replicate 32 0), .inl (false, List.replicate 32 0), .inr (5, [.ref 18, .ref 19, .ref 20, .ref 21, .ref 22, .ref 23, .ref 24, .ref 25, .int 0]), .inl (false, List.replicate 100 0), .inl (false, List.replicate 100 0), .inl (false, List.replicate 100 0), .inl (false, List.replicate 100 0), .inl (false, List.replicate 100 0), .inl (false, List.replicate 100 0), .inl (false, List.replicate 100 0), .inl (false, List.replicate 100 0), .inr (6, [.ref 5, .ref 13, .ref 17, .ref 10, .int 0, .int 0, .int 0, .int 0, .int 0, .int 0, .int 0, .int 0, .int 0]), .inr (7, [.ref 3, .ref 13, .ref 17, .int 0, .int 0]), .inr (8, [.ref 29, .ref 30, .ref 31, .int 0, .int 0]), .inl (true, List.replicate 200 0), .inl (false, List.replicate 100 0), .inl (false, List.replicate 100 0), a30, a31, .inl (false, List.replicate 200 0), .inl (false, List.replicate 200 0), .inl (false, List.replicate 420 0), .inl (false, List.replicate 420 0), .inl (false, List.replicate 420 0), .inl (false, List.replicate 420 0), .inl (false, List.replicate 420 0), .inl (false, List.replicate 210 0), .inl (false, List.replicate 240 0), .inl (false, List.replicate 240 0), .inl (false, List.replicate 1000 0), .inl (false, List.replicate 1000 0), .inl (false, List.replicate 40 0), .inl (false, List.replicate 40 0), .inl (false, List.replicate 40 0), .inl (false, List.replicate 40 0), .inl (false, List.replicate 40 0), .inl (false, List.replicate 40 0), .inl (false, List.replicate 40 0), .inl (false, List.replicate 200 0), .inl (false, List.replicate 200 0), .inl (false, List.replicate 200 0)]
theorem hm_0 : hp_0 = hm_f (.inr (0, [.ref 3, .ref 5, .ref 10, .ref 13, .ref 17, .ref 26, .ref 27, .ref 28, .int 1])) (.inr (1, [.ref 4, .int 0])) (.inl (true, List.replicate 200 0)) (.inr (9, [.int 0, .ref 33, .ref 34, .ref 35, .int 1, .int 0, .ref 36, .ref 37, .ref 38, .ref 39, .ref 40, .ref 41, .int 0, .int 0, .int 0, .ref 42, .ref 43, .int 0, .int 0, .int 0, .int 0, .ref 44, .ref 45, .int 0, .ref 46, .ref 47, .ref 48, .ref 49, .ref 50, .ref 51, .ref 52, .int 0, .ref 53, .int 0, .int 0, .ref 54, .ref 55])) (.inl (false, List.replicate 200 0)) := rfl
theorem am_acp0 {d pc : Nat} {lv : am_V} {r : List Value} {h : List am_E} {dp sp : Int32} {j k : Nat} {lo lq : List Int32} (hj : h[j]? = some (.inl (true, lo))) (hk : h[k]? = some (.inl (true, lq))) (hd : 1 ≤ d) (h8 : am_ca r ≤ 8) (s1 : ¬ sp < 0) (s2 : ¬ dp < 0) (b1 : sp.toNatClampNeg ≤ lq.length) (b2 : dp.toNatClampNeg ≤ lo.length) : am_acp d pc lv (.int 0 :: .int dp :: .ref (j + 2) :: .int sp :: .ref (k + 2) :: r) h = some (pc + 3, lv, r, h) := by
  have e1 : am_ar h (j + 2) = some (true, lo) := by simp [am_ar, hj]
  have e2 : am_ar h (k + 2) = some (true, lq) := by simp [am_ar, hk]
  have z0 : (0 : Int32).toNatClampNeg = 0 := by decide +kernel
  have hc : am_acc d r (true, lo) (true, lq) sp dp 0 = true := by
    unfold am_acc
    simp [hd, h8, s1, s2, z0, b1, b2]
  unfold am_acp
  simp only [e1, e2]
  show (bif am_acc d r (true, lo) (true, lq) sp dp 0 then some (pc + 3, lv, r, h.set (j + 2 - 2) (.inl (true, am_cp lq lo sp.toNatClampNeg dp.toNatClampNeg (0 : Int32).toNatClampNeg))) else none) = _
  rw [hc, z0, cond_true]
  have e3 : am_cp lq lo sp.toNatClampNeg dp.toNatClampNeg 0 = lo := by simp [am_cp]
  rw [e3]
  have e4 : h.set (j + 2 - 2) (.inl (true, lo)) = h := by
    show h.set j (.inl (true, lo)) = h
    apply List.ext_getElem?
    intro i
    rw [List.getElem?_set]
    by_cases hi : j = i
    · subst hi
      have hl := (List.getElem?_eq_some_iff.mp hj).1
      rw [if_pos rfl, if_pos hl, hj]
    · rw [if_neg hi]
  rw [e4]
theorem ed_dp : ∀ n, n ≤ 8 → ¬ (0 + nI n) < 0 ∧ (0 + nI n).toNatClampNeg ≤ 200 := by
  intro n hn
  have h : ∀ n, n < 9 → ¬ (0 + nI n) < 0 ∧ (0 + nI n).toNatClampNeg ≤ 200 := by decide +kernel
  exact h n (by omega)
theorem ed_200 : ∀ n, n ≤ 8 → am_if .le (0 + nI n) 200 = true := by
  intro n hn
  have h : ∀ n, n < 9 → am_if .le (0 + nI n) 200 = true := by decide +kernel
  exact h n (by omega)
theorem ed_q {q : Nat} (h : q < 200) : am_if .ge (nI q) 200 = false := decide_eq_false (nI_ge (a := q) (b := 200) h (by decide))
theorem ed_pq {p q : Int32} (h1 : am_if .lt p 0 = false) (h2 : am_if .gt p 0 = false) (h3 : am_if .lt q 0 = false) (h4 : am_if .le q (0 - p) = true) : p = 0 ∧ q = 0 := by
  have g1 : ¬ p < 0 := of_decide_eq_false h1
  have g2 : ¬ 0 < p := of_decide_eq_false h2
  have g3 : ¬ q < 0 := of_decide_eq_false h3
  have g4 : q ≤ 0 - p := of_decide_eq_true h4
  have e : p = 0 := Int32.le_antisymm (Int32.not_lt.mp g2) (Int32.not_lt.mp g1)
  subst e
  have g5 : q ≤ 0 := g4
  exact ⟨rfl, Int32.le_antisymm g5 (Int32.not_lt.mp g3)⟩
theorem ed_pq2 {p q : Int32} (h1 : am_if .lt p 0 = false) (h2 : am_if .gt p 0 = false) (h3 : am_if .lt q 0 = false) (h4 : am_if .gt q (0 - p) = false) : p = 0 ∧ q = 0 := by
  refine ed_pq h1 h2 h3 ?_
  have g4 : ¬ 0 - p < q := of_decide_eq_false h4
  exact decide_eq_true (Int32.not_lt.mp g4)
def ed_k : Nat → Int32
  | 0 => -8
  | i + 1 => nI (8 * i)
theorem ed_kd : ∀ m, m < 8 → nI (8 * m) + (-8) = ed_k m := by decide +kernel
theorem ed_kp : ∀ m, m < 8 → am_if .lt (nI (8 * m)) 0 = false := by decide +kernel
set_option maxRecDepth 100000 in
set_option maxHeartbeats 4000000 in
theorem ec_rpl (xs : Option (List Int32)) (d n : Nat) (c0 mm tt : am_E) (Q : Option Value → List am_E → Prop) (e : Int64) (hQ : ∀ l2 : List Int32, l2.length = 200 → Q none (hm_f (c0) (.inr (1, [.ref 4, .int (0 + (nI n))])) (.inl (true, l2)) (mm) (tt))) : ∀ m, m ≤ 8 → ∀ (q : Nat) (l : List Int32), q + m ≤ 200 → l.length = 200 → am_W (am_CX xs) (d + 1) 86 38 [(7, .int (nI (8 - m))), (6, .int (nI q)), (5, .int (nI n)), (0, .ref 3), (2, .int 0), (3, .long e)] [] (hm_f (c0) (.inr (1, [.ref 4, .int 0])) (.inl (true, l)) (mm) (tt)) Q := by
  intro m
  induction m with
  | zero =>
    intro _ q l _ hl
    refine am_wn 2 (pc1 := 42) (lv1 := [(7, .int (nI 8)), (6, .int (nI q)), (5, .int (nI n)), (0, .ref 3), (2, .int 0), (3, .long e)]) (st1 := [.int 8, .int (nI 8)]) (h1 := (hm_f (c0) (.inr (1, [.ref 4, .int 0])) (.inl (true, l)) (mm) (tt))) rfl ?_
    refine am_wb2 rfl true ((by decide +kernel : am_if .ge (nI 8) 8 = true)) rfl ?_
    refine am_wn 8 (pc1 := 98) (lv1 := [(7, .int (nI 8)), (6, .int (nI q)), (5, .int (nI n)), (0, .ref 3), (2, .int 0), (3, .long e)]) (st1 := []) (h1 := (hm_f (c0) (.inr (1, [.ref 4, .int (0 + (nI n))])) (.inl (true, l)) (mm) (tt))) rfl ?_
    refine am_wr rfl rfl rfl ?_
    exact hQ l hl
  | succ m ih =>
    intro hm q l hq hl
    have hm8 : m < 8 := hm
    refine am_wn 2 (pc1 := 42) (lv1 := [(7, .int (nI (8 - (m + 1)))), (6, .int (nI q)), (5, .int (nI n)), (0, .ref 3), (2, .int 0), (3, .long e)]) (st1 := [.int 8, .int (nI (8 - (m + 1)))]) (h1 := (hm_f (c0) (.inr (1, [.ref 4, .int 0])) (.inl (true, l)) (mm) (tt))) rfl ?_
    refine am_wb2 rfl false (ed_ge m hm8) rfl ?_
    refine am_wn 2 (pc1 := 48) (lv1 := [(7, .int (nI (8 - (m + 1)))), (6, .int (nI q)), (5, .int (nI n)), (0, .ref 3), (2, .int 0), (3, .long e)]) (st1 := [.int (nI (8 - (m + 1))), .long e]) (h1 := (hm_f (c0) (.inr (1, [.ref 4, .int 0])) (.inl (true, l)) (mm) (tt))) rfl ?_
    refine am_wc rfl rfl rfl ?_
    refine ec_byte _ _ _ _ _ _ ?_
    rw [ed_sh m hm8]
    show am_W _ _ 86 51 [(7, .int (nI (8 - (m + 1)))), (6, .int (nI q)), (5, .int (nI n)), (0, .ref 3), (2, .int 0), (3, .long e)] [.int (ed_b e m)] (hm_f (c0) (.inr (1, [.ref 4, .int 0])) (.inl (true, l)) (mm) (tt)) _
    refine am_wn 2 (pc1 := 55) (lv1 := [(8, .int (ed_b e m)), (7, .int (nI (8 - (m + 1)))), (6, .int (nI q)), (5, .int (nI n)), (0, .ref 3), (2, .int 0), (3, .long e)]) (st1 := [.int (ed_b e m)]) (h1 := (hm_f (c0) (.inr (1, [.ref 4, .int 0])) (.inl (true, l)) (mm) (tt))) rfl ?_
    cases hb1 : am_if .eq (ed_b e m) 0 with
    | true =>
      refine am_wb1 rfl true hb1 rfl ?_
      refine am_wn 2 (pc1 := 38) (lv1 := [(7, .int ((nI (8 - (m + 1))) + 1)), (8, .int (ed_b e m)), (6, .int (nI q)), (5, .int (nI n)), (0, .ref 3), (2, .int 0), (3, .long e)]) (st1 := []) (h1 := (hm_f (c0) (.inr (1, [.ref 4, .int 0])) (.inl (true, l)) (mm) (tt))) rfl ?_
      rw [ed_up m hm8]
      exact am_wm (ih (Nat.le_of_lt hm8) q l (by omega) hl) ⟨rfl, rfl, rfl, rfl, rfl, rfl, trivial⟩
    | false =>
      refine am_wb1 rfl false hb1 rfl ?_
      refine am_wn 2 (pc1 := 63) (lv1 := [(8, .int (ed_b e m)), (7, .int (nI (8 - (m + 1)))), (6, .int (nI q)), (5, .int (nI n)), (0, .ref 3), (2, .int 0), (3, .long e)]) (st1 := [.int 200, .int (nI q)]) (h1 := (hm_f (c0) (.inr (1, [.ref 4, .int 0])) (.inl (true, l)) (mm) (tt))) rfl ?_
      refine am_wb2 rfl false (ed_q (by omega)) rfl ?_
      refine am_wn 5 (pc1 := 75) (lv1 := [(8, .int (ed_b e m)), (7, .int (nI (8 - (m + 1)))), (6, .int (nI q)), (5, .int (nI n)), (0, .ref 3), (2, .int 0), (3, .long e)]) (st1 := [.int ((Int32.toUInt32 (ed_b e m)) % 65536).toInt32, .int (nI q), .ref 4]) (h1 := (hm_f (c0) (.inr (1, [.ref 4, .int 0])) (.inl (true, l)) (mm) (tt))) rfl ?_
      refine am_wsc (h1 := (hm_f (c0) (.inr (1, [.ref 4, .int 0])) (.inl (true, (l.set (nI q).toNatClampNeg (vp_nar .char (((Int32.toUInt32 (ed_b e m)) % 65536).toInt32))))) (mm) (tt))) rfl rfl (nI_pos (by omega)) (by rw [nI_clamp (by omega)]; omega) rfl ?_
      refine am_wn 3 (pc1 := 38) (lv1 := [(7, .int ((nI (8 - (m + 1))) + 1)), (6, .int ((nI q) + 1)), (8, .int (ed_b e m)), (5, .int (nI n)), (0, .ref 3), (2, .int 0), (3, .long e)]) (st1 := []) (h1 := (hm_f (c0) (.inr (1, [.ref 4, .int 0])) (.inl (true, (l.set (nI q).toNatClampNeg (vp_nar .char (((Int32.toUInt32 (ed_b e m)) % 65536).toInt32))))) (mm) (tt))) rfl ?_
      rw [ed_up m hm8, nI_1]
      exact am_wm (ih (Nat.le_of_lt hm8) (q + 1) _ (by omega) (by rw [List.length_set]; exact hl)) ⟨rfl, rfl, rfl, rfl, rfl, rfl, trivial⟩
set_option maxRecDepth 100000 in
set_option maxHeartbeats 4000000 in
theorem ec_rep (xs : Option (List Int32)) (d : Nat) (c0 mm tt : am_E) (Q : Option Value → List am_E → Prop) (e : Int64) (l : List Int32) (hl : l.length = 200) (hQ : ∀ l2 : List Int32, l2.length = 200 → Q none (hm_f (c0) (.inr (1, [.ref 4, .int (0 + (nI (ed_n e 8)))])) (.inl (true, l2)) (mm) (tt))) : am_W (am_CX xs) (d + 2) 86 0 [(0, .ref 3), (1, .int 0), (2, .int 0), (3, .long e)] [] (hm_f (c0) (.inr (1, [.ref 4, .int 0])) (.inl (true, l)) (mm) (tt)) Q := by
  have hn8 : ed_n e 8 ≤ 8 := ed_n_le e 8
  refine am_wn 1 (pc1 := 1) (lv1 := [(0, .ref 3), (1, .int 0), (2, .int 0), (3, .long e)]) (st1 := [.long e]) (h1 := (hm_f (c0) (.inr (1, [.ref 4, .int 0])) (.inl (true, l)) (mm) (tt))) rfl ?_
  refine am_wc rfl rfl rfl ?_
  refine ec_sz _ _ _ _ _ ?_
  generalize hn : ed_n e 8 = n at hn8 hQ ⊢
  show am_W _ _ 86 4 [(0, .ref 3), (1, .int 0), (2, .int 0), (3, .long e)] [.int (nI n)] (hm_f (c0) (.inr (1, [.ref 4, .int 0])) (.inl (true, l)) (mm) (tt)) _
  refine am_wn 17 (pc1 := 29) (lv1 := [(5, .int (nI n)), (0, .ref 3), (1, .int 0), (2, .int 0), (3, .long e)]) (st1 := [.int 0, .int (0 + (nI n)), .ref 4, .int 0, .ref 4]) (h1 := (hm_f (c0) (.inr (1, [.ref 4, .int 0])) (.inl (true, l)) (mm) (tt))) rfl ?_
  refine am_w0 (z := (32, [(5, .int (nI n)), (0, .ref 3), (1, .int 0), (2, .int 0), (3, .long e)], [], (hm_f (c0) (.inr (1, [.ref 4, .int 0])) (.inl (true, l)) (mm) (tt)))) rfl rfl (show am_acp _ 29 [(5, .int (nI n)), (0, .ref 3), (1, .int 0), (2, .int 0), (3, .long e)] [.int 0, .int (0 + (nI n)), .ref 4, .int 0, .ref 4] (hm_f (c0) (.inr (1, [.ref 4, .int 0])) (.inl (true, l)) (mm) (tt)) = some (32, [(5, .int (nI n)), (0, .ref 3), (1, .int 0), (2, .int 0), (3, .long e)], [], (hm_f (c0) (.inr (1, [.ref 4, .int 0])) (.inl (true, l)) (mm) (tt))) from am_acp0  (j := 2) (k := 2) (lo := l) (lq := l) rfl rfl (by omega) (by decide) (by decide) (ed_dp n hn8).1 (by rw [hl]; decide) (by rw [hl]; exact (ed_dp n hn8).2)) ?_
  refine am_wn 4 (pc1 := 38) (lv1 := [(7, .int 0), (6, .int 0), (5, .int (nI n)), (0, .ref 3), (1, .int 0), (2, .int 0), (3, .long e)]) (st1 := []) (h1 := (hm_f (c0) (.inr (1, [.ref 4, .int 0])) (.inl (true, l)) (mm) (tt))) rfl ?_
  exact am_wm (ec_rpl xs (d + 1) n c0 mm tt Q e hQ 8 (Nat.le_refl 8) 0 l (by omega) hl) ⟨rfl, rfl, rfl, rfl, rfl, rfl, trivial⟩
set_option maxRecDepth 100000 in
set_option maxHeartbeats 4000000 in
theorem ec_edn (xs : Option (List Int32)) (d : Nat) (p q : Int32) (e : Int64) (Q : Option Value → List am_E → Prop) (hpq : ¬ (p = 0 ∧ q = 0)) (hQ : Q (some (.int (-1))) hp_0) : am_W (am_CX xs) d 109 0 [(0, .ref 2), (1, .int p), (2, .int q), (3, .long e)] [] hp_0 Q := by
  refine am_wn 1 (pc1 := 1) (lv1 := [(0, .ref 2), (1, .int p), (2, .int q), (3, .long e)]) (st1 := [.int p]) (h1 := hp_0) rfl ?_
  cases hb1 : am_if .lt p 0 with
  | true =>
    refine am_wb1 rfl true hb1 rfl ?_
    refine am_wn 1 (pc1 := 33) (lv1 := [(0, .ref 2), (1, .int p), (2, .int q), (3, .long e)]) (st1 := [.int (-1)]) (h1 := hp_0) rfl ?_
    refine am_wr rfl rfl rfl ?_
    exact hQ
  | false =>
    refine am_wb1 rfl false hb1 rfl ?_
    refine am_wn 4 (pc1 := 12) (lv1 := [(0, .ref 2), (1, .int p), (2, .int q), (3, .long e)]) (st1 := [.int 0, .int p]) (h1 := hp_0) rfl ?_
    cases hb2 : am_if .gt p 0 with
    | true =>
      refine am_wb2 rfl true hb2 rfl ?_
      refine am_wn 1 (pc1 := 33) (lv1 := [(0, .ref 2), (1, .int p), (2, .int q), (3, .long e)]) (st1 := [.int (-1)]) (h1 := hp_0) rfl ?_
      refine am_wr rfl rfl rfl ?_
      exact hQ
    | false =>
      refine am_wb2 rfl false hb2 rfl ?_
      refine am_wn 1 (pc1 := 16) (lv1 := [(0, .ref 2), (1, .int p), (2, .int q), (3, .long e)]) (st1 := [.int q]) (h1 := hp_0) rfl ?_
      cases hb3 : am_if .lt q 0 with
      | true =>
        refine am_wb1 rfl true hb3 rfl ?_
        refine am_wn 1 (pc1 := 33) (lv1 := [(0, .ref 2), (1, .int p), (2, .int q), (3, .long e)]) (st1 := [.int (-1)]) (h1 := hp_0) rfl ?_
        refine am_wr rfl rfl rfl ?_
        exact hQ
      | false =>
        refine am_wb1 rfl false hb3 rfl ?_
        refine am_wn 6 (pc1 := 29) (lv1 := [(0, .ref 2), (1, .int p), (2, .int q), (3, .long e)]) (st1 := [.int (0 - p), .int q]) (h1 := hp_0) rfl ?_
        cases hb4 : am_if .le q (0 - p) with
        | true =>
          refine am_wb2 rfl true hb4 rfl ?_
          exact absurd (ed_pq hb1 hb2 hb3 hb4) hpq
        | false =>
          refine am_wb2 rfl false hb4 rfl ?_
          refine am_wn 1 (pc1 := 33) (lv1 := [(0, .ref 2), (1, .int p), (2, .int q), (3, .long e)]) (st1 := [.int (-1)]) (h1 := hp_0) rfl ?_
          refine am_wr rfl rfl rfl ?_
          exact hQ
set_option maxRecDepth 100000 in
set_option maxHeartbeats 4000000 in
theorem ec_edy (xs : Option (List Int32)) (d : Nat) (e : Int64) (mm tt : am_E) (l : List Int32) (hl : l.length = 200) (Q : Option Value → List am_E → Prop) (hQ0 : ed_al e 8 = false → Q (some (.int (-1))) (hm_f (.inr (0, [.ref 3, .ref 5, .ref 10, .ref 13, .ref 17, .ref 26, .ref 27, .ref 28, .int 1])) (.inr (1, [.ref 4, .int 0])) (.inl (true, l)) (mm) (tt))) (hQ : ed_al e 8 = true → ∀ l2 : List Int32, l2.length = 200 → Q (some (.int (0 + nI (ed_n e 8)))) (hm_f (.inr (0, [.ref 3, .ref 5, .ref 10, .ref 13, .ref 17, .ref 26, .ref 27, .ref 28, .int 1])) (.inr (1, [.ref 4, .int (0 + (nI (ed_n e 8)))])) (.inl (true, l2)) (mm) (tt))) : am_W (am_CX xs) (d + 3) 109 0 [(0, .ref 2), (1, .int 0), (2, .int 0), (3, .long e)] [] (hm_f (.inr (0, [.ref 3, .ref 5, .ref 10, .ref 13, .ref 17, .ref 26, .ref 27, .ref 28, .int 1])) (.inr (1, [.ref 4, .int 0])) (.inl (true, l)) (mm) (tt)) Q := by
  have hn8 : ed_n e 8 ≤ 8 := ed_n_le e 8
  refine am_wn 17 (pc1 := 35) (lv1 := [(0, .ref 2), (1, .int 0), (2, .int 0), (3, .long e)]) (st1 := [.long e]) (h1 := (hm_f (.inr (0, [.ref 3, .ref 5, .ref 10, .ref 13, .ref 17, .ref 26, .ref 27, .ref 28, .int 1])) (.inr (1, [.ref 4, .int 0])) (.inl (true, l)) (mm) (tt))) rfl ?_
  refine am_wc rfl rfl rfl ?_
  refine ec_ar _ _ _ _ _ ?_
  show am_W _ _ 109 38 [(0, .ref 2), (1, .int 0), (2, .int 0), (3, .long e)] [.int (bif ed_al e 8 then 1 else 0)] (hm_f (.inr (0, [.ref 3, .ref 5, .ref 10, .ref 13, .ref 17, .ref 26, .ref 27, .ref 28, .int 1])) (.inr (1, [.ref 4, .int 0])) (.inl (true, l)) (mm) (tt)) _
  cases hb1 : am_if .ne (bif ed_al e 8 then 1 else 0) 0 with
  | true =>
    refine am_wb1 rfl true hb1 rfl ?_
    refine am_wn 6 (pc1 := 53) (lv1 := [(0, .ref 2), (1, .int 0), (2, .int 0), (3, .long e)]) (st1 := [.long e, .int 0]) (h1 := (hm_f (.inr (0, [.ref 3, .ref 5, .ref 10, .ref 13, .ref 17, .ref 26, .ref 27, .ref 28, .int 1])) (.inr (1, [.ref 4, .int 0])) (.inl (true, l)) (mm) (tt))) rfl ?_
    refine am_wc rfl rfl rfl ?_
    refine ec_sz _ _ _ _ _ ?_
    generalize hn : ed_n e 8 = n at hn8 hQ ⊢
    show am_W _ _ 109 56 [(0, .ref 2), (1, .int 0), (2, .int 0), (3, .long e)] [.int (nI n), .int 0] (hm_f (.inr (0, [.ref 3, .ref 5, .ref 10, .ref 13, .ref 17, .ref 26, .ref 27, .ref 28, .int 1])) (.inr (1, [.ref 4, .int 0])) (.inl (true, l)) (mm) (tt)) _
    refine am_wn 2 (pc1 := 60) (lv1 := [(0, .ref 2), (1, .int 0), (2, .int 0), (3, .long e)]) (st1 := [.int 200, .int (0 + (nI n))]) (h1 := (hm_f (.inr (0, [.ref 3, .ref 5, .ref 10, .ref 13, .ref 17, .ref 26, .ref 27, .ref 28, .int 1])) (.inr (1, [.ref 4, .int 0])) (.inl (true, l)) (mm) (tt))) rfl ?_
    refine am_wb2 rfl true (ed_200 n hn8) rfl ?_
    refine am_wn 5 (pc1 := 73) (lv1 := [(0, .ref 2), (1, .int 0), (2, .int 0), (3, .long e)]) (st1 := [.long e, .int 0, .int 0, .ref 3]) (h1 := (hm_f (.inr (0, [.ref 3, .ref 5, .ref 10, .ref 13, .ref 17, .ref 26, .ref 27, .ref 28, .int 1])) (.inr (1, [.ref 4, .int 0])) (.inl (true, l)) (mm) (tt))) rfl ?_
    refine am_wc rfl rfl rfl ?_
    refine ec_rep _ _ _ _ _ _ _ l hl (fun l2 hl2 => ?_)
    rw [hn]
    show am_W _ _ 109 76 [(0, .ref 2), (1, .int 0), (2, .int 0), (3, .long e)] [] (hm_f (.inr (0, [.ref 3, .ref 5, .ref 10, .ref 13, .ref 17, .ref 26, .ref 27, .ref 28, .int 1])) (.inr (1, [.ref 4, .int (0 + (nI n))])) (.inl (true, l2)) (mm) (tt)) _
    refine am_wn 6 (pc1 := 88) (lv1 := [(0, .ref 2), (1, .int 0), (2, .int 0), (3, .long e)]) (st1 := [.int (0 + (nI n))]) (h1 := (hm_f (.inr (0, [.ref 3, .ref 5, .ref 10, .ref 13, .ref 17, .ref 26, .ref 27, .ref 28, .int 1])) (.inr (1, [.ref 4, .int (0 + (nI n))])) (.inl (true, l2)) (mm) (tt))) rfl ?_
    refine am_wr rfl rfl rfl ?_
    rw [ed_ne] at hb1
    exact hQ hb1 l2 hl2
  | false =>
    refine am_wb1 rfl false hb1 rfl ?_
    refine am_wn 1 (pc1 := 42) (lv1 := [(0, .ref 2), (1, .int 0), (2, .int 0), (3, .long e)]) (st1 := [.int (-1)]) (h1 := (hm_f (.inr (0, [.ref 3, .ref 5, .ref 10, .ref 13, .ref 17, .ref 26, .ref 27, .ref 28, .int 1])) (.inr (1, [.ref 4, .int 0])) (.inl (true, l)) (mm) (tt))) rfl ?_
    refine am_wr rfl rfl rfl ?_
    rw [ed_ne] at hb1
    exact hQ0 hb1
