def oj_0 (f8 : Int32) : am_E := .inr (0, [.ref 3, .ref 5, .ref 10, .ref 13, .ref 17, .ref 26, .ref 27, .ref 28, .int f8])
def oj_1 (f1 : Int32) : am_E := .inr (1, [.ref 4, .int f1])
def oj_2 (f5 f6 f7 : Int32) : am_E := .inr (2, [.ref 3, .ref 6, .ref 7, .ref 8, .ref 9, .int f5, .int f6, .int f7])
def oj_3 (f2 : Int32) : am_E := .inr (3, [.ref 11, .ref 12, .int f2])
def oj_4 (f3 : Int32) : am_E := .inr (4, [.ref 14, .ref 15, .ref 16, .int f3])
def oj_5 (f8 : Int32) : am_E := .inr (5, [.ref 18, .ref 19, .ref 20, .ref 21, .ref 22, .ref 23, .ref 24, .ref 25, .int f8])
def oj_6 (f4 f5 f6 f7 f8 f9 f10 f11 f12 : Int32) : am_E := .inr (6, [.ref 5, .ref 13, .ref 17, .ref 10, .int f4, .int f5, .int f6, .int f7, .int f8, .int f9, .int f10, .int f11, .int f12])
def oj_7 (f3 f4 : Int32) : am_E := .inr (7, [.ref 3, .ref 13, .ref 17, .int f3, .int f4])
def oj_8 (f3 f4 : Int32) : am_E := .inr (8, [.ref 29, .ref 30, .ref 31, .int f3, .int f4])
def oj_9 (f0 f4 f5 f12 f13 f14 f17 f18 f19 f20 f23 f31 f33 f34 : Int32) : am_E := .inr (9, [.int f0, .ref 33, .ref 34, .ref 35, .int f4, .int f5, .ref 36, .ref 37, .ref 38, .ref 39, .ref 40, .ref 41, .int f12, .int f13, .int f14, .ref 42, .ref 43, .int f17, .int f18, .int f19, .int f20, .ref 44, .ref 45, .int f23, .ref 46, .ref 47, .ref 48, .ref 49, .ref 50, .ref 51, .ref 52, .int f31, .ref 53, .int f33, .int f34, .ref 54, .ref 55])
def HH (u0 u1 u2 u3 u4 u5 u6 u7 u8 u9 u10 u11 u12 u13 u14 u15 u16 u17 u18 u19 u20 u21 u22 u23 u24 u25 u26 u27 u28 u29 u30 u31 u32 u33 u34 u35 u36 u37 u38 u39 u40 u41 u42 u43 u44 u45 u46 u47 u48 u49 u50 u51 u52 u53 : am_E) : List am_E := [u0, u1, u2, u3, u4, u5, u6, u7, u8, u9, u10, u11, u12, u13, u14, u15, u16, u17, u18, u19, u20, u21, u22, u23, u24, u25, u26, u27, u28, u29, u30, u31, u32, u33, u34, u35, u36, u37, u38, u39, u40, u41, u42, u43, u44, u45, u46, u47, u48, u49, u50, u51, u52, u53]
/-! The characters that a long carries. -/
def ed_bs (e : Int64) : Nat → List Int32
  | 0 => []
  | m + 1 => (bif am_if .eq (ed_b e m) 0 then [] else [ed_b e m]) ++ ed_bs e m
theorem ed_bs_len (e : Int64) : ∀ m, (ed_bs e m).length = ed_n e m := by
  intro m
  induction m with
  | zero => rfl
  | succ m ih =>
    show ((bif am_if .eq (ed_b e m) 0 then [] else [ed_b e m]) ++ ed_bs e m).length = (bif am_if .eq (ed_b e m) 0 then 0 else 1) + ed_n e m
    rw [List.length_append, ih]
    cases am_if .eq (ed_b e m) 0 <;> rfl
/-- what a loop over the eight lays into an array from place q on -/
def ed_w (e : Int64) : Nat → Nat → List Int32 → List Int32
  | 0, _, l => l
  | m + 1, q, l => bif am_if .eq (ed_b e m) 0 then ed_w e m q l else ed_w e m (q + 1) (l.set q (ed_b e m))
theorem ed_w_len (e : Int64) : ∀ (m q : Nat) (l : List Int32), (ed_w e m q l).length = l.length := by
  intro m
  induction m with
  | zero => intro q l; rfl
  | succ m ih =>
    intro q l
    show (bif am_if .eq (ed_b e m) 0 then ed_w e m q l else ed_w e m (q + 1) (l.set q (ed_b e m))).length = l.length
    cases am_if .eq (ed_b e m) 0
    · show (ed_w e m (q + 1) (l.set q (ed_b e m))).length = l.length
      rw [ih, List.length_set]
    · exact ih q l
theorem ed_w_get (e : Int64) : ∀ (m q : Nat) (l : List Int32), q + ed_n e m ≤ l.length → ∀ j : Nat, (ed_w e m q l)[j]? = if q ≤ j ∧ j < q + ed_n e m then (ed_bs e m)[j - q]? else l[j]? := by
  intro m
  induction m with
  | zero =>
    intro q l _ j
    rw [if_neg (by show ¬ (q ≤ j ∧ j < q + 0); omega)]
    rfl
  | succ m ih =>
    intro q l hq j
    have hn : ed_n e (m + 1) = (bif am_if .eq (ed_b e m) 0 then 0 else 1) + ed_n e m := rfl
    have hw : ed_w e (m + 1) q l = (bif am_if .eq (ed_b e m) 0 then ed_w e m q l else ed_w e m (q + 1) (l.set q (ed_b e m))) := rfl
    have hb : ed_bs e (m + 1) = (bif am_if .eq (ed_b e m) 0 then [] else [ed_b e m]) ++ ed_bs e m := rfl
    rw [hn] at hq ⊢
    rw [hw, hb]
    cases hc : am_if .eq (ed_b e m) 0 with
    | true =>
      rw [hc] at hq
      simp only [cond_true, Nat.zero_add, List.nil_append] at hq ⊢
      exact ih q l hq j
    | false =>
      rw [hc] at hq
      simp only [cond_false] at hq ⊢
      rw [ih (q + 1) (l.set q (ed_b e m)) (by rw [List.length_set]; omega) j]
      by_cases hj : j = q
      · subst hj
        rw [if_neg (by omega), if_pos (by omega), List.getElem?_set_self (by omega), Nat.sub_self]
        rfl
      · by_cases h2 : q + 1 ≤ j ∧ j < q + 1 + ed_n e m
        · rw [if_pos h2, if_pos (by omega)]
          have e1 : j - q = (j - (q + 1)) + 1 := by omega
          rw [e1]
          rfl
        · rw [if_neg h2, if_neg (by omega), List.getElem?_set_ne (fun z => hj z.symm)]
theorem ed_b_lt (e : Int64) (m : Nat) : ∃ n, n < 256 ∧ ed_b e m = nI n := by
  obtain ⟨j, hj, h⟩ := pk_andE (Int64.toInt32 (((Int64.toUInt64 e) >>> ((Int32.toInt64 (nI (8 * m))).toUInt64 &&& Int64.toUInt64 63)).toInt64)) (m := 255) 8 (by decide +kernel)
  exact ⟨j, hj, h⟩
theorem ed_nar (e : Int64) (m : Nat) : vp_nar .char ((Int32.toUInt32 (ed_b e m)) % 65536).toInt32 = ed_b e m := by
  obtain ⟨n, hn, h⟩ := ed_b_lt e m
  rw [h]
  have hh : ∀ n, n < 256 → vp_nar .char ((Int32.toUInt32 (nI n)) % 65536).toInt32 = nI n := by decide +kernel
  exact hh n hn
theorem ed_fit (e : Int64) (m : Nat) : fits .char (.int (ed_b e m)) = true := by
  obtain ⟨n, hn, h⟩ := ed_b_lt e m
  rw [h]
  have hh : ∀ n, n < 256 → fits .char (.int (nI n)) = true := by decide +kernel
  exact hh n hn
theorem ed_bs_fit (e : Int64) : ∀ m, ∀ c ∈ ed_bs e m, fits .char (.int c) = true := by
  intro m
  induction m with
  | zero => intro c hc; cases hc
  | succ m ih =>
    intro c hc
    rcases List.mem_append.mp hc with h | h
    · cases hz : am_if .eq (ed_b e m) 0 with
      | true => rw [hz] at h; cases h
      | false =>
        rw [hz] at h
        rcases List.mem_singleton.mp h with rfl
        exact ed_fit e m
    · exact ih c h
theorem ed_bs_ok (e : Int64) : ∀ m, ed_al e m = true → ∀ c ∈ ed_bs e m, ed_ok c = true := by
  intro m
  induction m with
  | zero => intro _ c hc; cases hc
  | succ m ih =>
    intro ha c hc
    have ha : ((am_if .eq (ed_b e m) 0 || ed_ok (ed_b e m)) && ed_al e m) = true := ha
    rw [Bool.and_eq_true] at ha
    rcases List.mem_append.mp hc with h | h
    · cases hz : am_if .eq (ed_b e m) 0 with
      | true => rw [hz] at h; cases h
      | false =>
        rw [hz] at h
        rcases List.mem_singleton.mp h with rfl
        have h1 := ha.1
        rw [hz] at h1
        exact h1
    · exact ih ha.2 c h
/-! A text in an array: the first of its places. -/
def tx_in (t l : List Int32) : Prop := l.length = 200 ∧ t.length ≤ 200 ∧ ∀ i, i < t.length → l[i]? = t[i]?
def tx_new (t : List Int32) (a k : Nat) (e : Int64) : List Int32 := t.take a ++ (ed_bs e 8 ++ t.drop (a + k))
theorem tx_new_len {t : List Int32} {a k : Nat} {e : Int64} (h : a + k ≤ t.length) : (tx_new t a k e).length = t.length - k + ed_n e 8 := by
  unfold tx_new
  rw [List.length_append, List.length_append, List.length_take, List.length_drop, ed_bs_len]
  omega
theorem tx_new_get {t : List Int32} {a k : Nat} {e : Int64} (h : a + k ≤ t.length) (j : Nat) : (tx_new t a k e)[j]? = if j < a then t[j]? else if j < a + ed_n e 8 then (ed_bs e 8)[j - a]? else t[j - ed_n e 8 + k]? := by
  have l1 : (t.take a).length = a := by rw [List.length_take]; omega
  unfold tx_new
  by_cases h1 : j < a
  · rw [if_pos h1, List.getElem?_append_left (by rw [l1]; exact h1), List.getElem?_take_of_lt h1]
  · rw [if_neg h1, List.getElem?_append_right (by rw [l1]; omega), l1]
    by_cases h2 : j < a + ed_n e 8
    · rw [if_pos h2, List.getElem?_append_left (by rw [ed_bs_len]; omega)]
    · rw [if_neg h2, List.getElem?_append_right (by rw [ed_bs_len]; omega), ed_bs_len, List.getElem?_drop]
      congr 1
      omega
theorem tx_new_ok {t : List Int32} {a k : Nat} {e : Int64} (h : ∀ c ∈ t, ed_ok c = true) (ha : ed_al e 8 = true) : ∀ c ∈ tx_new t a k e, ed_ok c = true := by
  intro c hc
  rcases List.mem_append.mp hc with h1 | h1
  · exact h c (List.mem_of_mem_take h1)
  · rcases List.mem_append.mp h1 with h2 | h2
    · exact ed_bs_ok e 8 ha c h2
    · exact h c (List.mem_of_mem_drop h2)
/-- the class's replace -/
theorem tx_repx {t l : List Int32} {a k : Nat} {e : Int64} (ht : tx_in t l) (h : a + k ≤ t.length) (h2 : t.length - k + ed_n e 8 ≤ 200) : tx_in (tx_new t a k e) (ed_w e 8 a (am_cp l l (a + k) (a + ed_n e 8) (t.length - a - k))) := by
  obtain ⟨h3, h4, h5⟩ := ht
  have c1 : a + k + (t.length - a - k) ≤ l.length := by omega
  have c2 : a + ed_n e 8 + (t.length - a - k) ≤ l.length := by omega
  have hl := am_cp_len c1 c2
  refine ⟨by rw [ed_w_len, hl, h3], by rw [tx_new_len h]; exact h2, fun j hj => ?_⟩
  rw [tx_new_len h] at hj
  rw [ed_w_get e 8 a _ (by rw [hl]; omega), tx_new_get h, am_cp_get c1 c2]
  by_cases g1 : j < a
  · rw [if_neg (by omega), if_neg (by omega), if_pos g1]
    exact h5 j (by omega)
  · rw [if_neg g1]
    by_cases g2 : j < a + ed_n e 8
    · rw [if_pos (by omega), if_pos g2]
    · rw [if_neg (by omega), if_pos (by omega), if_neg g2]
      have e1 : a + k + (j - (a + ed_n e 8)) = j - ed_n e 8 + k := by omega
      rw [e1]
      exact h5 _ (by omega)
theorem tx_fit {l : List Int32} {a : Nat} {e : Int64} (hf : ∀ c ∈ l, fits .char (.int c) = true) : ∀ m (q : Nat) (l : List Int32), (∀ c ∈ l, fits .char (.int c) = true) → ∀ c ∈ ed_w e m q l, fits .char (.int c) = true := by
  intro m
  induction m with
  | zero => intro q l hl c hc; exact hl c hc
  | succ m ih =>
    intro q l hl
    show ∀ c ∈ (bif am_if .eq (ed_b e m) 0 then ed_w e m q l else ed_w e m (q + 1) (l.set q (ed_b e m))), fits .char (.int c) = true
    cases am_if .eq (ed_b e m) 0
    · refine ih (q + 1) _ (fun c hc => ?_)
      rcases List.mem_or_eq_of_mem_set hc with h | h
      · exact hl c h
      · rw [h]; exact ed_fit e m
    · exact ih q l hl
theorem tx_cpf {l : List Int32} {a b n : Nat} (hf : ∀ c ∈ l, fits .char (.int c) = true) : ∀ c ∈ am_cp l l a b n, fits .char (.int c) = true := by
  intro c hc
  rcases List.mem_append.mp hc with h | h
  · exact hf c (List.mem_of_mem_take h)
  · rcases List.mem_append.mp h with h | h
    · exact hf c (List.mem_of_mem_drop (List.mem_of_mem_take h))
    · exact hf c (List.mem_of_mem_drop h)
set_option maxRecDepth 100000 in
set_option maxHeartbeats 4000000 in
theorem wx_rpl (xs : Option (List Int32)) (d : Nat) {u0 u3 u4 u5 u6 u7 u8 u9 u10 u11 u12 u13 u14 u15 u16 u17 u18 u19 u20 u21 u22 u23 u24 u25 u26 u27 u28 u29 u30 u31 u32 u33 u34 u35 u36 u37 u38 u39 u40 u41 u42 u43 u44 u45 u46 u47 u48 u49 u50 u51 u52 u53 : am_E} (n cut put : Int32) (Q : Option Value → List am_E → Prop) (e : Int64) : ∀ m, m ≤ 8 → ∀ (q : Nat) (l : List Int32), q + ed_n e m ≤ 200 → l.length = 200 → Q none (HH u0 (oj_1 ((n - cut) + put)) (.inl (true, (ed_w e m q l))) u3 u4 u5 u6 u7 u8 u9 u10 u11 u12 u13 u14 u15 u16 u17 u18 u19 u20 u21 u22 u23 u24 u25 u26 u27 u28 u29 u30 u31 u32 u33 u34 u35 u36 u37 u38 u39 u40 u41 u42 u43 u44 u45 u46 u47 u48 u49 u50 u51 u52 u53) → am_W (am_CX xs) (d + 1) 86 38 [(7, .int (nI (8 - m))), (6, .int (nI q)), (5, .int put), (0, .ref 3), (2, .int cut), (3, .long e)] [] (HH u0 (oj_1 n) (.inl (true, l)) u3 u4 u5 u6 u7 u8 u9 u10 u11 u12 u13 u14 u15 u16 u17 u18 u19 u20 u21 u22 u23 u24 u25 u26 u27 u28 u29 u30 u31 u32 u33 u34 u35 u36 u37 u38 u39 u40 u41 u42 u43 u44 u45 u46 u47 u48 u49 u50 u51 u52 u53) Q := by
  intro m
  induction m with
  | zero =>
    intro _ q l _ hl hQ
    refine am_wh 2 (pc1 := 42) (lv1 := [(7, .int (nI 8)), (6, .int (nI q)), (5, .int put), (0, .ref 3), (2, .int cut), (3, .long e)]) (st1 := [.int 8, .int (nI 8)]) rfl ?_
    refine am_wb2 rfl true ((by decide +kernel : am_if .ge (nI 8) 8 = true)) rfl ?_
    refine am_wn 8 (pc1 := 98) (lv1 := [(7, .int (nI 8)), (6, .int (nI q)), (5, .int put), (0, .ref 3), (2, .int cut), (3, .long e)]) (st1 := []) (h1 := (HH u0 (oj_1 ((n - cut) + put)) (.inl (true, l)) u3 u4 u5 u6 u7 u8 u9 u10 u11 u12 u13 u14 u15 u16 u17 u18 u19 u20 u21 u22 u23 u24 u25 u26 u27 u28 u29 u30 u31 u32 u33 u34 u35 u36 u37 u38 u39 u40 u41 u42 u43 u44 u45 u46 u47 u48 u49 u50 u51 u52 u53)) rfl ?_
    refine am_wr rfl rfl rfl ?_
    exact hQ
  | succ m ih =>
    intro hm q l hq hl hQ
    have hm8 : m < 8 := hm
    refine am_wh 2 (pc1 := 42) (lv1 := [(7, .int (nI (8 - (m + 1)))), (6, .int (nI q)), (5, .int put), (0, .ref 3), (2, .int cut), (3, .long e)]) (st1 := [.int 8, .int (nI (8 - (m + 1)))]) rfl ?_
    refine am_wb2 rfl false (ed_ge m hm8) rfl ?_
    refine am_wh 2 (pc1 := 48) (lv1 := [(7, .int (nI (8 - (m + 1)))), (6, .int (nI q)), (5, .int put), (0, .ref 3), (2, .int cut), (3, .long e)]) (st1 := [.int (nI (8 - (m + 1))), .long e]) rfl ?_
    refine am_wc rfl rfl rfl ?_
    refine ec_byte _ _ _ _ _ _ ?_
    rw [ed_sh m hm8]
    show am_W _ _ 86 51 [(7, .int (nI (8 - (m + 1)))), (6, .int (nI q)), (5, .int put), (0, .ref 3), (2, .int cut), (3, .long e)] [.int (ed_b e m)] _ _
    refine am_wh 2 (pc1 := 55) (lv1 := [(8, .int (ed_b e m)), (7, .int (nI (8 - (m + 1)))), (6, .int (nI q)), (5, .int put), (0, .ref 3), (2, .int cut), (3, .long e)]) (st1 := [.int (ed_b e m)]) rfl ?_
    cases hb1 : am_if .eq (ed_b e m) 0 with
    | true =>
      have hw : ed_w e (m + 1) q l = ed_w e m q l := by show (bif am_if .eq (ed_b e m) 0 then _ else _) = _; rw [hb1]; rfl
      have hn : ed_n e (m + 1) = ed_n e m := by show (bif am_if .eq (ed_b e m) 0 then 0 else 1) + _ = _; rw [hb1]; exact Nat.zero_add _
      refine am_wb1 rfl true hb1 rfl ?_
      refine am_wh 2 (pc1 := 38) (lv1 := [(7, .int ((nI (8 - (m + 1))) + 1)), (8, .int (ed_b e m)), (6, .int (nI q)), (5, .int put), (0, .ref 3), (2, .int cut), (3, .long e)]) (st1 := []) rfl ?_
      rw [ed_up m hm8]
      exact am_wm (ih (Nat.le_of_lt hm8) q l (by omega) hl (by rw [hw] at hQ; exact hQ)) ⟨rfl, rfl, rfl, rfl, rfl, rfl, trivial⟩
    | false =>
      have hw : ed_w e (m + 1) q l = ed_w e m (q + 1) (l.set q (ed_b e m)) := by show (bif am_if .eq (ed_b e m) 0 then _ else _) = _; rw [hb1]; rfl
      have hn : ed_n e (m + 1) = 1 + ed_n e m := by show (bif am_if .eq (ed_b e m) 0 then 0 else 1) + _ = _; rw [hb1]; rfl
      refine am_wb1 rfl false hb1 rfl ?_
      refine am_wh 2 (pc1 := 63) (lv1 := [(8, .int (ed_b e m)), (7, .int (nI (8 - (m + 1)))), (6, .int (nI q)), (5, .int put), (0, .ref 3), (2, .int cut), (3, .long e)]) (st1 := [.int 200, .int (nI q)]) rfl ?_
      refine am_wb2 rfl false (ed_q (by omega)) rfl ?_
      refine am_wh 5 (pc1 := 75) (lv1 := [(8, .int (ed_b e m)), (7, .int (nI (8 - (m + 1)))), (6, .int (nI q)), (5, .int put), (0, .ref 3), (2, .int cut), (3, .long e)]) (st1 := [.int ((Int32.toUInt32 (ed_b e m)) % 65536).toInt32, .int (nI q), .ref 4]) rfl ?_
      refine am_wscE (i := q) (h1 := (HH u0 (oj_1 n) (.inl (true, (l.set q (ed_b e m)))) u3 u4 u5 u6 u7 u8 u9 u10 u11 u12 u13 u14 u15 u16 u17 u18 u19 u20 u21 u22 u23 u24 u25 u26 u27 u28 u29 u30 u31 u32 u33 u34 u35 u36 u37 u38 u39 u40 u41 u42 u43 u44 u45 u46 u47 u48 u49 u50 u51 u52 u53)) rfl rfl (rfl) (by omega) (by omega) (by rw [ed_nar]; rfl) ?_
      refine am_wh 3 (pc1 := 38) (lv1 := [(7, .int ((nI (8 - (m + 1))) + 1)), (6, .int ((nI q) + 1)), (8, .int (ed_b e m)), (5, .int put), (0, .ref 3), (2, .int cut), (3, .long e)]) (st1 := []) rfl ?_
      rw [ed_up m hm8, nI_1]
      exact am_wm (ih (Nat.le_of_lt hm8) (q + 1) _ (by omega) (by rw [List.length_set]; exact hl) (by rw [hw] at hQ; exact hQ)) ⟨rfl, rfl, rfl, rfl, rfl, rfl, trivial⟩
set_option maxRecDepth 100000 in
set_option maxHeartbeats 4000000 in
theorem wx_rep (xs : Option (List Int32)) (d : Nat) {u0 u3 u4 u5 u6 u7 u8 u9 u10 u11 u12 u13 u14 u15 u16 u17 u18 u19 u20 u21 u22 u23 u24 u25 u26 u27 u28 u29 u30 u31 u32 u33 u34 u35 u36 u37 u38 u39 u40 u41 u42 u43 u44 u45 u46 u47 u48 u49 u50 u51 u52 u53 : am_E} (n a k : Nat) (Q : Option Value → List am_E → Prop) (e : Int64) (l : List Int32) (hl : l.length = 200) (hf : ∀ c ∈ l, fits .char (.int c) = true) (h1 : a + k ≤ n) (h2 : n ≤ 200) (h3 : n - k + ed_n e 8 ≤ 200) (hQ : Q none (HH u0 (oj_1 (((nI n) - (nI k)) + (nI (ed_n e 8)))) (.inl (true, (ed_w e 8 a (am_cp l l (a + k) (a + ed_n e 8) (n - a - k))))) u3 u4 u5 u6 u7 u8 u9 u10 u11 u12 u13 u14 u15 u16 u17 u18 u19 u20 u21 u22 u23 u24 u25 u26 u27 u28 u29 u30 u31 u32 u33 u34 u35 u36 u37 u38 u39 u40 u41 u42 u43 u44 u45 u46 u47 u48 u49 u50 u51 u52 u53)) : am_W (am_CX xs) (d + 2) 86 0 [(0, .ref 3), (1, .int (nI a)), (2, .int (nI k)), (3, .long e)] [] (HH u0 (oj_1 (nI n)) (.inl (true, l)) u3 u4 u5 u6 u7 u8 u9 u10 u11 u12 u13 u14 u15 u16 u17 u18 u19 u20 u21 u22 u23 u24 u25 u26 u27 u28 u29 u30 u31 u32 u33 u34 u35 u36 u37 u38 u39 u40 u41 u42 u43 u44 u45 u46 u47 u48 u49 u50 u51 u52 u53) Q := by
  have hn8 : ed_n e 8 ≤ 8 := ed_n_le e 8
  refine am_wh 1 (pc1 := 1) (lv1 := [(0, .ref 3), (1, .int (nI a)), (2, .int (nI k)), (3, .long e)]) (st1 := [.long e]) rfl ?_
  refine am_wc rfl rfl rfl ?_
  refine ec_sz _ _ _ _ _ ?_
  show am_W _ _ 86 4 [(0, .ref 3), (1, .int (nI a)), (2, .int (nI k)), (3, .long e)] [.int (nI (ed_n e 8))] _ _
  refine am_wh 17 (pc1 := 29) (lv1 := [(5, .int (nI (ed_n e 8))), (0, .ref 3), (1, .int (nI a)), (2, .int (nI k)), (3, .long e)]) (st1 := [.int (((nI n) - (nI a)) - (nI k)), .int ((nI a) + (nI (ed_n e 8))), .ref 4, .int ((nI a) + (nI k)), .ref 4]) rfl ?_
  refine am_w0 (z := (32, [(5, .int (nI (ed_n e 8))), (0, .ref 3), (1, .int (nI a)), (2, .int (nI k)), (3, .long e)], [], (HH u0 (oj_1 (nI n)) (.inl (true, (am_cp l l (a + k) (a + ed_n e 8) (n - a - k)))) u3 u4 u5 u6 u7 u8 u9 u10 u11 u12 u13 u14 u15 u16 u17 u18 u19 u20 u21 u22 u23 u24 u25 u26 u27 u28 u29 u30 u31 u32 u33 u34 u35 u36 u37 u38 u39 u40 u41 u42 u43 u44 u45 u46 u47 u48 u49 u50 u51 u52 u53))) rfl rfl (show am_acp (d + 1 + 1) 29 [(5, .int (nI (ed_n e 8))), (0, .ref 3), (1, .int (nI a)), (2, .int (nI k)), (3, .long e)] [.int (((nI n) - (nI a)) - (nI k)), .int ((nI a) + (nI (ed_n e 8))), .ref 4, .int ((nI a) + (nI k)), .ref 4] (HH u0 (oj_1 (nI n)) (.inl (true, l)) u3 u4 u5 u6 u7 u8 u9 u10 u11 u12 u13 u14 u15 u16 u17 u18 u19 u20 u21 u22 u23 u24 u25 u26 u27 u28 u29 u30 u31 u32 u33 u34 u35 u36 u37 u38 u39 u40 u41 u42 u43 u44 u45 u46 u47 u48 u49 u50 u51 u52 u53) = some (32, [(5, .int (nI (ed_n e 8))), (0, .ref 3), (1, .int (nI a)), (2, .int (nI k)), (3, .long e)], [], (HH u0 (oj_1 (nI n)) (.inl (true, (am_cp l l (a + k) (a + ed_n e 8) (n - a - k)))) u3 u4 u5 u6 u7 u8 u9 u10 u11 u12 u13 u14 u15 u16 u17 u18 u19 u20 u21 u22 u23 u24 u25 u26 u27 u28 u29 u30 u31 u32 u33 u34 u35 u36 u37 u38 u39 u40 u41 u42 u43 u44 u45 u46 u47 u48 u49 u50 u51 u52 u53)) from am_acpG (j := 2) (k := 2) (a1 := a + k) (a2 := a + ed_n e 8) (a3 := n - a - k) (lo := l) (lq := l) rfl rfl (by omega) (by decide) (nI_add a k) (nI_add a _) (by rw [pk_sub (by omega), pk_sub (by omega)]) (by omega) (by omega) (by omega) hf rfl) ?_
  refine am_wh 4 (pc1 := 38) (lv1 := [(7, .int 0), (6, .int (nI a)), (5, .int (nI (ed_n e 8))), (0, .ref 3), (1, .int (nI a)), (2, .int (nI k)), (3, .long e)]) (st1 := []) rfl ?_
  exact am_wm (wx_rpl xs (d + 1) (nI n) (nI k) (nI (ed_n e 8)) Q e 8 (Nat.le_refl 8) a _ (by omega) (by rw [am_cp_len (by omega) (by omega)]; exact hl) hQ) ⟨rfl, rfl, rfl, rfl, rfl, rfl, trivial⟩
