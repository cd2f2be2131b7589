/-! The law. -/
theorem sc_g {xs : List Int32} {i k : Nat} {v : Int32} (hv : v = nI (i + k)) (h : i + k < xs.length) (hL : xs.length ≤ 2560) : ¬ v < 0 ∧ xs[v.toNatClampNeg]? = some (xs.getD (i + k) 0) := by
  subst hv
  refine ⟨fun hlt => ?_, am_gd h (by omega)⟩
  have h1 := Int32.lt_iff_toInt_lt.mp hlt
  rw [ti_nI (by omega)] at h1
  have h2 : ((0 : Int32)).toInt = 0 := by decide
  omega
section LF
variable {F A : List Nat} {t : List Int32} {s s1 : zS}
theorem mJ_F (z : zE F A s s1) (hf : ∀ k ∈ [21, 22, 23, 28, 29, 30, 31, 32, 33, 34], F.contains k = false) (ha : ∀ k ∈ [31, 34, 35, 36, 37, 38, 39, 40, 41, 42, 43, 44, 45, 46, 47, 48, 49, 50, 51], A.contains k = false) (h : mJ t s) : mJ t s1 := by
  obtain ⟨h1, h2, h3⟩ := h
  refine ⟨tM_E z (hf 21 (by decide)) (ha 31 (by decide)) h1, mK_E z (fun k hk => ha k (List.mem_cons_of_mem _ hk)) h2, fun h0 => ?_⟩
  have h' : (s.1 22).toInt = 0 := by rw [← z.1 22 (hf 22 (by decide))]; exact h0
  obtain ⟨f1, f2, f3⟩ := h3 h'
  refine ⟨mkR_E z (hf 23 (by decide)) (ha 34 (by decide)) (ha 35 (by decide)) (ha 36 (by decide)) (ha 37 (by decide)) f1, fun e2 hr => ?_, fun st2 o2 hr => ?_⟩
  · rw [z.1 28 (hf 28 (by decide)), z.1 29 (hf 29 (by decide))]; exact f2 e2 hr
  · obtain ⟨g1, g2, g3, g4⟩ := f3 st2 o2 hr
    refine ⟨by rw [z.1 28 (hf 28 (by decide))]; exact g1, eR_E z (hf 30 (by decide)) (ha 42 (by decide)) (ha 43 (by decide)) g2, nR_F z (fun k hk => hf k ?_) (fun k hk => ha k ?_) g3, by unfold eE; rw [z.1 33 (hf 33 (by decide)), z.1 34 (hf 34 (by decide))]; exact g4⟩
    · revert k; decide
    · revert k; decide
theorem mQ_F (z : zE F A s s1) (hf : ∀ k ∈ [21, 22, 23, 28, 29, 30, 31, 32, 33, 34], F.contains k = false) (ha : ∀ k ∈ [31, 34, 35, 36, 37, 38, 39, 40, 41, 42, 43, 44, 45, 46, 47, 48, 49, 50, 51], A.contains k = false) (hb : ∀ k ∈ [32, 33, 52, 53], A.contains k = false) (h : mQ t s) : mQ t s1 := by
  obtain ⟨h1, h2, h3, h4, h5⟩ := h
  exact ⟨mJ_F z hf ha h1, by rw [z.2 32 (hb 32 (by decide))]; exact h2, by rw [z.2 33 (hb 33 (by decide))]; exact h3, by rw [z.2 52 (hb 52 (by decide))]; exact h4, by rw [z.2 53 (hb 53 (by decide))]; exact h5⟩
theorem bnR_F {T : List lxT} {L : List pSc} {C : List pOc} (z : zE F A s s1) (hf : ∀ k ∈ cEF2, F.contains k = false) (ha : ∀ k ∈ cEA2, A.contains k = false) (h : bnR t T L C s) : bnR t T L C s1 := by
  obtain ⟨⟨b1, b2, ⟨o1, o2, o3, o4, o5, o6⟩, b4, b5, b6⟩, ⟨S, c1, c2⟩, d1, d2⟩ := h
  refine ⟨⟨tX_E z (hf 1 (by decide)) (ha 2 (by decide)) b1, sR_E z (hf 6 (by decide)) (ha 12 (by decide)) (ha 13 (by decide)) (ha 14 (by decide)) b2, ⟨by rw [z.1 7 (hf 7 (by decide))]; exact o1, by rw [z.2 16 (ha 16 (by decide))]; exact o2, by rw [z.2 17 (ha 17 (by decide))]; exact o3, by rw [z.2 18 (ha 18 (by decide))]; exact o4, by rw [z.2 19 (ha 19 (by decide))]; exact o5, by rw [z.2 20 (ha 20 (by decide))]; exact o6⟩, by rw [z.2 21 (ha 21 (by decide))]; exact b4, by rw [z.2 22 (ha 22 (by decide))]; exact b5, by rw [z.2 23 (ha 23 (by decide))]; exact b6⟩, ⟨S, by rw [z.2 21 (ha 21 (by decide))]; exact c1, c2⟩, ?_, fun h0 => ?_⟩
  · unfold beR; rw [z.1 17 (hf 17 (by decide)), z.1 18 (hf 18 (by decide))]; exact d1
  · rw [z.2 23 (ha 23 (by decide)), z.2 22 (ha 22 (by decide))]; exact d2 h0
theorem cQ_F (z : zE F A s s1) (hf : ∀ k ∈ cEF2, F.contains k = false) (ha : ∀ k ∈ cEA2, A.contains k = false) (h : cQ t s) : cQ t s1 := by
  obtain ⟨h1, ⟨i1, i2, i3⟩, h3, h4, h5, h6, h7⟩ := h
  refine ⟨h1, ⟨tX_E z (hf 1 (by decide)) (ha 2 (by decide)) i1, cK_E z (fun k hk => hf k ?_) (fun k hk => ha k ?_) i2, fun h0 => ?_⟩, by rw [z.2 2 (ha 2 (by decide))]; exact h3, by rw [z.2 27 (ha 27 (by decide))]; exact h4, by rw [z.2 27 (ha 27 (by decide))]; exact h5, by rw [z.2 28 (ha 28 (by decide))]; exact h6, by rw [z.2 29 (ha 29 (by decide))]; exact h7⟩
  · revert k; decide
  · revert k; decide
  · have h' : (s.1 0).toInt = 0 := by rw [← z.1 0 (hf 0 (by decide))]; exact h0
    obtain ⟨f1, f2, f3⟩ := i3 h'
    refine ⟨tkR_E z (hf 2 (by decide)) (ha 4 (by decide)) (ha 5 (by decide)) (ha 6 (by decide)) f1, fun e2 hr => ?_, fun st2 o2 hr => ?_⟩
    · rw [z.1 14 (hf 14 (by decide)), z.1 15 (hf 15 (by decide))]; exact f2 e2 hr
    · obtain ⟨g1, g2, g3⟩ := f3 st2 o2 hr
      exact ⟨by rw [z.1 14 (hf 14 (by decide))]; exact g1, xR_E z (hf 5 (by decide)) (ha 9 (by decide)) (ha 10 (by decide)) g2, bnR_F z hf ha g3⟩
end LF
section LE
variable (xs : List Int32) (d : Nat) {s : zS}
theorem ln_5 (hL : xs.length ≤ 2560) : (Int32.ofNat xs.length - 5).toInt = (xs.length : Int) - 5 := by
  have e : (Int32.ofNat xs.length).toInt = (xs.length : Int) := ti_nI (by omega)
  have e5 : ((5 : Int32)).toInt = 5 := by decide
  rw [ti_sub (by rw [e, e5]; exact ⟨by omega, by omega⟩), e, e5]
set_option maxRecDepth 100000 in
theorem lw_end (hL : xs.length ≤ 2560) {i : Nat} (hc : ¬ i + 5 ≤ xs.length) (hi : i ≤ 2565) : zWi (some xs) (d + 1) 0 18 [(0, .ref 0), (1, .ref 2), (2, .ref 32), (3, .int (nI i))] s (fun v _ => v = 1) := by
  unfold zWi
  refine am_wh 2 (pc1 := 20) (lv1 := [(0, .ref 0), (1, .ref 2), (2, .ref 32), (3, .int (nI i))]) (st1 := [.ref 0, .int (nI i)]) rfl ?_
  refine am_wal (v := Int32.ofNat xs.length) rfl rfl rfl ?_
  refine am_wh 2 (pc1 := 23) (lv1 := [(0, .ref 0), (1, .ref 2), (2, .ref 32), (3, .int (nI i))]) (st1 := [.int (Int32.ofNat xs.length - 5), .int (nI i)]) rfl ?_
  refine am_wb2 rfl true (zt_gt (zi_e (ti_nI (by omega))) (zi_e (ln_5 xs hL)) ⟨by omega, by omega⟩ ⟨by omega, by omega⟩ (by omega)) rfl ?_
  refine am_wh 1 (pc1 := 537) (lv1 := [(0, .ref 0), (1, .ref 2), (2, .ref 32), (3, .int (nI i))]) (st1 := [.int 1]) rfl ?_
  refine am_wr rfl rfl rfl ?_
  exact ⟨1, s, rfl, rfl, rfl⟩
set_option maxRecDepth 100000 in
theorem lw_next (hL : xs.length ≤ 2560) {i : Nat} (hc : i + 5 ≤ xs.length) {Q : Int32 → zS → Prop} (h : zWi (some xs) (d + 1) 0 26 [(0, .ref 0), (1, .ref 2), (2, .ref 32), (3, .int (nI i))] s Q) : zWi (some xs) (d + 1) 0 18 [(0, .ref 0), (1, .ref 2), (2, .ref 32), (3, .int (nI i))] s Q := by
  unfold zWi
  refine am_wh 2 (pc1 := 20) (lv1 := [(0, .ref 0), (1, .ref 2), (2, .ref 32), (3, .int (nI i))]) (st1 := [.ref 0, .int (nI i)]) rfl ?_
  refine am_wal (v := Int32.ofNat xs.length) rfl rfl rfl ?_
  refine am_wh 2 (pc1 := 23) (lv1 := [(0, .ref 0), (1, .ref 2), (2, .ref 32), (3, .int (nI i))]) (st1 := [.int (Int32.ofNat xs.length - 5), .int (nI i)]) rfl ?_
  refine am_wb2 rfl false (zn_gt (zi_e (ti_nI (by omega))) (zi_e (ln_5 xs hL)) ⟨by omega, by omega⟩ ⟨by omega, by omega⟩ (by omega)) rfl ?_
  exact h
end LE
set_option maxRecDepth 100000 in
theorem lwb_0 (xs : List Int32) (d i : Nat) (s : zS) (hi : i + 5 ≤ xs.length) (hL : xs.length ≤ 2560) (Q : Int32 → zS → Prop) (h : zWi (some xs) d 109 0 [(0, .ref 2), (1, .int (xs.getD (i + 1) 0)), (2, .int (xs.getD (i + 2) 0)), (3, .long (((Int32.toInt64 (xs.getD (i + 3) 0)) <<< (Int32.toInt64 32 &&& 63)) ||| ((Int32.toInt64 (xs.getD (i + 4) 0)) &&& 4294967295)))] s (fun v s1 => zWi (some xs) d 132 0 [(0, .ref 32), (1, .int (xs.getD (i + 1) 0)), (2, .int (xs.getD (i + 2) 0)), (3, .long (((Int32.toInt64 (xs.getD (i + 3) 0)) <<< (Int32.toInt64 32 &&& 63)) ||| ((Int32.toInt64 (xs.getD (i + 4) 0)) &&& 4294967295)))] s1 (fun w s2 => v = w ∧ zWi (some xs) (d + 1) 0 18 [(0, .ref 0), (1, .ref 2), (2, .ref 32), (3, .int (nI i + 5))] s2 Q))) : zWi (some xs) (d + 1) 0 112 [(0, .ref 0), (1, .ref 2), (2, .ref 32), (3, .int (nI i))] s Q := by
  unfold zWi
  refine am_wh 5 (pc1 := 117) (lv1 := [(0, .ref 0), (1, .ref 2), (2, .ref 32), (3, .int (nI i))]) (st1 := [.int (nI i + 1), .ref 0, .ref 2]) rfl ?_
  refine am_wls rfl rfl (sc_g (nI_add i 1) (by omega) hL).1 (sc_g (nI_add i 1) (by omega) hL).2 ?_
  refine am_wh 4 (pc1 := 122) (lv1 := [(0, .ref 0), (1, .ref 2), (2, .ref 32), (3, .int (nI i))]) (st1 := [.int (nI i + 2), .ref 0, .int (xs.getD (i + 1) 0), .ref 2]) rfl ?_
  refine am_wls rfl rfl (sc_g (nI_add i 2) (by omega) hL).1 (sc_g (nI_add i 2) (by omega) hL).2 ?_
  refine am_wh 4 (pc1 := 127) (lv1 := [(0, .ref 0), (1, .ref 2), (2, .ref 32), (3, .int (nI i))]) (st1 := [.int (nI i + 3), .ref 0, .int (xs.getD (i + 2) 0), .int (xs.getD (i + 1) 0), .ref 2]) rfl ?_
  refine am_wls rfl rfl (sc_g (nI_add i 3) (by omega) hL).1 (sc_g (nI_add i 3) (by omega) hL).2 ?_
  refine am_wh 7 (pc1 := 136) (lv1 := [(0, .ref 0), (1, .ref 2), (2, .ref 32), (3, .int (nI i))]) (st1 := [.int (nI i + 4), .ref 0, .long ((Int32.toInt64 (xs.getD (i + 3) 0)) <<< (Int32.toInt64 32 &&& 63)), .int (xs.getD (i + 2) 0), .int (xs.getD (i + 1) 0), .ref 2]) rfl ?_
  refine am_wls rfl rfl (sc_g (nI_add i 4) (by omega) hL).1 (sc_g (nI_add i 4) (by omega) hL).2 ?_
  refine am_wh 4 (pc1 := 143) (lv1 := [(0, .ref 0), (1, .ref 2), (2, .ref 32), (3, .int (nI i))]) (st1 := [.long (((Int32.toInt64 (xs.getD (i + 3) 0)) <<< (Int32.toInt64 32 &&& 63)) ||| ((Int32.toInt64 (xs.getD (i + 4) 0)) &&& 4294967295)), .int (xs.getD (i + 2) 0), .int (xs.getD (i + 1) 0), .ref 2]) rfl ?_
  refine am_wc rfl rfl rfl ?_
  refine am_ww h ?_
  rintro _ _ ⟨v1, s1, rfl, rfl, h1⟩
  show am_W _ _ 0 146 [(0, .ref 0), (1, .ref 2), (2, .ref 32), (3, .int (nI i))] [.int v1] (zH s1) _
  refine am_wh 5 (pc1 := 151) (lv1 := [(0, .ref 0), (1, .ref 2), (2, .ref 32), (3, .int (nI i))]) (st1 := [.int (nI i + 1), .ref 0, .ref 32, .int v1]) rfl ?_
  refine am_wls rfl rfl (sc_g (nI_add i 1) (by omega) hL).1 (sc_g (nI_add i 1) (by omega) hL).2 ?_
  refine am_wh 4 (pc1 := 156) (lv1 := [(0, .ref 0), (1, .ref 2), (2, .ref 32), (3, .int (nI i))]) (st1 := [.int (nI i + 2), .ref 0, .int (xs.getD (i + 1) 0), .ref 32, .int v1]) rfl ?_
  refine am_wls rfl rfl (sc_g (nI_add i 2) (by omega) hL).1 (sc_g (nI_add i 2) (by omega) hL).2 ?_
  refine am_wh 4 (pc1 := 161) (lv1 := [(0, .ref 0), (1, .ref 2), (2, .ref 32), (3, .int (nI i))]) (st1 := [.int (nI i + 3), .ref 0, .int (xs.getD (i + 2) 0), .int (xs.getD (i + 1) 0), .ref 32, .int v1]) rfl ?_
  refine am_wls rfl rfl (sc_g (nI_add i 3) (by omega) hL).1 (sc_g (nI_add i 3) (by omega) hL).2 ?_
  refine am_wh 7 (pc1 := 170) (lv1 := [(0, .ref 0), (1, .ref 2), (2, .ref 32), (3, .int (nI i))]) (st1 := [.int (nI i + 4), .ref 0, .long ((Int32.toInt64 (xs.getD (i + 3) 0)) <<< (Int32.toInt64 32 &&& 63)), .int (xs.getD (i + 2) 0), .int (xs.getD (i + 1) 0), .ref 32, .int v1]) rfl ?_
  refine am_wls rfl rfl (sc_g (nI_add i 4) (by omega) hL).1 (sc_g (nI_add i 4) (by omega) hL).2 ?_
  refine am_wh 4 (pc1 := 177) (lv1 := [(0, .ref 0), (1, .ref 2), (2, .ref 32), (3, .int (nI i))]) (st1 := [.long (((Int32.toInt64 (xs.getD (i + 3) 0)) <<< (Int32.toInt64 32 &&& 63)) ||| ((Int32.toInt64 (xs.getD (i + 4) 0)) &&& 4294967295)), .int (xs.getD (i + 2) 0), .int (xs.getD (i + 1) 0), .ref 32, .int v1]) rfl ?_
  refine am_wc rfl rfl rfl ?_
  refine am_ww h1 ?_
  rintro _ _ ⟨v2, s2, rfl, rfl, hvw, h2⟩
  show am_W _ _ 0 180 [(0, .ref 0), (1, .ref 2), (2, .ref 32), (3, .int (nI i))] [.int v2, .int v1] (zH s2) _
  refine am_wb2 rfl true (decide_eq_true hvw) rfl ?_
  refine am_wh 2 (pc1 := 18) (lv1 := [(3, .int (nI i + 5)), (0, .ref 0), (1, .ref 2), (2, .ref 32)]) (st1 := []) rfl ?_
  exact am_wm h2 ⟨rfl, rfl, rfl, rfl, trivial⟩
set_option maxRecDepth 100000 in
theorem lwb_1 (xs : List Int32) (d i : Nat) (s : zS) (hi : i + 5 ≤ xs.length) (hL : xs.length ≤ 2560) (Q : Int32 → zS → Prop) (h : zWi (some xs) d 110 0 [(0, .ref 2)] s (fun v s1 => zWi (some xs) d 134 0 [(0, .ref 32)] s1 (fun w s2 => v = w ∧ zWi (some xs) (d + 1) 0 18 [(0, .ref 0), (1, .ref 2), (2, .ref 32), (3, .int (nI i + 5))] s2 Q))) : zWi (some xs) (d + 1) 0 185 [(0, .ref 0), (1, .ref 2), (2, .ref 32), (3, .int (nI i))] s Q := by
  unfold zWi
  refine am_wh 1 (pc1 := 186) (lv1 := [(0, .ref 0), (1, .ref 2), (2, .ref 32), (3, .int (nI i))]) (st1 := [.ref 2]) rfl ?_
  refine am_wc rfl rfl rfl ?_
  refine am_ww h ?_
  rintro _ _ ⟨v1, s1, rfl, rfl, h1⟩
  show am_W _ _ 0 189 [(0, .ref 0), (1, .ref 2), (2, .ref 32), (3, .int (nI i))] [.int v1] (zH s1) _
  refine am_wh 1 (pc1 := 190) (lv1 := [(0, .ref 0), (1, .ref 2), (2, .ref 32), (3, .int (nI i))]) (st1 := [.ref 32, .int v1]) rfl ?_
  refine am_wc rfl rfl rfl ?_
  refine am_ww h1 ?_
  rintro _ _ ⟨v2, s2, rfl, rfl, hvw, h2⟩
  show am_W _ _ 0 193 [(0, .ref 0), (1, .ref 2), (2, .ref 32), (3, .int (nI i))] [.int v2, .int v1] (zH s2) _
  refine am_wb2 rfl true (decide_eq_true hvw) rfl ?_
  refine am_wh 2 (pc1 := 18) (lv1 := [(3, .int (nI i + 5)), (0, .ref 0), (1, .ref 2), (2, .ref 32)]) (st1 := []) rfl ?_
  exact am_wm h2 ⟨rfl, rfl, rfl, rfl, trivial⟩
set_option maxRecDepth 100000 in
theorem lwb_2 (xs : List Int32) (d i : Nat) (s : zS) (hi : i + 5 ≤ xs.length) (hL : xs.length ≤ 2560) (Q : Int32 → zS → Prop) (h : zWi (some xs) d 111 0 [(0, .ref 2), (1, .int (xs.getD (i + 1) 0))] s (fun v s1 => zWi (some xs) d 135 0 [(0, .ref 32), (1, .int (xs.getD (i + 1) 0))] s1 (fun w s2 => v = w ∧ zWi (some xs) (d + 1) 0 18 [(0, .ref 0), (1, .ref 2), (2, .ref 32), (3, .int (nI i + 5))] s2 Q))) : zWi (some xs) (d + 1) 0 198 [(0, .ref 0), (1, .ref 2), (2, .ref 32), (3, .int (nI i))] s Q := by
  unfold zWi
  refine am_wh 5 (pc1 := 203) (lv1 := [(0, .ref 0), (1, .ref 2), (2, .ref 32), (3, .int (nI i))]) (st1 := [.int (nI i + 1), .ref 0, .ref 2]) rfl ?_
  refine am_wls rfl rfl (sc_g (nI_add i 1) (by omega) hL).1 (sc_g (nI_add i 1) (by omega) hL).2 ?_
  refine am_wc rfl rfl rfl ?_
  refine am_ww h ?_
  rintro _ _ ⟨v1, s1, rfl, rfl, h1⟩
  show am_W _ _ 0 207 [(0, .ref 0), (1, .ref 2), (2, .ref 32), (3, .int (nI i))] [.int v1] (zH s1) _
  refine am_wh 5 (pc1 := 212) (lv1 := [(0, .ref 0), (1, .ref 2), (2, .ref 32), (3, .int (nI i))]) (st1 := [.int (nI i + 1), .ref 0, .ref 32, .int v1]) rfl ?_
  refine am_wls rfl rfl (sc_g (nI_add i 1) (by omega) hL).1 (sc_g (nI_add i 1) (by omega) hL).2 ?_
  refine am_wc rfl rfl rfl ?_
  refine am_ww h1 ?_
  rintro _ _ ⟨v2, s2, rfl, rfl, hvw, h2⟩
  show am_W _ _ 0 216 [(0, .ref 0), (1, .ref 2), (2, .ref 32), (3, .int (nI i))] [.int v2, .int v1] (zH s2) _
  refine am_wb2 rfl true (decide_eq_true hvw) rfl ?_
  refine am_wh 2 (pc1 := 18) (lv1 := [(3, .int (nI i + 5)), (0, .ref 0), (1, .ref 2), (2, .ref 32)]) (st1 := []) rfl ?_
  exact am_wm h2 ⟨rfl, rfl, rfl, rfl, trivial⟩
set_option maxRecDepth 100000 in
theorem lwb_3 (xs : List Int32) (d i : Nat) (s : zS) (hi : i + 5 ≤ xs.length) (hL : xs.length ≤ 2560) (Q : Int32 → zS → Prop) (h : zWi (some xs) d 112 0 [(0, .ref 2)] s (fun v s1 => zWi (some xs) d 185 0 [(0, .ref 32)] s1 (fun w s2 => v = w ∧ zWi (some xs) (d + 1) 0 18 [(0, .ref 0), (1, .ref 2), (2, .ref 32), (3, .int (nI i + 5))] s2 Q))) : zWi (some xs) (d + 1) 0 221 [(0, .ref 0), (1, .ref 2), (2, .ref 32), (3, .int (nI i))] s Q := by
  unfold zWi
  refine am_wh 1 (pc1 := 222) (lv1 := [(0, .ref 0), (1, .ref 2), (2, .ref 32), (3, .int (nI i))]) (st1 := [.ref 2]) rfl ?_
  refine am_wc rfl rfl rfl ?_
  refine am_ww h ?_
  rintro _ _ ⟨v1, s1, rfl, rfl, h1⟩
  show am_W _ _ 0 225 [(0, .ref 0), (1, .ref 2), (2, .ref 32), (3, .int (nI i))] [.int v1] (zH s1) _
  refine am_wh 1 (pc1 := 226) (lv1 := [(0, .ref 0), (1, .ref 2), (2, .ref 32), (3, .int (nI i))]) (st1 := [.ref 32, .int v1]) rfl ?_
  refine am_wc rfl rfl rfl ?_
  refine am_ww h1 ?_
  rintro _ _ ⟨v2, s2, rfl, rfl, hvw, h2⟩
  show am_W _ _ 0 229 [(0, .ref 0), (1, .ref 2), (2, .ref 32), (3, .int (nI i))] [.int v2, .int v1] (zH s2) _
  refine am_wb2 rfl true (decide_eq_true hvw) rfl ?_
  refine am_wh 2 (pc1 := 18) (lv1 := [(3, .int (nI i + 5)), (0, .ref 0), (1, .ref 2), (2, .ref 32)]) (st1 := []) rfl ?_
  exact am_wm h2 ⟨rfl, rfl, rfl, rfl, trivial⟩
set_option maxRecDepth 100000 in
theorem lwb_4 (xs : List Int32) (d i : Nat) (s : zS) (hi : i + 5 ≤ xs.length) (hL : xs.length ≤ 2560) (Q : Int32 → zS → Prop) (h : zWi (some xs) d 113 0 [(0, .ref 2), (1, .int (xs.getD (i + 1) 0))] s (fun v s1 => zWi (some xs) d 186 0 [(0, .ref 32), (1, .int (xs.getD (i + 1) 0))] s1 (fun w s2 => v = w ∧ zWi (some xs) (d + 1) 0 18 [(0, .ref 0), (1, .ref 2), (2, .ref 32), (3, .int (nI i + 5))] s2 Q))) : zWi (some xs) (d + 1) 0 234 [(0, .ref 0), (1, .ref 2), (2, .ref 32), (3, .int (nI i))] s Q := by
  unfold zWi
  refine am_wh 5 (pc1 := 239) (lv1 := [(0, .ref 0), (1, .ref 2), (2, .ref 32), (3, .int (nI i))]) (st1 := [.int (nI i + 1), .ref 0, .ref 2]) rfl ?_
  refine am_wls rfl rfl (sc_g (nI_add i 1) (by omega) hL).1 (sc_g (nI_add i 1) (by omega) hL).2 ?_
  refine am_wc rfl rfl rfl ?_
  refine am_ww h ?_
  rintro _ _ ⟨v1, s1, rfl, rfl, h1⟩
  show am_W _ _ 0 243 [(0, .ref 0), (1, .ref 2), (2, .ref 32), (3, .int (nI i))] [.int v1] (zH s1) _
  refine am_wh 5 (pc1 := 248) (lv1 := [(0, .ref 0), (1, .ref 2), (2, .ref 32), (3, .int (nI i))]) (st1 := [.int (nI i + 1), .ref 0, .ref 32, .int v1]) rfl ?_
  refine am_wls rfl rfl (sc_g (nI_add i 1) (by omega) hL).1 (sc_g (nI_add i 1) (by omega) hL).2 ?_
  refine am_wc rfl rfl rfl ?_
  refine am_ww h1 ?_
  rintro _ _ ⟨v2, s2, rfl, rfl, hvw, h2⟩
  show am_W _ _ 0 252 [(0, .ref 0), (1, .ref 2), (2, .ref 32), (3, .int (nI i))] [.int v2, .int v1] (zH s2) _
  refine am_wb2 rfl true (decide_eq_true hvw) rfl ?_
  refine am_wh 2 (pc1 := 18) (lv1 := [(3, .int (nI i + 5)), (0, .ref 0), (1, .ref 2), (2, .ref 32)]) (st1 := []) rfl ?_
  exact am_wm h2 ⟨rfl, rfl, rfl, rfl, trivial⟩
set_option maxRecDepth 100000 in
theorem lwb_5 (xs : List Int32) (d i : Nat) (s : zS) (hi : i + 5 ≤ xs.length) (hL : xs.length ≤ 2560) (Q : Int32 → zS → Prop) (h : zWi (some xs) d 114 0 [(0, .ref 2)] s (fun v s1 => zWi (some xs) d 187 0 [(0, .ref 32)] s1 (fun w s2 => v = w ∧ zWi (some xs) (d + 1) 0 18 [(0, .ref 0), (1, .ref 2), (2, .ref 32), (3, .int (nI i + 5))] s2 Q))) : zWi (some xs) (d + 1) 0 257 [(0, .ref 0), (1, .ref 2), (2, .ref 32), (3, .int (nI i))] s Q := by
  unfold zWi
  refine am_wh 1 (pc1 := 258) (lv1 := [(0, .ref 0), (1, .ref 2), (2, .ref 32), (3, .int (nI i))]) (st1 := [.ref 2]) rfl ?_
  refine am_wc rfl rfl rfl ?_
  refine am_ww h ?_
  rintro _ _ ⟨v1, s1, rfl, rfl, h1⟩
  show am_W _ _ 0 261 [(0, .ref 0), (1, .ref 2), (2, .ref 32), (3, .int (nI i))] [.int v1] (zH s1) _
  refine am_wh 1 (pc1 := 262) (lv1 := [(0, .ref 0), (1, .ref 2), (2, .ref 32), (3, .int (nI i))]) (st1 := [.ref 32, .int v1]) rfl ?_
  refine am_wc rfl rfl rfl ?_
  refine am_ww h1 ?_
  rintro _ _ ⟨v2, s2, rfl, rfl, hvw, h2⟩
  show am_W _ _ 0 265 [(0, .ref 0), (1, .ref 2), (2, .ref 32), (3, .int (nI i))] [.int v2, .int v1] (zH s2) _
  refine am_wb2 rfl true (decide_eq_true hvw) rfl ?_
  refine am_wh 2 (pc1 := 18) (lv1 := [(3, .int (nI i + 5)), (0, .ref 0), (1, .ref 2), (2, .ref 32)]) (st1 := []) rfl ?_
  exact am_wm h2 ⟨rfl, rfl, rfl, rfl, trivial⟩
set_option maxRecDepth 100000 in
theorem lwb_6 (xs : List Int32) (d i : Nat) (s : zS) (hi : i + 5 ≤ xs.length) (hL : xs.length ≤ 2560) (Q : Int32 → zS → Prop) (h : zWi (some xs) d 115 0 [(0, .ref 2)] s (fun v s1 => zWi (some xs) d 188 0 [(0, .ref 32)] s1 (fun w s2 => v = w ∧ zWi (some xs) (d + 1) 0 18 [(0, .ref 0), (1, .ref 2), (2, .ref 32), (3, .int (nI i + 5))] s2 Q))) : zWi (some xs) (d + 1) 0 270 [(0, .ref 0), (1, .ref 2), (2, .ref 32), (3, .int (nI i))] s Q := by
  unfold zWi
  refine am_wh 1 (pc1 := 271) (lv1 := [(0, .ref 0), (1, .ref 2), (2, .ref 32), (3, .int (nI i))]) (st1 := [.ref 2]) rfl ?_
  refine am_wc rfl rfl rfl ?_
  refine am_ww h ?_
  rintro _ _ ⟨v1, s1, rfl, rfl, h1⟩
  show am_W _ _ 0 274 [(0, .ref 0), (1, .ref 2), (2, .ref 32), (3, .int (nI i))] [.int v1] (zH s1) _
  refine am_wh 1 (pc1 := 275) (lv1 := [(0, .ref 0), (1, .ref 2), (2, .ref 32), (3, .int (nI i))]) (st1 := [.ref 32, .int v1]) rfl ?_
  refine am_wc rfl rfl rfl ?_
  refine am_ww h1 ?_
  rintro _ _ ⟨v2, s2, rfl, rfl, hvw, h2⟩
  show am_W _ _ 0 278 [(0, .ref 0), (1, .ref 2), (2, .ref 32), (3, .int (nI i))] [.int v2, .int v1] (zH s2) _
  refine am_wb2 rfl true (decide_eq_true hvw) rfl ?_
  refine am_wh 2 (pc1 := 18) (lv1 := [(3, .int (nI i + 5)), (0, .ref 0), (1, .ref 2), (2, .ref 32)]) (st1 := []) rfl ?_
  exact am_wm h2 ⟨rfl, rfl, rfl, rfl, trivial⟩
set_option maxRecDepth 100000 in
theorem lwb_7 (xs : List Int32) (d i : Nat) (s : zS) (hi : i + 5 ≤ xs.length) (hL : xs.length ≤ 2560) (Q : Int32 → zS → Prop) (h : zWi (some xs) d 116 0 [(0, .ref 2), (1, .int (xs.getD (i + 1) 0)), (2, .int (xs.getD (i + 2) 0))] s (fun v s1 => zWi (some xs) d 189 0 [(0, .ref 32), (1, .int (xs.getD (i + 1) 0)), (2, .int (xs.getD (i + 2) 0))] s1 (fun w s2 => v = w ∧ zWi (some xs) (d + 1) 0 18 [(0, .ref 0), (1, .ref 2), (2, .ref 32), (3, .int (nI i + 5))] s2 Q))) : zWi (some xs) (d + 1) 0 283 [(0, .ref 0), (1, .ref 2), (2, .ref 32), (3, .int (nI i))] s Q := by
  unfold zWi
  refine am_wh 5 (pc1 := 288) (lv1 := [(0, .ref 0), (1, .ref 2), (2, .ref 32), (3, .int (nI i))]) (st1 := [.int (nI i + 1), .ref 0, .ref 2]) rfl ?_
  refine am_wls rfl rfl (sc_g (nI_add i 1) (by omega) hL).1 (sc_g (nI_add i 1) (by omega) hL).2 ?_
  refine am_wh 4 (pc1 := 293) (lv1 := [(0, .ref 0), (1, .ref 2), (2, .ref 32), (3, .int (nI i))]) (st1 := [.int (nI i + 2), .ref 0, .int (xs.getD (i + 1) 0), .ref 2]) rfl ?_
  refine am_wls rfl rfl (sc_g (nI_add i 2) (by omega) hL).1 (sc_g (nI_add i 2) (by omega) hL).2 ?_
  refine am_wc rfl rfl rfl ?_
  refine am_ww h ?_
  rintro _ _ ⟨v1, s1, rfl, rfl, h1⟩
  show am_W _ _ 0 297 [(0, .ref 0), (1, .ref 2), (2, .ref 32), (3, .int (nI i))] [.int v1] (zH s1) _
  refine am_wh 5 (pc1 := 302) (lv1 := [(0, .ref 0), (1, .ref 2), (2, .ref 32), (3, .int (nI i))]) (st1 := [.int (nI i + 1), .ref 0, .ref 32, .int v1]) rfl ?_
  refine am_wls rfl rfl (sc_g (nI_add i 1) (by omega) hL).1 (sc_g (nI_add i 1) (by omega) hL).2 ?_
  refine am_wh 4 (pc1 := 307) (lv1 := [(0, .ref 0), (1, .ref 2), (2, .ref 32), (3, .int (nI i))]) (st1 := [.int (nI i + 2), .ref 0, .int (xs.getD (i + 1) 0), .ref 32, .int v1]) rfl ?_
  refine am_wls rfl rfl (sc_g (nI_add i 2) (by omega) hL).1 (sc_g (nI_add i 2) (by omega) hL).2 ?_
  refine am_wc rfl rfl rfl ?_
  refine am_ww h1 ?_
  rintro _ _ ⟨v2, s2, rfl, rfl, hvw, h2⟩
  show am_W _ _ 0 311 [(0, .ref 0), (1, .ref 2), (2, .ref 32), (3, .int (nI i))] [.int v2, .int v1] (zH s2) _
  refine am_wb2 rfl true (decide_eq_true hvw) rfl ?_
  refine am_wh 2 (pc1 := 18) (lv1 := [(3, .int (nI i + 5)), (0, .ref 0), (1, .ref 2), (2, .ref 32)]) (st1 := []) rfl ?_
  exact am_wm h2 ⟨rfl, rfl, rfl, rfl, trivial⟩
set_option maxRecDepth 100000 in
theorem lwb_8 (xs : List Int32) (d i : Nat) (s : zS) (hi : i + 5 ≤ xs.length) (hL : xs.length ≤ 2560) (Q : Int32 → zS → Prop) (h : zWi (some xs) d 117 0 [(0, .ref 2)] s (fun v s1 => zWi (some xs) d 191 0 [(0, .ref 32)] s1 (fun w s2 => v = w ∧ zWi (some xs) (d + 1) 0 18 [(0, .ref 0), (1, .ref 2), (2, .ref 32), (3, .int (nI i + 5))] s2 Q))) : zWi (some xs) (d + 1) 0 316 [(0, .ref 0), (1, .ref 2), (2, .ref 32), (3, .int (nI i))] s Q := by
  unfold zWi
  refine am_wh 1 (pc1 := 317) (lv1 := [(0, .ref 0), (1, .ref 2), (2, .ref 32), (3, .int (nI i))]) (st1 := [.ref 2]) rfl ?_
  refine am_wc rfl rfl rfl ?_
  refine am_ww h ?_
  rintro _ _ ⟨v1, s1, rfl, rfl, h1⟩
  show am_W _ _ 0 320 [(0, .ref 0), (1, .ref 2), (2, .ref 32), (3, .int (nI i))] [.int v1] (zH s1) _
  refine am_wh 1 (pc1 := 321) (lv1 := [(0, .ref 0), (1, .ref 2), (2, .ref 32), (3, .int (nI i))]) (st1 := [.ref 32, .int v1]) rfl ?_
  refine am_wc rfl rfl rfl ?_
  refine am_ww h1 ?_
  rintro _ _ ⟨v2, s2, rfl, rfl, hvw, h2⟩
  show am_W _ _ 0 324 [(0, .ref 0), (1, .ref 2), (2, .ref 32), (3, .int (nI i))] [.int v2, .int v1] (zH s2) _
  refine am_wb2 rfl true (decide_eq_true hvw) rfl ?_
  refine am_wh 2 (pc1 := 18) (lv1 := [(3, .int (nI i + 5)), (0, .ref 0), (1, .ref 2), (2, .ref 32)]) (st1 := []) rfl ?_
  exact am_wm h2 ⟨rfl, rfl, rfl, rfl, trivial⟩
set_option maxRecDepth 100000 in
theorem lwb_9 (xs : List Int32) (d i : Nat) (s : zS) (hi : i + 5 ≤ xs.length) (hL : xs.length ≤ 2560) (Q : Int32 → zS → Prop) (h : zWi (some xs) d 118 0 [(0, .ref 2), (1, .int (xs.getD (i + 1) 0))] s (fun v s1 => zWi (some xs) d 192 0 [(0, .ref 32), (1, .int (xs.getD (i + 1) 0))] s1 (fun w s2 => v = w ∧ zWi (some xs) (d + 1) 0 18 [(0, .ref 0), (1, .ref 2), (2, .ref 32), (3, .int (nI i + 5))] s2 Q))) : zWi (some xs) (d + 1) 0 329 [(0, .ref 0), (1, .ref 2), (2, .ref 32), (3, .int (nI i))] s Q := by
  unfold zWi
  refine am_wh 5 (pc1 := 334) (lv1 := [(0, .ref 0), (1, .ref 2), (2, .ref 32), (3, .int (nI i))]) (st1 := [.int (nI i + 1), .ref 0, .ref 2]) rfl ?_
  refine am_wls rfl rfl (sc_g (nI_add i 1) (by omega) hL).1 (sc_g (nI_add i 1) (by omega) hL).2 ?_
  refine am_wc rfl rfl rfl ?_
  refine am_ww h ?_
  rintro _ _ ⟨v1, s1, rfl, rfl, h1⟩
  show am_W _ _ 0 338 [(0, .ref 0), (1, .ref 2), (2, .ref 32), (3, .int (nI i))] [.int v1] (zH s1) _
  refine am_wh 5 (pc1 := 343) (lv1 := [(0, .ref 0), (1, .ref 2), (2, .ref 32), (3, .int (nI i))]) (st1 := [.int (nI i + 1), .ref 0, .ref 32, .int v1]) rfl ?_
  refine am_wls rfl rfl (sc_g (nI_add i 1) (by omega) hL).1 (sc_g (nI_add i 1) (by omega) hL).2 ?_
  refine am_wc rfl rfl rfl ?_
  refine am_ww h1 ?_
  rintro _ _ ⟨v2, s2, rfl, rfl, hvw, h2⟩
  show am_W _ _ 0 347 [(0, .ref 0), (1, .ref 2), (2, .ref 32), (3, .int (nI i))] [.int v2, .int v1] (zH s2) _
  refine am_wb2 rfl true (decide_eq_true hvw) rfl ?_
  refine am_wh 2 (pc1 := 18) (lv1 := [(3, .int (nI i + 5)), (0, .ref 0), (1, .ref 2), (2, .ref 32)]) (st1 := []) rfl ?_
  exact am_wm h2 ⟨rfl, rfl, rfl, rfl, trivial⟩
set_option maxRecDepth 100000 in
theorem lwb_10 (xs : List Int32) (d i : Nat) (s : zS) (hi : i + 5 ≤ xs.length) (hL : xs.length ≤ 2560) (Q : Int32 → zS → Prop) (h : zWi (some xs) d 119 0 [(0, .ref 2)] s (fun v s1 => zWi (some xs) d 193 0 [(0, .ref 32)] s1 (fun w s2 => v = w ∧ zWi (some xs) (d + 1) 0 18 [(0, .ref 0), (1, .ref 2), (2, .ref 32), (3, .int (nI i + 5))] s2 Q))) : zWi (some xs) (d + 1) 0 352 [(0, .ref 0), (1, .ref 2), (2, .ref 32), (3, .int (nI i))] s Q := by
  unfold zWi
  refine am_wh 1 (pc1 := 353) (lv1 := [(0, .ref 0), (1, .ref 2), (2, .ref 32), (3, .int (nI i))]) (st1 := [.ref 2]) rfl ?_
  refine am_wc rfl rfl rfl ?_
  refine am_ww h ?_
  rintro _ _ ⟨v1, s1, rfl, rfl, h1⟩
  show am_W _ _ 0 356 [(0, .ref 0), (1, .ref 2), (2, .ref 32), (3, .int (nI i))] [.int v1] (zH s1) _
  refine am_wh 1 (pc1 := 357) (lv1 := [(0, .ref 0), (1, .ref 2), (2, .ref 32), (3, .int (nI i))]) (st1 := [.ref 32, .int v1]) rfl ?_
  refine am_wc rfl rfl rfl ?_
  refine am_ww h1 ?_
  rintro _ _ ⟨v2, s2, rfl, rfl, hvw, h2⟩
  show am_W _ _ 0 360 [(0, .ref 0), (1, .ref 2), (2, .ref 32), (3, .int (nI i))] [.int v2, .int v1] (zH s2) _
  refine am_wb2 rfl true (decide_eq_true hvw) rfl ?_
  refine am_wh 2 (pc1 := 18) (lv1 := [(3, .int (nI i + 5)), (0, .ref 0), (1, .ref 2), (2, .ref 32)]) (st1 := []) rfl ?_
  exact am_wm h2 ⟨rfl, rfl, rfl, rfl, trivial⟩
set_option maxRecDepth 100000 in
theorem lwb_11 (xs : List Int32) (d i : Nat) (s : zS) (hi : i + 5 ≤ xs.length) (hL : xs.length ≤ 2560) (Q : Int32 → zS → Prop) (h : zWi (some xs) d 120 0 [(0, .ref 2), (1, .int (xs.getD (i + 1) 0))] s (fun v s1 => zWi (some xs) d 194 0 [(0, .ref 32), (1, .int (xs.getD (i + 1) 0))] s1 (fun w s2 => v = w ∧ zWi (some xs) (d + 1) 0 18 [(0, .ref 0), (1, .ref 2), (2, .ref 32), (3, .int (nI i + 5))] s2 Q))) : zWi (some xs) (d + 1) 0 365 [(0, .ref 0), (1, .ref 2), (2, .ref 32), (3, .int (nI i))] s Q := by
  unfold zWi
  refine am_wh 5 (pc1 := 370) (lv1 := [(0, .ref 0), (1, .ref 2), (2, .ref 32), (3, .int (nI i))]) (st1 := [.int (nI i + 1), .ref 0, .ref 2]) rfl ?_
  refine am_wls rfl rfl (sc_g (nI_add i 1) (by omega) hL).1 (sc_g (nI_add i 1) (by omega) hL).2 ?_
  refine am_wc rfl rfl rfl ?_
  refine am_ww h ?_
  rintro _ _ ⟨v1, s1, rfl, rfl, h1⟩
  show am_W _ _ 0 374 [(0, .ref 0), (1, .ref 2), (2, .ref 32), (3, .int (nI i))] [.int v1] (zH s1) _
  refine am_wh 5 (pc1 := 379) (lv1 := [(0, .ref 0), (1, .ref 2), (2, .ref 32), (3, .int (nI i))]) (st1 := [.int (nI i + 1), .ref 0, .ref 32, .int v1]) rfl ?_
  refine am_wls rfl rfl (sc_g (nI_add i 1) (by omega) hL).1 (sc_g (nI_add i 1) (by omega) hL).2 ?_
  refine am_wc rfl rfl rfl ?_
  refine am_ww h1 ?_
  rintro _ _ ⟨v2, s2, rfl, rfl, hvw, h2⟩
  show am_W _ _ 0 383 [(0, .ref 0), (1, .ref 2), (2, .ref 32), (3, .int (nI i))] [.int v2, .int v1] (zH s2) _
  refine am_wb2 rfl true (decide_eq_true hvw) rfl ?_
  refine am_wh 2 (pc1 := 18) (lv1 := [(3, .int (nI i + 5)), (0, .ref 0), (1, .ref 2), (2, .ref 32)]) (st1 := []) rfl ?_
  exact am_wm h2 ⟨rfl, rfl, rfl, rfl, trivial⟩
set_option maxRecDepth 100000 in
theorem lwb_12 (xs : List Int32) (d i : Nat) (s : zS) (hi : i + 5 ≤ xs.length) (hL : xs.length ≤ 2560) (Q : Int32 → zS → Prop) (h : zWi (some xs) d 121 0 [(0, .ref 2), (1, .int (xs.getD (i + 1) 0))] s (fun v s1 => zWi (some xs) d 195 0 [(0, .ref 32), (1, .int (xs.getD (i + 1) 0))] s1 (fun w s2 => v = w ∧ zWi (some xs) (d + 1) 0 18 [(0, .ref 0), (1, .ref 2), (2, .ref 32), (3, .int (nI i + 5))] s2 Q))) : zWi (some xs) (d + 1) 0 388 [(0, .ref 0), (1, .ref 2), (2, .ref 32), (3, .int (nI i))] s Q := by
  unfold zWi
  refine am_wh 5 (pc1 := 393) (lv1 := [(0, .ref 0), (1, .ref 2), (2, .ref 32), (3, .int (nI i))]) (st1 := [.int (nI i + 1), .ref 0, .ref 2]) rfl ?_
  refine am_wls rfl rfl (sc_g (nI_add i 1) (by omega) hL).1 (sc_g (nI_add i 1) (by omega) hL).2 ?_
  refine am_wc rfl rfl rfl ?_
  refine am_ww h ?_
  rintro _ _ ⟨v1, s1, rfl, rfl, h1⟩
  show am_W _ _ 0 397 [(0, .ref 0), (1, .ref 2), (2, .ref 32), (3, .int (nI i))] [.int v1] (zH s1) _
  refine am_wh 5 (pc1 := 402) (lv1 := [(0, .ref 0), (1, .ref 2), (2, .ref 32), (3, .int (nI i))]) (st1 := [.int (nI i + 1), .ref 0, .ref 32, .int v1]) rfl ?_
  refine am_wls rfl rfl (sc_g (nI_add i 1) (by omega) hL).1 (sc_g (nI_add i 1) (by omega) hL).2 ?_
  refine am_wc rfl rfl rfl ?_
  refine am_ww h1 ?_
  rintro _ _ ⟨v2, s2, rfl, rfl, hvw, h2⟩
  show am_W _ _ 0 406 [(0, .ref 0), (1, .ref 2), (2, .ref 32), (3, .int (nI i))] [.int v2, .int v1] (zH s2) _
  refine am_wb2 rfl true (decide_eq_true hvw) rfl ?_
  refine am_wh 2 (pc1 := 18) (lv1 := [(3, .int (nI i + 5)), (0, .ref 0), (1, .ref 2), (2, .ref 32)]) (st1 := []) rfl ?_
  exact am_wm h2 ⟨rfl, rfl, rfl, rfl, trivial⟩
set_option maxRecDepth 100000 in
theorem lwb_13 (xs : List Int32) (d i : Nat) (s : zS) (hi : i + 5 ≤ xs.length) (hL : xs.length ≤ 2560) (Q : Int32 → zS → Prop) (h : zWi (some xs) d 122 0 [(0, .ref 2), (1, .int (xs.getD (i + 1) 0))] s (fun v s1 => zWi (some xs) d 196 0 [(0, .ref 32), (1, .int (xs.getD (i + 1) 0))] s1 (fun w s2 => v = w ∧ zWi (some xs) (d + 1) 0 18 [(0, .ref 0), (1, .ref 2), (2, .ref 32), (3, .int (nI i + 5))] s2 Q))) : zWi (some xs) (d + 1) 0 411 [(0, .ref 0), (1, .ref 2), (2, .ref 32), (3, .int (nI i))] s Q := by
  unfold zWi
  refine am_wh 5 (pc1 := 416) (lv1 := [(0, .ref 0), (1, .ref 2), (2, .ref 32), (3, .int (nI i))]) (st1 := [.int (nI i + 1), .ref 0, .ref 2]) rfl ?_
  refine am_wls rfl rfl (sc_g (nI_add i 1) (by omega) hL).1 (sc_g (nI_add i 1) (by omega) hL).2 ?_
  refine am_wc rfl rfl rfl ?_
  refine am_ww h ?_
  rintro _ _ ⟨v1, s1, rfl, rfl, h1⟩
  show am_W _ _ 0 420 [(0, .ref 0), (1, .ref 2), (2, .ref 32), (3, .int (nI i))] [.int v1] (zH s1) _
  refine am_wh 5 (pc1 := 425) (lv1 := [(0, .ref 0), (1, .ref 2), (2, .ref 32), (3, .int (nI i))]) (st1 := [.int (nI i + 1), .ref 0, .ref 32, .int v1]) rfl ?_
  refine am_wls rfl rfl (sc_g (nI_add i 1) (by omega) hL).1 (sc_g (nI_add i 1) (by omega) hL).2 ?_
  refine am_wc rfl rfl rfl ?_
  refine am_ww h1 ?_
  rintro _ _ ⟨v2, s2, rfl, rfl, hvw, h2⟩
  show am_W _ _ 0 429 [(0, .ref 0), (1, .ref 2), (2, .ref 32), (3, .int (nI i))] [.int v2, .int v1] (zH s2) _
  refine am_wb2 rfl true (decide_eq_true hvw) rfl ?_
  refine am_wh 2 (pc1 := 18) (lv1 := [(3, .int (nI i + 5)), (0, .ref 0), (1, .ref 2), (2, .ref 32)]) (st1 := []) rfl ?_
  exact am_wm h2 ⟨rfl, rfl, rfl, rfl, trivial⟩
set_option maxRecDepth 100000 in
theorem lwb_14 (xs : List Int32) (d i : Nat) (s : zS) (hi : i + 5 ≤ xs.length) (hL : xs.length ≤ 2560) (Q : Int32 → zS → Prop) (h : zWi (some xs) d 123 0 [(0, .ref 2), (1, .int (xs.getD (i + 1) 0)), (2, .int (xs.getD (i + 2) 0))] s (fun v s1 => zWi (some xs) d 197 0 [(0, .ref 32), (1, .int (xs.getD (i + 1) 0)), (2, .int (xs.getD (i + 2) 0))] s1 (fun w s2 => v = w ∧ zWi (some xs) (d + 1) 0 18 [(0, .ref 0), (1, .ref 2), (2, .ref 32), (3, .int (nI i + 5))] s2 Q))) : zWi (some xs) (d + 1) 0 434 [(0, .ref 0), (1, .ref 2), (2, .ref 32), (3, .int (nI i))] s Q := by
  unfold zWi
  refine am_wh 5 (pc1 := 439) (lv1 := [(0, .ref 0), (1, .ref 2), (2, .ref 32), (3, .int (nI i))]) (st1 := [.int (nI i + 1), .ref 0, .ref 2]) rfl ?_
  refine am_wls rfl rfl (sc_g (nI_add i 1) (by omega) hL).1 (sc_g (nI_add i 1) (by omega) hL).2 ?_
  refine am_wh 4 (pc1 := 444) (lv1 := [(0, .ref 0), (1, .ref 2), (2, .ref 32), (3, .int (nI i))]) (st1 := [.int (nI i + 2), .ref 0, .int (xs.getD (i + 1) 0), .ref 2]) rfl ?_
  refine am_wls rfl rfl (sc_g (nI_add i 2) (by omega) hL).1 (sc_g (nI_add i 2) (by omega) hL).2 ?_
  refine am_wc rfl rfl rfl ?_
  refine am_ww h ?_
  rintro _ _ ⟨v1, s1, rfl, rfl, h1⟩
  show am_W _ _ 0 448 [(0, .ref 0), (1, .ref 2), (2, .ref 32), (3, .int (nI i))] [.int v1] (zH s1) _
  refine am_wh 5 (pc1 := 453) (lv1 := [(0, .ref 0), (1, .ref 2), (2, .ref 32), (3, .int (nI i))]) (st1 := [.int (nI i + 1), .ref 0, .ref 32, .int v1]) rfl ?_
  refine am_wls rfl rfl (sc_g (nI_add i 1) (by omega) hL).1 (sc_g (nI_add i 1) (by omega) hL).2 ?_
  refine am_wh 4 (pc1 := 458) (lv1 := [(0, .ref 0), (1, .ref 2), (2, .ref 32), (3, .int (nI i))]) (st1 := [.int (nI i + 2), .ref 0, .int (xs.getD (i + 1) 0), .ref 32, .int v1]) rfl ?_
  refine am_wls rfl rfl (sc_g (nI_add i 2) (by omega) hL).1 (sc_g (nI_add i 2) (by omega) hL).2 ?_
  refine am_wc rfl rfl rfl ?_
  refine am_ww h1 ?_
  rintro _ _ ⟨v2, s2, rfl, rfl, hvw, h2⟩
  show am_W _ _ 0 462 [(0, .ref 0), (1, .ref 2), (2, .ref 32), (3, .int (nI i))] [.int v2, .int v1] (zH s2) _
  refine am_wb2 rfl true (decide_eq_true hvw) rfl ?_
  refine am_wh 2 (pc1 := 18) (lv1 := [(3, .int (nI i + 5)), (0, .ref 0), (1, .ref 2), (2, .ref 32)]) (st1 := []) rfl ?_
  exact am_wm h2 ⟨rfl, rfl, rfl, rfl, trivial⟩
set_option maxRecDepth 100000 in
theorem lwb_15 (xs : List Int32) (d i : Nat) (s : zS) (hi : i + 5 ≤ xs.length) (hL : xs.length ≤ 2560) (Q : Int32 → zS → Prop) (h : zWi (some xs) d 124 0 [(0, .ref 2), (1, .int (xs.getD (i + 1) 0)), (2, .long (((Int32.toInt64 (xs.getD (i + 2) 0)) <<< (Int32.toInt64 32 &&& 63)) ||| ((Int32.toInt64 (xs.getD (i + 3) 0)) &&& 4294967295)))] s (fun v s1 => zWi (some xs) d 200 0 [(0, .ref 32), (1, .int (xs.getD (i + 1) 0)), (2, .long (((Int32.toInt64 (xs.getD (i + 2) 0)) <<< (Int32.toInt64 32 &&& 63)) ||| ((Int32.toInt64 (xs.getD (i + 3) 0)) &&& 4294967295)))] s1 (fun w s2 => v = w ∧ zWi (some xs) (d + 1) 0 18 [(0, .ref 0), (1, .ref 2), (2, .ref 32), (3, .int (nI i + 5))] s2 Q))) : zWi (some xs) (d + 1) 0 467 [(0, .ref 0), (1, .ref 2), (2, .ref 32), (3, .int (nI i))] s Q := by
  unfold zWi
  refine am_wh 5 (pc1 := 472) (lv1 := [(0, .ref 0), (1, .ref 2), (2, .ref 32), (3, .int (nI i))]) (st1 := [.int (nI i + 1), .ref 0, .ref 2]) rfl ?_
  refine am_wls rfl rfl (sc_g (nI_add i 1) (by omega) hL).1 (sc_g (nI_add i 1) (by omega) hL).2 ?_
  refine am_wh 4 (pc1 := 477) (lv1 := [(0, .ref 0), (1, .ref 2), (2, .ref 32), (3, .int (nI i))]) (st1 := [.int (nI i + 2), .ref 0, .int (xs.getD (i + 1) 0), .ref 2]) rfl ?_
  refine am_wls rfl rfl (sc_g (nI_add i 2) (by omega) hL).1 (sc_g (nI_add i 2) (by omega) hL).2 ?_
  refine am_wh 7 (pc1 := 486) (lv1 := [(0, .ref 0), (1, .ref 2), (2, .ref 32), (3, .int (nI i))]) (st1 := [.int (nI i + 3), .ref 0, .long ((Int32.toInt64 (xs.getD (i + 2) 0)) <<< (Int32.toInt64 32 &&& 63)), .int (xs.getD (i + 1) 0), .ref 2]) rfl ?_
  refine am_wls rfl rfl (sc_g (nI_add i 3) (by omega) hL).1 (sc_g (nI_add i 3) (by omega) hL).2 ?_
  refine am_wh 4 (pc1 := 493) (lv1 := [(0, .ref 0), (1, .ref 2), (2, .ref 32), (3, .int (nI i))]) (st1 := [.long (((Int32.toInt64 (xs.getD (i + 2) 0)) <<< (Int32.toInt64 32 &&& 63)) ||| ((Int32.toInt64 (xs.getD (i + 3) 0)) &&& 4294967295)), .int (xs.getD (i + 1) 0), .ref 2]) rfl ?_
  refine am_wc rfl rfl rfl ?_
  refine am_ww h ?_
  rintro _ _ ⟨v1, s1, rfl, rfl, h1⟩
  show am_W _ _ 0 496 [(0, .ref 0), (1, .ref 2), (2, .ref 32), (3, .int (nI i))] [.int v1] (zH s1) _
  refine am_wh 5 (pc1 := 501) (lv1 := [(0, .ref 0), (1, .ref 2), (2, .ref 32), (3, .int (nI i))]) (st1 := [.int (nI i + 1), .ref 0, .ref 32, .int v1]) rfl ?_
  refine am_wls rfl rfl (sc_g (nI_add i 1) (by omega) hL).1 (sc_g (nI_add i 1) (by omega) hL).2 ?_
  refine am_wh 4 (pc1 := 506) (lv1 := [(0, .ref 0), (1, .ref 2), (2, .ref 32), (3, .int (nI i))]) (st1 := [.int (nI i + 2), .ref 0, .int (xs.getD (i + 1) 0), .ref 32, .int v1]) rfl ?_
  refine am_wls rfl rfl (sc_g (nI_add i 2) (by omega) hL).1 (sc_g (nI_add i 2) (by omega) hL).2 ?_
  refine am_wh 7 (pc1 := 515) (lv1 := [(0, .ref 0), (1, .ref 2), (2, .ref 32), (3, .int (nI i))]) (st1 := [.int (nI i + 3), .ref 0, .long ((Int32.toInt64 (xs.getD (i + 2) 0)) <<< (Int32.toInt64 32 &&& 63)), .int (xs.getD (i + 1) 0), .ref 32, .int v1]) rfl ?_
  refine am_wls rfl rfl (sc_g (nI_add i 3) (by omega) hL).1 (sc_g (nI_add i 3) (by omega) hL).2 ?_
  refine am_wh 4 (pc1 := 522) (lv1 := [(0, .ref 0), (1, .ref 2), (2, .ref 32), (3, .int (nI i))]) (st1 := [.long (((Int32.toInt64 (xs.getD (i + 2) 0)) <<< (Int32.toInt64 32 &&& 63)) ||| ((Int32.toInt64 (xs.getD (i + 3) 0)) &&& 4294967295)), .int (xs.getD (i + 1) 0), .ref 32, .int v1]) rfl ?_
  refine am_wc rfl rfl rfl ?_
  refine am_ww h1 ?_
  rintro _ _ ⟨v2, s2, rfl, rfl, hvw, h2⟩
  show am_W _ _ 0 525 [(0, .ref 0), (1, .ref 2), (2, .ref 32), (3, .int (nI i))] [.int v2, .int v1] (zH s2) _
  refine am_wb2 rfl true (decide_eq_true hvw) rfl ?_
  refine am_wh 2 (pc1 := 18) (lv1 := [(3, .int (nI i + 5)), (0, .ref 0), (1, .ref 2), (2, .ref 32)]) (st1 := []) rfl ?_
  exact am_wm h2 ⟨rfl, rfl, rfl, rfl, trivial⟩
section LL
variable (xs : List Int32) (d : Nat) {t : List Int32} {s : zS}
/-- a question: the class's cells change, then the reference's -/
theorem lq_1 {s1 : zS} (hq : cQ t s) (hm : mQ t s) (g : cI t s1) (z : zE cEF cEA s s1) : cQ t s1 ∧ mQ t s1 := ⟨cQ_E z hq g, mQ_F z (by decide) (by decide) (by decide) hm⟩
theorem lq_2 {s1 : zS} (hq : cQ t s) (hm : mQ t s) (g : mJ t s1) (z : zE mEF mEA s s1) : cQ t s1 ∧ mQ t s1 := ⟨cQ_F z (by decide) (by decide) hq, mQ_E z hm g⟩
set_option maxRecDepth 100000 in
theorem lw_step (hd : 140 ≤ d) (hL : xs.length ≤ 2560) (hq : cQ t s) (hm : mQ t s) {i : Nat} (hi : i + 5 ≤ xs.length) (Q : Int32 → zS → Prop) (go : ∀ (t1 : List Int32) (s1 : zS), cQ t1 s1 → mQ t1 s1 → zWi (some xs) (d + 1) 0 18 [(0, .ref 0), (1, .ref 2), (2, .ref 32), (3, .int (nI i + 5))] s1 Q) : zWi (some xs) (d + 1) 0 26 [(0, .ref 0), (1, .ref 2), (2, .ref 32), (3, .int (nI i))] s Q := by
  obtain ⟨j, hj, hw⟩ := pk_andE (xs.getD (i + 0) 0) (m := 15) 4 (by decide +kernel)
  have ht := hq.1
  unfold zWi
  refine am_wh 2 (pc1 := 28) (lv1 := [(0, .ref 0), (1, .ref 2), (2, .ref 32), (3, .int (nI i))]) (st1 := [.int (nI i), .ref 0]) rfl ?_
  refine am_wls rfl rfl (sc_g (k := 0) rfl (by omega) hL).1 (sc_g (k := 0) rfl (by omega) hL).2 ?_
  refine am_wh 2 (pc1 := 32) (lv1 := [(0, .ref 0), (1, .ref 2), (2, .ref 32), (3, .int (nI i))]) (st1 := [.int (xs.getD (i + 0) 0 &&& 15)]) rfl ?_
  match j, hj, hw with
  | 0, _, hw =>
    refine am_wsw (tgt := 112) rfl (by rw [hw]; decide +kernel) ?_
    refine lwb_0 xs d i s hi hL Q (cq_109 (some xs) d (by omega) ht hq.2.1 hq.2.2.1 _ _ _ _ (fun s1 g1 f1 z1 => ?_))
    have m1 : mQ t s1 := mQ_F z1 (by decide) (by decide) (by decide) hm
    have q1 : cQ _ s1 := ⟨qEdit_ok ht _ _ _, g1, f1, by rw [z1.2 27 rfl]; exact hq.2.2.2.1, by rw [z1.2 27 rfl]; exact hq.2.2.2.2.1, by rw [z1.2 28 rfl]; exact hq.2.2.2.2.2.1, by rw [z1.2 29 rfl]; exact hq.2.2.2.2.2.2⟩
    refine mq_132 (some xs) d (by omega) ht m1.1 m1.2.1 _ _ _ _ (fun s2 g2 f2 z2 => ⟨rfl, go _ s2 (cQ_F z2 (by decide) (by decide) q1) ⟨g2, f2, by rw [z2.2 33 rfl]; exact m1.2.2.1, by rw [z2.2 52 rfl]; exact m1.2.2.2.1, by rw [z2.2 53 rfl]; exact m1.2.2.2.2⟩⟩)
  | 1, _, hw =>
    refine am_wsw (tgt := 185) rfl (by rw [hw]; decide +kernel) ?_
    exact lwb_1 xs d i s hi hL Q (cq_110 (some xs) d hq.2.1 _ (mq_134 (some xs) d hm.1 _ ⟨rfl, go t s hq hm⟩))
  | 2, _, hw =>
    refine am_wsw (tgt := 198) rfl (by rw [hw]; decide +kernel) ?_
    exact lwb_2 xs d i s hi hL Q (cq_111 (some xs) d (by omega) hq.2.1 _ _ (mq_135 (some xs) d hm.1 _ _ ⟨rfl, go t s hq hm⟩))
  | 3, _, hw =>
    refine am_wsw (tgt := 221) rfl (by rw [hw]; decide +kernel) ?_
    exact lwb_3 xs d i s hi hL Q (cq_112 (some xs) d (by omega) ht hq.2.1 _ (fun s1 g1 z1 => mq_185 (some xs) d (by omega) ht (lq_1 hq hm g1 z1).2.1 _ (fun s2 g2 z2 => ⟨rfl, go t s2 (lq_2 (lq_1 hq hm g1 z1).1 (lq_1 hq hm g1 z1).2 g2 z2).1 (lq_2 (lq_1 hq hm g1 z1).1 (lq_1 hq hm g1 z1).2 g2 z2).2⟩)))
  | 4, _, hw =>
    refine am_wsw (tgt := 234) rfl (by rw [hw]; decide +kernel) ?_
    exact lwb_4 xs d i s hi hL Q (cq_113 (some xs) d (by omega) ht hq.2.1 _ _ (fun s1 g1 z1 => mq_186 (some xs) d (by omega) ht (lq_1 hq hm g1 z1).2.1 _ _ (fun s2 g2 z2 => ⟨rfl, go t s2 (lq_2 (lq_1 hq hm g1 z1).1 (lq_1 hq hm g1 z1).2 g2 z2).1 (lq_2 (lq_1 hq hm g1 z1).1 (lq_1 hq hm g1 z1).2 g2 z2).2⟩)))
  | 5, _, hw =>
    refine am_wsw (tgt := 257) rfl (by rw [hw]; decide +kernel) ?_
    exact lwb_5 xs d i s hi hL Q (cq_114 (some xs) d (by omega) ht hq.2.1 _ (fun s1 g1 z1 => mq_187 (some xs) d (by omega) ht (lq_1 hq hm g1 z1).2.1 _ (fun s2 g2 z2 => ⟨rfl, go t s2 (lq_2 (lq_1 hq hm g1 z1).1 (lq_1 hq hm g1 z1).2 g2 z2).1 (lq_2 (lq_1 hq hm g1 z1).1 (lq_1 hq hm g1 z1).2 g2 z2).2⟩)))
  | 6, _, hw =>
    refine am_wsw (tgt := 270) rfl (by rw [hw]; decide +kernel) ?_
    exact lwb_6 xs d i s hi hL Q (cq_115 (some xs) d (by omega) ht hq.2.1 _ (fun s1 g1 z1 => mq_188 (some xs) d (by omega) ht (lq_1 hq hm g1 z1).2.1 _ (fun s2 g2 z2 => ⟨rfl, go t s2 (lq_2 (lq_1 hq hm g1 z1).1 (lq_1 hq hm g1 z1).2 g2 z2).1 (lq_2 (lq_1 hq hm g1 z1).1 (lq_1 hq hm g1 z1).2 g2 z2).2⟩)))
  | 7, _, hw =>
    refine am_wsw (tgt := 283) rfl (by rw [hw]; decide +kernel) ?_
    exact lwb_7 xs d i s hi hL Q (cq_116 (some xs) d (by omega) ht hq.2.1 _ _ _ (fun s1 g1 z1 => mq_189 (some xs) d (by omega) ht (lq_1 hq hm g1 z1).2.1 _ _ _ (fun s2 g2 z2 => ⟨rfl, go t s2 (lq_2 (lq_1 hq hm g1 z1).1 (lq_1 hq hm g1 z1).2 g2 z2).1 (lq_2 (lq_1 hq hm g1 z1).1 (lq_1 hq hm g1 z1).2 g2 z2).2⟩)))
  | 8, _, hw =>
    refine am_wsw (tgt := 316) rfl (by rw [hw]; decide +kernel) ?_
    exact lwb_8 xs d i s hi hL Q (cq_117 (some xs) d (by omega) ht hq.2.1 _ (fun s1 g1 z1 => mq_191 (some xs) d (by omega) ht (lq_1 hq hm g1 z1).2.1 _ (fun s2 g2 z2 => ⟨rfl, go t s2 (lq_2 (lq_1 hq hm g1 z1).1 (lq_1 hq hm g1 z1).2 g2 z2).1 (lq_2 (lq_1 hq hm g1 z1).1 (lq_1 hq hm g1 z1).2 g2 z2).2⟩)))
  | 9, _, hw =>
    refine am_wsw (tgt := 329) rfl (by rw [hw]; decide +kernel) ?_
    exact lwb_9 xs d i s hi hL Q (cq_118 (some xs) d (by omega) ht hq.2.1 _ _ (fun s1 g1 z1 => mq_192 (some xs) d (by omega) ht (lq_1 hq hm g1 z1).2.1 _ _ (fun s2 g2 z2 => ⟨rfl, go t s2 (lq_2 (lq_1 hq hm g1 z1).1 (lq_1 hq hm g1 z1).2 g2 z2).1 (lq_2 (lq_1 hq hm g1 z1).1 (lq_1 hq hm g1 z1).2 g2 z2).2⟩)))
  | 10, _, hw =>
    refine am_wsw (tgt := 352) rfl (by rw [hw]; decide +kernel) ?_
    exact lwb_10 xs d i s hi hL Q (cq_119 (some xs) d (by omega) ht hq.2.1 _ (fun s1 g1 z1 => mq_193 (some xs) d (by omega) ht (lq_1 hq hm g1 z1).2.1 _ (fun s2 g2 z2 => ⟨rfl, go t s2 (lq_2 (lq_1 hq hm g1 z1).1 (lq_1 hq hm g1 z1).2 g2 z2).1 (lq_2 (lq_1 hq hm g1 z1).1 (lq_1 hq hm g1 z1).2 g2 z2).2⟩)))
  | 11, _, hw =>
    refine am_wsw (tgt := 365) rfl (by rw [hw]; decide +kernel) ?_
    exact lwb_11 xs d i s hi hL Q (cq_120 (some xs) d (by omega) ht hq.2.1 _ _ (fun s1 g1 z1 => mq_194 (some xs) d (by omega) ht (lq_1 hq hm g1 z1).2.1 _ _ (fun s2 g2 z2 => ⟨rfl, go t s2 (lq_2 (lq_1 hq hm g1 z1).1 (lq_1 hq hm g1 z1).2 g2 z2).1 (lq_2 (lq_1 hq hm g1 z1).1 (lq_1 hq hm g1 z1).2 g2 z2).2⟩)))
  | 12, _, hw =>
    refine am_wsw (tgt := 388) rfl (by rw [hw]; decide +kernel) ?_
    exact lwb_12 xs d i s hi hL Q (cq_121 (some xs) d (by omega) ht hq.2.1 _ _ (fun s1 g1 z1 => mq_195 (some xs) d (by omega) ht (lq_1 hq hm g1 z1).2.1 _ _ (fun s2 g2 z2 => ⟨rfl, go t s2 (lq_2 (lq_1 hq hm g1 z1).1 (lq_1 hq hm g1 z1).2 g2 z2).1 (lq_2 (lq_1 hq hm g1 z1).1 (lq_1 hq hm g1 z1).2 g2 z2).2⟩)))
  | 13, _, hw =>
    refine am_wsw (tgt := 411) rfl (by rw [hw]; decide +kernel) ?_
    exact lwb_13 xs d i s hi hL Q (cq_122 (some xs) d (by omega) ht hq.2.1 _ _ (fun s1 g1 z1 => mq_196 (some xs) d (by omega) ht (lq_1 hq hm g1 z1).2.1 _ _ (fun s2 g2 z2 => ⟨rfl, go t s2 (lq_2 (lq_1 hq hm g1 z1).1 (lq_1 hq hm g1 z1).2 g2 z2).1 (lq_2 (lq_1 hq hm g1 z1).1 (lq_1 hq hm g1 z1).2 g2 z2).2⟩)))
  | 14, _, hw =>
    refine am_wsw (tgt := 434) rfl (by rw [hw]; decide +kernel) ?_
    exact lwb_14 xs d i s hi hL Q (cq_123 (some xs) d (by omega) ht hq.2.1 _ _ _ (fun s1 g1 z1 => mq_197 (some xs) d (by omega) ht (lq_1 hq hm g1 z1).2.1 _ _ _ (fun s2 g2 z2 => ⟨rfl, go t s2 (lq_2 (lq_1 hq hm g1 z1).1 (lq_1 hq hm g1 z1).2 g2 z2).1 (lq_2 (lq_1 hq hm g1 z1).1 (lq_1 hq hm g1 z1).2 g2 z2).2⟩)))
  | 15, _, hw =>
    refine am_wsw (tgt := 467) rfl (by rw [hw]; decide +kernel) ?_
    refine lwb_15 xs d i s hi hL Q (cq_124 (some xs) d (by omega) hq _ _ _ (fun s1 q1 z1 => ?_))
    have m1 : mQ t s1 := mQ_F z1 (by decide) (by decide) (by decide) hm
    exact mq_200 (some xs) d (by omega) ht m1 _ _ _ (fun s2 g2 z2 => ⟨rfl, go _ s2 (cQ_F z2 (by decide) (by decide) q1) g2⟩)
  | j + 16, hj, _ => exact absurd hj (by omega)
set_option maxRecDepth 100000 in
theorem lw_loop (hd : 140 ≤ d) (hL : xs.length ≤ 2560) : ∀ (n i : Nat) (a3 : Int32) (t : List Int32) (s : zS), xs.length ≤ n + i → i ≤ 2565 → a3 = nI i → cQ t s → mQ t s → zWi (some xs) (d + 1) 0 18 [(0, .ref 0), (1, .ref 2), (2, .ref 32), (3, .int a3)] s (fun v _ => v = 1) := by
  intro n
  induction n with
  | zero =>
    intro i a3 t s hn hi h3 hq hm
    subst h3
    exact lw_end xs d hL (by omega) hi
  | succ n ih =>
    intro i a3 t s hn hi h3 hq hm
    subst h3
    by_cases hc : i + 5 ≤ xs.length
    · exact lw_next xs d hL hc (lw_step xs d hd hL hq hm hc _ (fun t1 s1 q1 m1 => ih (i + 5) _ t1 s1 (by omega) (by omega) (nI_add i 5) q1 m1))
    · exact lw_end xs d hL hc hi
end LL
