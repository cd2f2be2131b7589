/-! The first heap, and the law from its entry. -/
def hp_a : List am_E := [.inr (0, [.null, .null, .null, .null, .null, .null, .null, .null, .int 0])]
def hp_b : List am_E := [.inr (0, [.ref 3, .ref 5, .ref 10, .ref 13, .ref 17, .ref 26, .ref 27, .ref 28, .int 1]), .inr (1, [.ref 4, .int 0]), .inl (true, List.replicate 200 0), .inr (2, [.ref 3, .ref 6, .ref 7, .ref 8, .ref 9, .int 0, .int 0, .int 0]), .inl (false, List.replicate 272 0), .inl (false, List.replicate 272 0), .inl (false, List.replicate 272 0), .inl (false, List.replicate 24 0), .inr (3, [.ref 11, .ref 12, .int 0]), .inl (false, List.replicate 204 0), .inl (false, List.replicate 204 0), .inr (4, [.ref 14, .ref 15, .ref 16, .int 0]), .inl (false, List.replicate 32 0), .inl (false, List.replicate 32 0), .inl (false, List.replicate 32 0), .inr (5, [.ref 18, .ref 19, .ref 20, .ref 21, .ref 22, .ref 23, .ref 24, .ref 25, .int 0]), .inl (false, List.replicate 100 0), .inl (false, List.replicate 100 0), .inl (false, List.replicate 100 0), .inl (false, List.replicate 100 0), .inl (false, List.replicate 100 0), .inl (false, List.replicate 100 0), .inl (false, List.replicate 100 0), .inl (false, List.replicate 100 0), .inr (6, [.ref 5, .ref 13, .ref 17, .ref 10, .int 0, .int 0, .int 0, .int 0, .int 0, .int 0, .int 0, .int 0, .int 0]), .inr (7, [.ref 3, .ref 13, .ref 17, .int 0, .int 0]), .inr (8, [.ref 29, .ref 30, .ref 31, .int 0, .int 0]), .inl (true, List.replicate 200 0), .inl (false, List.replicate 100 0), .inl (false, List.replicate 100 0)]
def hp_c : List am_E := [.inr (0, [.ref 3, .ref 5, .ref 10, .ref 13, .ref 17, .ref 26, .ref 27, .ref 28, .int 1]), .inr (1, [.ref 4, .int 0]), .inl (true, List.replicate 200 0), .inr (2, [.ref 3, .ref 6, .ref 7, .ref 8, .ref 9, .int 0, .int 0, .int 0]), .inl (false, List.replicate 272 0), .inl (false, List.replicate 272 0), .inl (false, List.replicate 272 0), .inl (false, List.replicate 24 0), .inr (3, [.ref 11, .ref 12, .int 0]), .inl (false, List.replicate 204 0), .inl (false, List.replicate 204 0), .inr (4, [.ref 14, .ref 15, .ref 16, .int 0]), .inl (false, List.replicate 32 0), .inl (false, List.replicate 32 0), .inl (false, List.replicate 32 0), .inr (5, [.ref 18, .ref 19, .ref 20, .ref 21, .ref 22, .ref 23, .ref 24, .ref 25, .int 0]), .inl (false, List.replicate 100 0), .inl (false, List.replicate 100 0), .inl (false, List.replicate 100 0), .inl (false, List.replicate 100 0), .inl (false, List.replicate 100 0), .inl (false, List.replicate 100 0), .inl (false, List.replicate 100 0), .inl (false, List.replicate 100 0), .inr (6, [.ref 5, .ref 13, .ref 17, .ref 10, .int 0, .int 0, .int 0, .int 0, .int 0, .int 0, .int 0, .int 0, .int 0]), .inr (7, [.ref 3, .ref 13, .ref 17, .int 0, .int 0]), .inr (8, [.ref 29, .ref 30, .ref 31, .int 0, .int 0]), .inl (true, List.replicate 200 0), .inl (false, List.replicate 100 0), .inl (false, List.replicate 100 0), .inr (9, [.int 0, .null, .null, .null, .int 0, .int 0, .null, .null, .null, .null, .null, .null, .int 0, .int 0, .int 0, .null, .null, .int 0, .int 0, .int 0, .int 0, .null, .null, .int 0, .null, .null, .null, .null, .null, .null, .null, .int 0, .null, .int 0, .int 0, .null, .null])]
def sz0 : List Nat := [0, 0, 200, 0, 272, 272, 272, 24, 0, 204, 204, 0, 32, 32, 32, 0, 100, 100, 100, 100, 100, 100, 100, 100, 0, 0, 0, 200, 100, 100, 0, 200, 200, 200, 420, 420, 420, 420, 420, 210, 240, 240, 1000, 1000, 40, 40, 40, 40, 40, 40, 40, 200, 200, 200]
def st0 : zS := (fun k => bif k == 0 || k == 22 then 1 else 0, fun k => List.replicate (sz0.getD k 0) 0)
set_option maxRecDepth 100000 in
theorem cx_0 : am_run am_C0 199 199 108 0 [(0, .ref 2)] [] hp_a = some (none, hp_b, 29, 2793) := am_qo_eq (by decide +kernel)
set_option maxRecDepth 100000 in
theorem cx_1 : am_run am_C0 103 199 130 0 [(0, .ref 32)] [] hp_c = some (none, zH st0, 23, 6270) := am_qo_eq (by decide +kernel)
theorem ch_0 (n : Nat) : chF (List.replicate n 0) := by
  intro c hc
  rw [List.eq_of_mem_replicate hc]
  decide
theorem tx_0 : tx_in [] (List.replicate 200 0) := ⟨List.length_replicate, by decide, fun i hi => absurd hi (Nat.not_lt_zero i)⟩
theorem l_0 {n k : Nat} (h : sz0.getD k 0 = n) : (st0.2 k).length = n := by
  show (List.replicate (sz0.getD k 0) (0 : Int32)).length = n
  rw [List.length_replicate]; exact h
theorem cQ_0 : cQ [] st0 := by
  refine ⟨⟨by decide, fun c hc => absurd hc List.not_mem_nil⟩, ⟨⟨rfl, tx_0⟩, ?_, fun h => absurd h (by decide)⟩, ch_0 200, ch_0 200, l_0 rfl, l_0 rfl, l_0 rfl⟩
  exact ⟨l_0 rfl, l_0 rfl, l_0 rfl, l_0 rfl, ⟨l_0 rfl, l_0 rfl, l_0 rfl, l_0 rfl, l_0 rfl, l_0 rfl, l_0 rfl, l_0 rfl, l_0 rfl, l_0 rfl, by decide, by decide, by decide, by decide, by decide, by decide⟩, l_0 rfl, l_0 rfl, l_0 rfl⟩
theorem mQ_0 : mQ [] st0 := by
  refine ⟨⟨⟨rfl, tx_0⟩, ?_, fun h => absurd h (by decide)⟩, l_0 rfl, l_0 rfl, l_0 rfl, l_0 rfl⟩
  exact ⟨l_0 rfl, l_0 rfl, l_0 rfl, l_0 rfl, l_0 rfl, ⟨l_0 rfl, l_0 rfl, l_0 rfl, l_0 rfl, l_0 rfl, l_0 rfl, l_0 rfl, l_0 rfl, l_0 rfl, l_0 rfl, l_0 rfl, l_0 rfl⟩, l_0 rfl⟩
set_option maxRecDepth 100000 in
set_option maxHeartbeats 4000000 in
theorem lw_go (xs : Option (List Int32)) (hg : am_W (am_CX xs) 200 0 16 [(2, .ref 32), (1, .ref 2), (0, .ref 0)] [] (zH st0) (fun r _ => r = some (.int 1))) : ∃ h1 : List am_E, am_G (am_CX xs) 200 0 0 [(0, .ref 0)] [] [] (some (.int 1), h1, 54, 9109) := by
  obtain ⟨r, h1, hg, hr⟩ := hg
  have hr : r = some (.int 1) := hr
  subst hr
  refine ⟨h1, ?_⟩
  refine am_g2 (z := (3, [], .inr (0, [.null, .null, .null, .null, .null, .null, .null, .null, .int 0]), 9)) (o := (some (.int 1), h1, 53, 9100)) rfl rfl rfl ?_
  show am_G _ _ 0 3 [(0, .ref 0)] [.ref 2] hp_a _
  refine am_gn 1 (pc1 := 4) (lv1 := [(0, .ref 0)]) (st1 := [.ref 2, .ref 2]) (h1 := hp_a) rfl ?_
  refine am_g1 (o1 := (none, hp_b, 29, 2793)) (o2 := (some (.int 1), h1, 24, 6307)) rfl rfl rfl (am_gx _ cx_0) ?_
  show am_G _ _ 0 7 [(0, .ref 0)] [.ref 2] hp_b _
  refine am_gn 1 (pc1 := 8) (lv1 := [(1, .ref 2), (0, .ref 0)]) (st1 := []) (h1 := hp_b) rfl ?_
  refine am_g2 (z := (11, [], .inr (9, [.int 0, .null, .null, .null, .int 0, .int 0, .null, .null, .null, .null, .null, .null, .int 0, .int 0, .int 0, .null, .null, .int 0, .int 0, .int 0, .int 0, .null, .null, .int 0, .null, .null, .null, .null, .null, .null, .null, .int 0, .null, .int 0, .int 0, .null, .null]), 37)) (o := (some (.int 1), h1, 23, 6270)) rfl rfl rfl ?_
  show am_G _ _ 0 11 [(1, .ref 2), (0, .ref 0)] [.ref 32] hp_c _
  refine am_gn 1 (pc1 := 12) (lv1 := [(1, .ref 2), (0, .ref 0)]) (st1 := [.ref 32, .ref 32]) (h1 := hp_c) rfl ?_
  refine am_g1 (o1 := (none, zH st0, 23, 6270)) (o2 := (some (.int 1), h1, 0, 0)) rfl rfl rfl (am_gx _ cx_1) ?_
  show am_G _ _ 0 15 [(1, .ref 2), (0, .ref 0)] [.ref 32] (zH st0) _
  refine am_gn 1 (pc1 := 16) (lv1 := [(2, .ref 32), (1, .ref 2), (0, .ref 0)]) (st1 := []) (h1 := zH st0) rfl ?_
  exact hg
set_option maxRecDepth 100000 in
theorem lw_law (xs : List Int32) (hl : xs.length ≤ 2560) : ∃ h1 : List am_E, am_G (am_CX (some xs)) 200 0 0 [(0, .ref 0)] [] [] (some (.int 1), h1, 54, 9109) := by
  refine lw_go _ ?_
  refine am_wh 2 (pc1 := 18) (lv1 := [(3, .int 0), (2, .ref 32), (1, .ref 2), (0, .ref 0)]) (st1 := []) rfl ?_
  refine am_wm (lv := [(0, .ref 0), (1, .ref 2), (2, .ref 32), (3, .int 0)]) ?_ ⟨rfl, rfl, rfl, rfl, trivial⟩
  refine am_ww (lw_loop xs 199 (by decide) hl xs.length 0 0 [] st0 (Nat.le_refl _) (by decide) rfl cQ_0 mQ_0) ?_
  rintro _ _ ⟨v, s1, rfl, rfl, rfl⟩
  rfl
