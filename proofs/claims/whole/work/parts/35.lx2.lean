/-! Contracts of the class's Tokens. -/
def tkR (ts : List lxT) (s : zS) : Prop := (s.1 2).toInt = ts.length ∧ zP 272 (ts.map (fun x => x.1)) (s.2 4) ∧ zP 272 (ts.map (fun x => x.2.1)) (s.2 5) ∧ zP 272 (ts.map (fun x => x.2.2)) (s.2 6)
theorem tkR_E {F A : List Nat} {ts : List lxT} {s s1 : zS} (h : zE F A s s1) (hF : F.contains 2 = false) (h4 : A.contains 4 = false) (h5 : A.contains 5 = false) (h6 : A.contains 6 = false) (hk : tkR ts s) : tkR ts s1 := by
  unfold tkR
  rw [h.1 2 hF, h.2 4 h4, h.2 5 h5, h.2 6 h6]
  exact hk
def idR (ind : List Int) (s : zS) : Prop := (s.1 3).toInt = (ind.length : Int) + 1 ∧ (s.2 7).length = 24 ∧ ind.length ≤ 23 ∧ ∀ j, j < ind.length → ((s.2 7).getD (ind.length - j) 0).toInt = ind.getD j 0
theorem idR_E {F A : List Nat} {ind : List Int} {s s1 : zS} (h : zE F A s s1) (hF : F.contains 3 = false) (h7 : A.contains 7 = false) (hk : idR ind s) : idR ind s1 := by
  unfold idR
  rw [h.1 3 hF, h.2 7 h7]
  exact hk
theorem tX_E {F A : List Nat} {t : List Int32} {s s1 : zS} (h : zE F A s s1) (hF : F.contains 1 = false) (h2 : A.contains 2 = false) (hk : tX t s) : tX t s1 := by
  unfold tX
  rw [h.1 1 hF, h.2 2 h2]
  exact hk
theorem idR_pop {x : Int} {r : List Int} {s : zS} {v : Int32} (h : idR (x :: r) s) (hv : v.toInt = (r.length : Int) + 1) : idR r (zf s 3 v) := by
  obtain ⟨h1, h2, h3, h4⟩ := h
  refine ⟨hv, h2, by simp only [List.length_cons] at h3; omega, ?_⟩
  intro j hj
  have h5 := h4 (j + 1) (by simp only [List.length_cons]; omega)
  rw [show (x :: r).length - (j + 1) = r.length - j by simp only [List.length_cons]; omega] at h5
  exact h5
theorem idR_push {n : Int} {ind : List Int} {s : zS} {a v : Int32} (h : idR ind s) (ha : a.toInt = n) (hn : ind.length < 23) (hv : v.toInt = (ind.length : Int) + 2) : idR (n :: ind) (zf (za s 7 (zu (s.2 7) (s.1 3).toInt a)) 3 v) := by
  obtain ⟨h1, h2, h3, h4⟩ := h
  have e : (s.1 3).toInt.toNat = ind.length + 1 := by omega
  refine ⟨?_, ?_, by simp only [List.length_cons]; omega, ?_⟩
  · show v.toInt = _
    simp only [List.length_cons]; omega
  · show (zu (s.2 7) (s.1 3).toInt a).length = 24
    unfold zu; rw [List.length_set]; exact h2
  · intro j hj
    show ((zu (s.2 7) (s.1 3).toInt a).getD _ 0).toInt = _
    unfold zu
    rw [e, getD_set (by omega)]
    simp only [List.length_cons] at hj ⊢
    cases j with
    | zero => rw [if_pos (by omega)]; exact ha
    | succ j =>
      rw [if_neg (by omega), show ind.length + 1 - (j + 1) = ind.length - j by omega]
      exact h4 j (by omega)
theorem idR_top {x : Int} {r : List Int} {s : zS} (h : idR (x :: r) s) : zX (s.2 7) ((s.1 3).toInt - 1) ∧ (zg (s.2 7) ((s.1 3).toInt - 1)).toInt = x := by
  obtain ⟨h1, h2, h3, h4⟩ := h
  simp only [List.length_cons] at h1 h3
  refine ⟨⟨by omega, by rw [h2]; omega, by rw [h2]; omega⟩, ?_⟩
  have h5 := h4 0 (by simp)
  simp only [List.length_cons] at h5
  unfold zg
  rw [show ((s.1 3).toInt - 1).toNat = r.length + 1 - 0 by omega]
  exact h5
theorem zu_len (l : List Int32) (i : Int) (v : Int32) : (zu l i v).length = l.length := by unfold zu; rw [List.length_set]
theorem zP_add {n : Nat} {l : List Int} {a : List Int32} {i : Int} {v : Int32} (h : zP n l a) (hi : i = l.length) (hn : l.length < n) : zP n (l ++ [v.toInt]) (zu a i v) := by
  unfold zu
  rw [show i.toNat = l.length by omega]
  exact zP_push h hn
theorem ti_1 {a : Int32} {n : Int} (ha : a.toInt = n) (h0 : -2147483648 ≤ n) (h1 : n < 2147483647) : (a + 1).toInt = n + 1 := by
  have e : (1 : Int32).toInt = 1 := by decide
  rw [ti_add (by rw [ha, e]; exact ⟨by omega, by omega⟩), ha, e]
theorem ti_m1 {a : Int32} {n : Int} (ha : a.toInt = n) (h0 : -2147483648 < n) (h1 : n ≤ 2147483647) : (a - 1).toInt = n - 1 := by
  have e : (1 : Int32).toInt = 1 := by decide
  rw [ti_sub (by rw [ha, e]; exact ⟨by omega, by omega⟩), ha, e]
section LX
variable (xs : Option (List Int32)) (d : Nat)
theorem ct_106 {ts : List lxT} {s : zS} (h : tkR ts s) (hn : ts.length < 272) (a b c : Int32) (Q : zS → Prop) (hQ : ∀ s1, tkR (ts ++ [(a.toInt, b.toInt, c.toInt)]) s1 → zE [2] [4, 5, 6] s s1 → Q s1) : zWv xs d 106 0 [(0, .ref 5), (1, .int a), (2, .int b), (3, .int c)] s Q := by
  obtain ⟨h1, h2, h3, h4⟩ := h
  have e1 : (ts.map (fun x => x.1)).length = ts.length := List.length_map _
  have e2 : (ts.map (fun x => x.2.1)).length = ts.length := List.length_map _
  have e3 : (ts.map (fun x => x.2.2)).length = ts.length := List.length_map _
  refine vc_106_0 xs d s a b c Q ?_
  refine ⟨fun _ => ⟨zP_X h2 (by decide) (by omega) (by omega), zP_X h3 (by decide) (by omega) (by omega), zP_X h4 (by decide) (by omega) (by omega), ?_⟩, fun h => by omega⟩
  refine hQ _ ⟨?_, ?_, ?_, ?_⟩ (zE_f (zE_a (zE_a (zE_a (zE_r s) rfl) rfl) rfl) rfl)
  · show ((s.1 2) + 1).toInt = _
    rw [ti_1 h1 (by omega) (by omega), List.length_append]; rfl
  · show zP 272 _ (zu (s.2 4) (s.1 2).toInt a)
    rw [List.map_append]; exact zP_add h2 (by omega) (by omega)
  · show zP 272 _ (zu (s.2 5) (s.1 2).toInt b)
    rw [List.map_append]; exact zP_add h3 (by omega) (by omega)
  · show zP 272 _ (zu (s.2 6) (s.1 2).toInt c)
    rw [List.map_append]; exact zP_add h4 (by omega) (by omega)
theorem ct_102 {ind : List Int} {s : zS} (h : idR ind s) (Q : Int32 → zS → Prop) (hQ : ∀ v : Int32, v.toInt = lx_top ind → Q v s) : zWi xs d 102 0 [(0, .ref 5)] s Q := by
  refine vc_102_0 xs d s Q ?_
  have h1 := h.1
  cases ind with
  | nil =>
    simp only [List.length_nil] at h1
    exact ⟨fun h => by omega, fun _ => hQ 0 rfl⟩
  | cons x r =>
    obtain ⟨g1, g2⟩ := idR_top h
    simp only [List.length_cons] at h1
    exact ⟨fun _ => ⟨g1, hQ _ g2⟩, fun h => by omega⟩
theorem ct_101l (hd : 1 ≤ d) (a b : Int32) (Q : zS → Prop) : ∀ (ind : List Int) (ts : List lxT) (s : zS), tkR ts s → idR ind s → ts.length + ind.length + 1 ≤ 272 → (∀ s1, tkR (ts ++ List.replicate (lx_pop a.toInt ind).1 (6, b.toInt, b.toInt) ++ (if lx_top (lx_pop a.toInt ind).2 = a.toInt then [] else [(8, b.toInt, b.toInt)])) s1 → idR (lx_pop a.toInt ind).2 s1 → zE [2, 3] [4, 5, 6, 7] s s1 → Q s1) → zWv xs d 101 45 [(0, .ref 5), (1, .int a), (2, .int b)] s Q := by
  obtain ⟨d, rfl⟩ : ∃ e, d = e + 1 := ⟨d - 1, by omega⟩
  have hfin : ∀ (ind : List Int) (ts : List lxT) (s : zS), tkR ts s → idR ind s → ts.length + 1 ≤ 272 → (∀ s1, tkR (ts ++ (if lx_top ind = a.toInt then [] else [(8, b.toInt, b.toInt)])) s1 → idR ind s1 → zE [2, 3] [4, 5, 6, 7] s s1 → Q s1) → zWi xs d 102 0 [(0, .ref 5)] s (fun v16 s14 => (v16.toInt = a.toInt → (Q s14)) ∧ (¬ v16.toInt = a.toInt → (zWv xs d 106 0 [(0, .ref 5), (1, .int 8), (2, .int b), (3, .int b)] s14 (fun s22 => Q s22)))) := by
    intro ind ts s hk hi hn hQ
    refine ct_102 xs d hi _ (fun v hv => ?_)
    rw [hv]
    refine ⟨fun h => hQ s ?_ hi (zE_r s), fun h => ?_⟩
    · rw [if_pos h, List.append_nil]; exact hk
    · refine ct_106 xs d hk (by omega) 8 b b _ (fun s1 hk1 hE => hQ s1 ?_ (idR_E hE rfl rfl hi) ?_)
      · rw [if_neg h]; exact hk1
      · exact zE_m hE (fun k hk => by simp at hk ⊢; omega) (fun k hk => by simp at hk ⊢; omega)
  intro ind
  induction ind with
  | nil =>
    intro ts s hk hi hn hQ
    refine vc_101_45 xs d s a b Q ?_
    have h1 := hi.1
    simp only [List.length_nil] at h1
    refine ⟨fun h => by omega, fun _ => hfin [] ts s hk hi (by omega) (fun s1 g1 g2 g3 => hQ s1 ?_ g2 g3)⟩
    show tkR (ts ++ List.replicate 0 _ ++ _) s1
    rw [List.replicate_zero, List.append_nil]
    exact g1
  | cons x r ih =>
    intro ts s hk hi hn hQ
    refine vc_101_45 xs d s a b Q ?_
    obtain ⟨g1, g2⟩ := idR_top hi
    have h1 := hi.1
    simp only [List.length_cons] at h1 hn
    refine ⟨fun _ => ⟨g1, ?_⟩, fun h => by omega⟩
    rw [g2]
    unfold lx_pop at hQ
    refine ⟨fun hx => ?_, fun hx => ?_⟩
    · rw [if_pos hx] at hQ
      have hi1 : idR r (zf s 3 ((s.1 3) - 1)) := idR_pop hi (by rw [ti_m1 h1 (by omega) (by have := hi.2.2.1; simp only [List.length_cons] at this; omega)]; omega)
      refine ct_106 xs d (s := zf s 3 ((s.1 3) - 1)) (ts := ts) hk (by omega) 6 b b _ (fun s1 hk1 hE => ?_)
      refine ih _ s1 hk1 (idR_E hE rfl rfl hi1) (by rw [List.length_append, List.length_singleton]; omega) (fun s2 q1 q2 q3 => hQ s2 ?_ q2 ?_)
      · show tkR (ts ++ List.replicate ((lx_pop a.toInt r).1 + 1) _ ++ _) s2
        rw [List.replicate_succ]
        rw [List.append_assoc ts] at q1
        exact q1
      · refine zE_t (zE_t (zE_f (zE_r s) rfl) (zE_m hE ?_ ?_)) q3
        · exact fun k hk => by simp at hk ⊢; omega
        · exact fun k hk => by simp at hk ⊢; omega
    · rw [if_neg hx] at hQ
      refine hfin (x :: r) ts s hk hi (by omega) (fun s1 g1 g2 g3 => hQ s1 ?_ g2 g3)
      show tkR (ts ++ List.replicate 0 _ ++ _) s1
      rw [List.replicate_zero, List.append_nil]
      exact g1
theorem ct_101 (hd : 1 ≤ d) {ind : List Int} {ts : List lxT} {s : zS} (hk : tkR ts s) (hi : idR ind s) (hn : ts.length + ind.length + 1 ≤ 272) (hi2 : ind.length < 23) (a b : Int32) (Q : zS → Prop) (hQ : ∀ s1, tkR (lx_beg a.toInt b.toInt ts ind).1 s1 → idR (lx_beg a.toInt b.toInt ts ind).2 s1 → zE [2, 3] [4, 5, 6, 7] s s1 → Q s1) : zWv xs d 101 0 [(0, .ref 5), (1, .int a), (2, .int b)] s Q := by
  obtain ⟨d, rfl⟩ : ∃ e, d = e + 1 := ⟨d - 1, by omega⟩
  refine vc_101_0 xs d s a b Q ?_
  refine ct_102 xs d hi _ (fun v hv => ?_)
  rw [hv]
  unfold lx_beg at hQ
  have h1 := hi.1
  refine ⟨fun h => ⟨fun h24 => ⟨?_, ?_⟩, fun h24 => by omega⟩, fun h => ?_⟩
  · exact ⟨by omega, by rw [hi.2.1]; omega, by rw [hi.2.1]; omega⟩
  · rw [if_pos h] at hQ
    refine ct_106 xs d (s := zf (za s 7 (zu (s.2 7) (s.1 3).toInt a)) 3 ((s.1 3) + 1)) (ts := ts) hk (by omega) 5 b b _ (fun s1 hk1 hE => hQ s1 hk1 ?_ ?_)
    · exact idR_E hE rfl rfl (idR_push hi rfl hi2 (by rw [ti_1 h1 (by omega) (by omega)]; omega))
    · refine zE_t (zE_f (zE_a (zE_r s) rfl) rfl) (zE_m hE ?_ ?_)
      · exact fun k hk => by simp at hk ⊢; omega
      · exact fun k hk => by simp at hk ⊢; omega
  · rw [if_neg h] at hQ
    exact ct_101l xs (d + 1) hd a b Q ind ts s hk hi hn hQ
end LX
