theorem lx_wf_b (w : Int64) : ∀ (l : List Int64) (k : Int), lx_wf l k w = 0 ∨ (k ≤ lx_wf l k w ∧ lx_wf l k w < k + l.length) := by
  intro l
  induction l with
  | nil => intro k; exact Or.inl rfl
  | cons c r ih =>
    intro k
    unfold lx_wf
    split
    · right; simp only [List.length_cons]; omega
    · rcases ih (k + 1) with h | h
      · exact Or.inl h
      · right; simp only [List.length_cons]; omega
theorem lx_wc_b (w : Int64) : lx_wc w = 0 ∨ (16 ≤ lx_wc w ∧ lx_wc w ≤ 29) := by
  rcases lx_wf_b w am_wd 16 with h | ⟨h1, h2⟩
  · exact Or.inl h
  · right
    have e : am_wd.length = 14 := rfl
    rw [e] at h2
    exact ⟨h1, by show lx_wf am_wd 16 w ≤ 29; omega⟩
theorem tkR_end {ts : List lxT} {s : zS} (h : tkR ts s) (hn : ts ≠ []) : zX (s.2 6) ((s.1 2).toInt - 1) ∧ (zg (s.2 6) ((s.1 2).toInt - 1)).toInt = lx_le ts := by
  obtain ⟨h1, h2, h3, h4⟩ := h
  have e3 : (ts.map (fun x => x.2.2)).length = ts.length := List.length_map _
  have hl : 0 < ts.length := List.length_pos_iff.mpr hn
  have := h4.2.1
  refine ⟨zP_X h4 (by decide) (by omega) (by omega), ?_⟩
  rw [zP_get h4 (by omega) (by omega)]
  unfold lx_le
  rw [show ((s.1 2).toInt - 1).toNat = ts.length - 1 by omega, List.getD_eq_getElem?_getD, List.getElem?_map, List.getD_eq_getElem?_getD, List.getElem?_eq_getElem (by omega)]
  rfl
section LX
variable (xs : Option (List Int32)) (d : Nat)
theorem ct_96 {ts : List lxT} {s : zS} (h : tkR ts s) (hn : ts ≠ []) (a : Int32) (ha : a.toInt = (ts.length : Int) - 1) (Q : Int32 → zS → Prop) (hQ : ∀ v : Int32, v.toInt = lx_le ts → Q v s) : zWi xs d 96 0 [(0, .ref 5), (1, .int a)] s Q := by
  have hl : 0 < ts.length := List.length_pos_iff.mpr hn
  obtain ⟨g1, g2⟩ := tkR_end h hn
  have h1 := h.1
  refine vc_96_0 xs d s a Q ?_
  have e : a.toInt = (s.1 2).toInt - 1 := by omega
  rw [e]
  exact ⟨fun h => by omega, fun _ => ⟨fun _ => ⟨g1, hQ _ g2⟩, fun h => by omega⟩⟩
theorem ct_99 (hd : 1 ≤ d) {ts : List lxT} {s : zS} (h : tkR ts s) (bare : Bool) (hb : bare = false → ts ≠ []) (hn : ts.length < 272) (Q : zS → Prop) (hQ : ∀ s1, tkR (lx_nl ts bare) s1 → zE [2] [4, 5, 6] s s1 → Q s1) : zWv xs d 99 0 [(0, .ref 5), (1, .int (zb bare))] s Q := by
  obtain ⟨d, rfl⟩ : ∃ e, d = e + 1 := ⟨d - 1, by omega⟩
  refine vc_99_0 xs d s (zb bare) Q ?_
  simp only [zb_e, Bool.not_eq_false]
  refine ⟨fun hf => ?_, fun ht => ?_⟩
  · have hl : 0 < ts.length := List.length_pos_iff.mpr (hb hf)
    refine ct_96 xs d h (hb hf) _ (by rw [ti_m1 h.1 (by omega) (by omega)]) _ (fun v hv => ?_)
    refine ct_106 xs d h hn 4 v v _ (fun s1 hk1 hE => hQ s1 ?_ hE)
    rw [hv] at hk1
    rw [hf]
    exact hk1
  · refine hQ s ?_ (zE_r s)
    rw [ht]
    exact h
theorem ct_100 (hd : 1 ≤ d) (Q : zS → Prop) : ∀ (ind : List Int) (ts : List lxT) (s : zS), tkR ts s → idR ind s → ts.length + ind.length + 1 ≤ 272 → (∀ s1, tkR (ts ++ List.replicate ind.length (6, (s.1 1).toInt, (s.1 1).toInt) ++ [(7, (s.1 1).toInt, (s.1 1).toInt)]) s1 → zE [2, 3] [4, 5, 6] s s1 → Q s1) → zWv xs d 100 0 [(0, .ref 5)] s Q := by
  obtain ⟨d, rfl⟩ : ∃ e, d = e + 1 := ⟨d - 1, by omega⟩
  intro ind
  induction ind with
  | nil =>
    intro ts s hk hi hn hQ
    refine vc_100_0 xs d s Q ?_
    have h1 := hi.1
    simp only [List.length_nil] at h1 hn
    refine ⟨fun h => by omega, fun _ => ?_⟩
    refine ct_106 xs d hk (by omega) 7 _ _ _ (fun s1 hk1 hE => hQ s1 ?_ (zE_m hE ?_ ?_))
    · rw [List.length_nil, List.replicate_zero, List.append_nil]; exact hk1
    · exact fun k hk => by simp at hk ⊢; omega
    · exact fun k hk => by simp at hk ⊢; omega
  | cons x r ih =>
    intro ts s hk hi hn hQ
    refine vc_100_0 xs d s Q ?_
    have h1 := hi.1
    simp only [List.length_cons] at h1 hn
    refine ⟨fun _ => ?_, fun h => by omega⟩
    have hi1 : idR r (zf s 3 ((s.1 3) - 1)) := idR_pop hi (by rw [ti_m1 h1 (by omega) (by have := hi.2.2.1; simp only [List.length_cons] at this; omega)]; omega)
    refine ct_106 xs d (s := zf s 3 ((s.1 3) - 1)) (ts := ts) hk (by omega) 6 _ _ _ (fun s1 hk1 hE => ?_)
    have e1 : s1.1 1 = s.1 1 := hE.1 1 rfl
    refine ih _ s1 hk1 (idR_E hE rfl rfl hi1) (by rw [List.length_append, List.length_singleton]; omega) (fun s2 q1 q2 => hQ s2 ?_ ?_)
    · rw [e1] at q1
      rw [List.length_cons, List.replicate_succ]
      rw [List.append_assoc ts] at q1
      exact q1
    · refine zE_t (zE_t (zE_f (zE_r s) rfl) (zE_m hE ?_ ?_)) q2
      · exact fun k hk => by simp at hk ⊢; omega
      · exact fun k hk => by simp at hk ⊢; omega
theorem ct_104 (s : zS) (c : Int32) (Q : Int32 → zS → Prop) (hQ : Q (zb (lx_sg c.toInt)) s) : zWi xs d 104 0 [(0, .int c)] s Q := by
  refine vc_104_0 xs d s c Q ⟨fun h => ?_, fun h => ?_⟩
  · rw [zb_1 (b := lx_sg c.toInt) (by unfold lx_sg; exact decide_eq_true h)]; exact hQ
  · rw [zb_0 (b := lx_sg c.toInt) (by unfold lx_sg; exact decide_eq_false (by omega))]; exact hQ
theorem ct_105 (s : zS) (c : Int32) (op : Int) (ho : (s.1 4).toInt = op) (h0 : 0 ≤ op) (h1 : op < 1000) (Q : zS → Prop) (hQ : ∀ s1, (s1.1 4).toInt = lx_op c.toInt op → zE [4] [] s s1 → Q s1) : zWv xs d 105 0 [(0, .ref 5), (1, .int c)] s Q := by
  have q1 : lx_op c.toInt op = op + 1 → Q (zf s 4 ((s.1 4) + 1)) := fun e => hQ _ (by show ((s.1 4) + 1).toInt = _; rw [ti_1 ho (by omega) (by omega), e]) (zE_f (zE_r s) rfl)
  have q2 : lx_op c.toInt op = op - 1 → Q (zf s 4 ((s.1 4) - 1)) := fun e => hQ _ (by show ((s.1 4) - 1).toInt = _; rw [ti_m1 ho (by omega) (by omega), e]) (zE_f (zE_r s) rfl)
  have q3 : lx_op c.toInt op = op → Q s := fun e => hQ _ (by rw [ho, e]) (zE_r s)
  refine vc_105_0 xs d s c Q ?_
  rw [ho]
  repeat' (first | refine And.intro ?_ ?_ | intro _)
  all_goals first | exact q1 (by unfold lx_op; rw [if_pos (by omega)]) | exact q2 (by unfold lx_op; rw [if_neg (by omega), if_pos (by omega)]) | exact q3 (by unfold lx_op; rw [if_neg (by omega), if_neg (by omega)])
theorem lx_op_n {c op : Int} (h : c < 40 ∨ 93 < c) : lx_op c op = op := by
  unfold lx_op
  rw [if_neg (by omega), if_neg (by omega)]
theorem ct_103 (hd : 3 ≤ d) {t : List Int32} {ts : List lxT} {s : zS} (ht : tX t s) (hk : tkR ts s) (hn : ts.length < 272) (p : Nat) (hp : p < t.length) (a : Int32) (ha : a.toInt = p) (op : Int) (ho : (s.1 4).toInt = op) (h0 : 0 ≤ op) (h1 : op < 1000) (Q : Int32 → zS → Prop) (hQ : ∀ (v : Int32) (s1 : zS), v.toInt = (lx_one t p).2 → tkR (ts ++ [((lx_one t p).1, (p : Int), ((lx_one t p).2 : Int))]) s1 → (s1.1 4).toInt = lx_op (lx_one t p).1 op → zE [2, 4] [4, 5, 6] s s1 → Q v s1) : zWi xs d 103 0 [(0, .ref 5), (1, .int a)] s Q := by
  obtain ⟨d, rfl⟩ : ∃ e, d = e + 1 := ⟨d - 1, by omega⟩
  have h200 := ht.2.2.1
  have a1 : (a + 1).toInt = ((p + 1 : Nat) : Int) := ti_inc ha (by omega)
  have a2 : (a + 2).toInt = ((p + 2 : Nat) : Int) := by
    have e : (2 : Int32).toInt = 2 := by decide
    rw [ti_add (by rw [ha, e]; exact ⟨by omega, by omega⟩), ha, e]; omega
  have hm : ∀ k, [2, 4].contains k = false → [2].contains k = false := fun k hk => by simp at hk ⊢; omega
  have hm4 : ∀ k, [2, 4].contains k = false → [4].contains k = false := fun k hk => by simp at hk ⊢; omega
  -- a token that is no bracket is added
  have hadd : ∀ (code e : Int32) (v : Int32), (lx_one t p).1 = code.toInt → ((lx_one t p).2 : Int) = e.toInt → v.toInt = (lx_one t p).2 → lx_op code.toInt op = op → zWv xs d 106 0 [(0, .ref 5), (1, .int code), (2, .int a), (3, .int e)] s (fun s1 => Q v s1) := by
    intro code e v e1 e2 e3 e4
    refine ct_106 xs d hk hn code a e _ (fun s1 hk1 hE => hQ v s1 e3 ?_ ?_ (zE_m hE hm (fun _ h => h)))
    · rw [e1, e2, ← ha]; exact hk1
    · rw [hE.1 4 rfl, ho, e1, e4]
  -- a sign, or BAD
  have hsg : ∀ v3 : Int32, v3.toInt = lx_c t p → lx_L (lx_c t p) = false → lx_D (lx_c t p) = false → ¬ (lx_c t p = 58 ∧ lx_at t ((p + 1 : Nat) : Int) = 61) → zWi xs d 104 0 [(0, .int v3)] s (fun v34 s32 => (v34.toInt = 0 → (zWv xs d 106 0 [(0, .ref 5), (1, .int 8), (2, .int a), (3, .int (a + 1))] s32 (fun s39 => Q (a + 1) s39))) ∧ (¬ v34.toInt = 0 → (zWv xs d 105 0 [(0, .ref 5), (1, .int v3)] s32 (fun s42 => zWv xs d 106 0 [(0, .ref 5), (1, .int v3), (2, .int a), (3, .int (a + 1))] s42 (fun s44 => Q (a + 1) s44))))) := by
    intro v3 hv3 hL hD hW
    refine ct_104 xs d s v3 _ ?_
    simp only [zb_e, Bool.not_eq_false]
    rw [hv3]
    have eo : lx_one t p = if lx_sg (lx_c t p) = true then (lx_c t p, p + 1) else (8, p + 1) := by
      unfold lx_one
      rw [hL, hD, if_neg Bool.false_ne_true, if_neg Bool.false_ne_true, if_neg hW]
    refine ⟨fun hs => ?_, fun hs => ?_⟩
    · rw [hs, if_neg Bool.false_ne_true] at eo
      exact hadd 8 (a + 1) (a + 1) (by rw [eo]; rfl) (by rw [eo, a1]) (by rw [eo, a1]) (lx_op_n (by decide))
    · rw [hs, if_pos rfl] at eo
      refine ct_105 xs d s v3 op ho h0 h1 _ (fun s1 hs1 hE => ?_)
      refine ct_106 xs d (tkR_E hE rfl rfl rfl rfl hk) hn v3 a (a + 1) _ (fun s2 hk2 hE2 => hQ _ s2 ?_ ?_ ?_ ?_)
      · rw [eo, a1]
      · rw [eo]; rw [hv3, ha, a1] at hk2; exact hk2
      · rw [hE2.1 4 rfl, hs1, eo, hv3]
      · exact zE_t (zE_m hE hm4 (fun k _ => rfl)) (zE_m hE2 hm (fun _ h => h))
  refine vc_103_0 xs d s a Q ?_
  refine ct_85n xs d s ht p hp a ha _ (fun v3 hv3 => ?_)
  refine ct_83 xs d s v3 _ ?_
  simp only [zb_e, Bool.not_eq_false]
  rw [hv3]
  refine ⟨fun hL => ?_, fun hL => ?_⟩
  · refine ct_82 xs d s v3 _ ?_
    simp only [zb_e, Bool.not_eq_false]
    rw [hv3]
    refine ⟨fun hD => ⟨fun h58 => ?_, fun h58 => hsg v3 hv3 hL hD (fun h => h58 h.1)⟩, fun hD => ?_⟩
    · refine ct_85 xs d s ht (a + 1) _ (fun v4 hv4 => ?_)
      rw [hv4, a1]
      refine ⟨fun h61 => ?_, fun h61 => hsg v3 hv3 hL hD (fun h => h61 h.2)⟩
      have eo : lx_one t p = (128, p + 2) := by
        unfold lx_one
        rw [hL, hD, if_neg Bool.false_ne_true, if_neg Bool.false_ne_true, if_pos ⟨h58, h61⟩]
      exact hadd 128 (a + 2) (a + 2) (by rw [eo]; rfl) (by rw [eo, a2]) (by rw [eo, a2]) (lx_op_n (by decide))
    · refine ct_88 xs d s (by omega) ht p a ha _ (fun v hv => ?_)
      have eo : lx_one t p = (1, lx_e lx_D t p) := by
        unfold lx_one
        rw [hL, hD, if_neg Bool.false_ne_true, if_pos rfl]
      exact hadd 1 v v (by rw [eo]; rfl) (by rw [eo, hv]) (by rw [eo, hv]) (lx_op_n (by decide))
  · refine ct_89 xs d s (by omega) ht p a ha _ (fun v hv => ?_)
    have eo : lx_one t p = (lx_wc (lx_w t p (lx_e lx_A t p)), lx_e lx_A t p) := by
      unfold lx_one
      rw [hL, if_pos rfl]
    refine ct_91 xs d s (by omega) ht p (lx_e lx_A t p) (lx_e_ge _ _ _) (lx_e_le (Nat.le_of_lt hp)) a v ha hv _ ?_
    refine ct_93 xs d s _ _ (fun w hw => ?_)
    refine hadd w v v (by rw [eo, hw]) (by rw [eo, hv]) (by rw [eo, hv]) (lx_op_n ?_)
    rw [hw]
    have := lx_wc_b (lx_w t p (lx_e lx_A t p))
    omega
end LX
