def mR (ts : List lxT) (s : zS) : Prop := mkR ts s ∧ rlR (List.replicate ts.length 0) s
theorem mR_E {F A : List Nat} {ts : List lxT} {s s1 : zS} (h : zE F A s s1) (hF : F.contains 23 = false) (h4 : A.contains 34 = false) (h5 : A.contains 35 = false) (h6 : A.contains 36 = false) (h7 : A.contains 37 = false) (h8 : A.contains 38 = false) (hk : mR ts s) : mR ts s1 := by
  refine ⟨mkR_E h hF h4 h5 h6 h7 hk.1, ?_⟩
  unfold rlR
  rw [h.2 38 h8]
  exact hk.2
theorem mkR_end {ts : List lxT} {s : zS} (h : mkR ts s) (hn : ts ≠ []) : zX (s.2 36) ((s.1 23).toInt - 1) ∧ (zg (s.2 36) ((s.1 23).toInt - 1)).toInt = lx_le ts := by
  obtain ⟨h1, h2, h3, h4, h5, h6⟩ := h
  have e3 : (ts.map (fun x => x.2.2)).length = ts.length := List.length_map _
  have hl : 0 < ts.length := List.length_pos_iff.mpr hn
  have := h4.2.1
  refine ⟨zP_X h4 (by decide) (by omega) (by omega), ?_⟩
  rw [zP_get h4 (by omega) (by omega)]
  unfold lx_le
  rw [show ((s.1 23).toInt - 1).toNat = ts.length - 1 by omega, List.getD_eq_getElem?_getD, List.getElem?_map, List.getD_eq_getElem?_getD, List.getElem?_eq_getElem (by omega)]
  rfl
theorem lx_k_s (t : List Int32) : ∀ (n p : Nat) (w : Int64), lx_k t (n + 1) p w = ((lx_k t n p w) <<< (Int32.toInt64 8 &&& 63)) ||| (Int32.toInt64 (t.getD (p + n) 0)) := by
  intro n
  induction n with
  | zero => intro p w; rfl
  | succ n ih =>
    intro p w
    show lx_k t (n + 1) (p + 1) _ = _
    rw [ih (p + 1)]
    rw [show p + 1 + n = p + (n + 1) by omega]
    rfl
theorem tC_b {t : List Int32} (hc : ∀ c ∈ t, ed_ok c = true) {p : Nat} (hp : p < t.length) : 0 ≤ (t.getD p 0).toInt ∧ (t.getD p 0).toInt < 127 := by
  have e : t.getD p 0 = t[p] := by rw [List.getD_eq_getElem?_getD, List.getElem?_eq_getElem hp]; rfl
  rw [e]
  have h := hc t[p] (List.getElem_mem hp)
  generalize t[p] = c at h
  unfold ed_ok at h
  have h32 : (32 : Int32).toInt = 32 := by decide
  have h126 : (126 : Int32).toInt = 126 := by decide
  rcases Bool.or_eq_true_iff.mp h with h | h
  · have := of_decide_eq_true h
    subst this
    decide
  · have h1 := Bool.and_eq_true_iff.mp h
    have h2 := of_decide_eq_false (Bool.not_eq_true' _ |>.mp h1.1)
    have h3 := of_decide_eq_false (Bool.not_eq_true' _ |>.mp h1.2)
    rw [Int32.lt_iff_toInt_lt] at h2 h3
    rw [h32] at h2
    rw [h126] at h3
    omega
section LM
variable (xs : Option (List Int32)) (d : Nat)
theorem ct_140m {ts : List lxT} {s : zS} (h : mR ts s) (hn : ts.length < 420) (k w b e : Int32) (c : Int) (hk : k.toInt = lx_kd c) (hw : c ≠ 8 → w.toInt = lx_wh c) (Q : zS → Prop) (hQ : ∀ s1, mR (ts ++ [(c, b.toInt, e.toInt)]) s1 → zE [23] [34, 35, 36, 37, 38] s s1 → Q s1) : zWv xs d 140 0 [(0, .ref 32), (1, .int k), (2, .int w), (3, .int b), (4, .int e)] s Q := by
  refine ct_140 xs d h.1 h.2 hn k w b e c hk hw Q (fun s1 g1 g2 g3 _ => hQ s1 ⟨g1, ?_⟩ g3)
  rw [List.length_append]
  exact g2
theorem ct_142 (hd : 1 ≤ d) {ts : List lxT} {s : zS} (h : mR ts s) (bare : Bool) (hb : bare = false → ts ≠ []) (hn : ts.length < 420) (a : Int32) (ha : a = zb (!bare)) (Q : zS → Prop) (hQ : ∀ s1, mR (lx_nl ts bare) s1 → zE [23] [34, 35, 36, 37, 38] s s1 → Q s1) : zWv xs d 142 0 [(0, .ref 32), (1, .int a)] s Q := by
  obtain ⟨d, rfl⟩ : ∃ e, d = e + 1 := ⟨d - 1, by omega⟩
  subst ha
  refine vc_142_0 xs d s _ Q ?_
  simp only [zb_e, Bool.not_eq_false]
  refine ⟨fun ht => ?_, fun hf => ?_⟩
  · have ht : bare = true := by cases bare <;> simp at ht ⊢
    refine hQ s ?_ (zE_r s)
    rw [ht]
    exact h
  · have hf : bare = false := by cases bare <;> simp at hf ⊢
    obtain ⟨g1, g2⟩ := mkR_end h.1 (hb hf)
    refine ⟨g1, ?_⟩
    refine ct_140m xs d h hn 4 0 _ _ 4 (by decide) (fun _ => by decide) _ (fun s1 hk1 hE => hQ s1 ?_ hE)
    rw [g2] at hk1
    rw [hf]
    exact hk1
theorem ct_143l (hd : 1 ≤ d) (a3 a4 : Int32) (h0 : 0 ≤ a4.toInt) (Q : Int32 → zS → Prop) : ∀ (ind : List Int) (ts : List lxT) (s : zS) (a5 : Int32), mR ts s → rwR ind s → a5.toInt = (ind.length : Int) + 1 → ts.length + ind.length + 1 ≤ 420 → (∀ (v : Int32) (s1 : zS), v.toInt = ((lx_pop a4.toInt ind).2.length : Int) + 1 → mR (ts ++ List.replicate (lx_pop a4.toInt ind).1 (6, a3.toInt, a3.toInt) ++ (if lx_top (lx_pop a4.toInt ind).2 = a4.toInt then [] else [(8, a3.toInt, a3.toInt)])) s1 → rwR (lx_pop a4.toInt ind).2 s1 → zE [23] [34, 35, 36, 37, 38] s s1 → Q v s1) → zWi xs d 143 44 [(0, .ref 32), (3, .int a3), (4, .int a4), (5, .int a5)] s Q := by
  obtain ⟨d, rfl⟩ : ∃ e, d = e + 1 := ⟨d - 1, by omega⟩
  intro ind
  induction ind with
  | nil =>
    intro ts s a5 hk hi ha hn hQ
    obtain ⟨g1, g2⟩ := rwR_top hi ha
    refine vc_143_44 xs d s a3 a4 a5 Q ⟨g1, ?_⟩
    rw [g2]
    show (a4.toInt < 0 → _) ∧ (¬ a4.toInt < 0 → (a4.toInt = 0 → _) ∧ (¬ a4.toInt = 0 → _))
    refine ⟨fun h => by omega, fun _ => ⟨fun h => hQ a5 s ha ?_ hi (zE_r s), fun h => ?_⟩⟩
    · show mR (ts ++ List.replicate 0 _ ++ (if lx_top [] = a4.toInt then [] else _)) s
      rw [if_pos (show lx_top [] = a4.toInt from h.symm), List.replicate_zero, List.append_nil, List.append_nil]; exact hk
    · refine ct_140m xs d hk (by simp only [List.length_nil] at hn; omega) 8 0 a3 a3 8 (by decide) (fun h => absurd rfl h) _ (fun s1 g1 g2 => hQ a5 s1 ha ?_ (rwR_E g2 rfl hi) g2)
      show mR (ts ++ List.replicate 0 _ ++ (if lx_top [] = a4.toInt then [] else _)) s1
      rw [if_neg (show ¬ lx_top [] = a4.toInt from fun e => h (Eq.symm e)), List.replicate_zero, List.append_nil]; exact g1
  | cons x r ih =>
    intro ts s a5 hk hi ha hn hQ
    obtain ⟨g1, g2⟩ := rwR_top hi ha
    refine vc_143_44 xs d s a3 a4 a5 Q ⟨g1, ?_⟩
    rw [g2]
    simp only [List.length_cons] at hn ha
    have h200 := hi.2.1
    simp only [List.length_cons] at h200
    unfold lx_pop at hQ
    show (a4.toInt < x → _) ∧ (¬ a4.toInt < x → (a4.toInt = x → _) ∧ (¬ a4.toInt = x → _))
    refine ⟨fun hx => ?_, fun hx => ?_⟩
    · rw [if_pos hx] at hQ
      refine ct_140m xs d hk (by omega) 6 0 a3 a3 6 (by decide) (fun _ => by decide) _ (fun s1 hk1 hE => ?_)
      have e1 : (a5 + (-1)).toInt = (r.length : Int) + 1 := by
        have em : ((-1 : Int32)).toInt = -1 := by decide
        rw [ti_add (by rw [ha, em]; exact ⟨by omega, by omega⟩), ha, em]; omega
      refine ih _ s1 _ hk1 (rwR_E hE rfl (rwR_pop hi)) e1 (by rw [List.length_append, List.length_singleton]; omega) (fun v s2 q0 q1 q2 q3 => hQ v s2 q0 ?_ q2 (zE_t hE q3))
      show mR (ts ++ List.replicate ((lx_pop a4.toInt r).1 + 1) _ ++ _) s2
      rw [List.replicate_succ]
      rw [List.append_assoc ts] at q1
      exact q1
    · rw [if_neg hx] at hQ
      refine ⟨fun h => hQ a5 s ha ?_ hi (zE_r s), fun h => ?_⟩
      · show mR (ts ++ List.replicate 0 _ ++ (if lx_top (x :: r) = a4.toInt then [] else _)) s
        rw [if_pos (show lx_top (x :: r) = a4.toInt from h.symm), List.replicate_zero, List.append_nil, List.append_nil]; exact hk
      · refine ct_140m xs d hk (by omega) 8 0 a3 a3 8 (by decide) (fun h => absurd rfl h) _ (fun s1 g1 g2 => hQ a5 s1 ha ?_ (rwR_E g2 rfl hi) g2)
        show mR (ts ++ List.replicate 0 _ ++ (if lx_top (x :: r) = a4.toInt then [] else _)) s1
        rw [if_neg (show ¬ lx_top (x :: r) = a4.toInt from fun e => h (Eq.symm e)), List.replicate_zero, List.append_nil]; exact g1
theorem ct_143 (hd : 1 ≤ d) {ind : List Int} {ts : List lxT} {s : zS} (hk : mR ts s) (hi : rwR ind s) (hn : ts.length + ind.length + 1 ≤ 420) (hi2 : ind.length < 199) (a1 a2 a3 : Int32) (h1 : a1.toInt = (ind.length : Int) + 1) (p lb : Nat) (h2 : a2.toInt = lb) (h3 : a3.toInt = p) (hlp : lb ≤ p) (hp : p ≤ 200) (Q : Int32 → zS → Prop) (hQ : ∀ (v : Int32) (s1 : zS), v.toInt = ((lx_beg ((p : Int) - lb) p ts ind).2.length : Int) + 1 → mR (lx_beg ((p : Int) - lb) p ts ind).1 s1 → rwR (lx_beg ((p : Int) - lb) p ts ind).2 s1 → zE [23] [34, 35, 36, 37, 38, 39] s s1 → Q v s1) : zWi xs d 143 0 [(0, .ref 32), (1, .int a1), (2, .int a2), (3, .int a3)] s Q := by
  obtain ⟨d, rfl⟩ : ∃ e, d = e + 1 := ⟨d - 1, by omega⟩
  obtain ⟨g1, g2⟩ := rwR_top hi h1
  have hs : (a3 - a2).toInt = (p : Int) - lb := by
    rw [ti_sub (by rw [h3, h2]; exact ⟨by omega, by omega⟩), h3, h2]
  have hm : ∀ k, [34, 35, 36, 37, 38, 39].contains k = false → [34, 35, 36, 37, 38].contains k = false := fun k hk => by simp at hk ⊢; omega
  refine vc_143_0 xs d s a1 a2 a3 Q ?_
  rw [g2, h2, h3]
  unfold lx_beg at hQ
  refine ⟨g1, ⟨by omega, by omega⟩, fun h => ⟨?_, ?_⟩, fun h => ?_⟩
  · exact ⟨by omega, by rw [hi.1]; omega, by rw [hi.1]; omega⟩
  · rw [if_pos h] at hQ
    have hk1 : mR ts (za s 39 (zu (s.2 39) a1.toInt (a3 - a2))) := hk
    refine ct_140m xs d hk1 (by omega) 5 0 a3 a3 5 (by decide) (fun _ => by decide) _ (fun s1 g1 g2 => hQ _ s1 ?_ ?_ (rwR_E g2 rfl (rwR_push hi h1 hs hi2)) (zE_t (zE_a (zE_r s) rfl) (zE_m g2 (fun _ h => h) hm)))
    · rw [ti_1 h1 (by omega) (by omega)]; simp only [List.length_cons]; omega
    · rw [h3] at g1; exact g1
  · rw [if_neg h] at hQ
    rw [← hs] at hQ
    rw [← h3] at hQ
    exact ct_143l xs (d + 1) hd a3 (a3 - a2) (by rw [hs]; omega) Q ind ts s a1 hk hi h1 hn (fun v s1 q1 q2 q3 q4 => hQ v s1 q1 q2 q3 (zE_m q4 (fun _ h => h) hm))
end LM
