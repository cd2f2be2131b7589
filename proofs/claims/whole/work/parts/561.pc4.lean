theorem pF_bd1 {r : pR} {f : pS → pR} (h : pF (pBd r f)) : pF r := by
  match r, h with
  | .inl e, h => exact h
  | .inr _, _ => exact trivial
theorem pF_bd2 {r : pR} {f : pS → pR} {s1 : pS} {o1 : pO} (h : pF (pBd r f)) (hr : r = .inr (s1, o1)) : pF (f s1) := by
  subst hr
  have h2 : pF (match f s1 with | .inl e => .inl e | .inr (st2, o2) => .inr (st2, pAp o1 o2)) := h
  match hf : f s1, h2 with
  | .inl e, h2 => exact h2
  | .inr _, _ => exact trivial
theorem pH_i {r : pR} {P : pS → pO → Prop} {s1 : pS} {o1 : pO} (h : pH r P) (hr : r = .inr (s1, o1)) : P s1 o1 := by
  subst hr
  exact h
theorem zm_1 {a : Int32} {n : Int} (ha : a.toInt = n) (h : zR (n + (-1))) : (a + (-1)).toInt = n + (-1) := by
  have em : ((-1 : Int32)).toInt = -1 := by decide
  rw [ti_add (by rw [ha, em]; exact h), ha, em]
section PC
variable (xs : Option (List Int32)) (d : Nat) {T : List lxT} {pl : Nat → Int} {ctx : pC} {M : pM} {st : pS} {s : zS}
theorem ct_61 (hd : 1 ≤ d) (hI : pI T ctx st M s) (hi : st.1 < T.length) (a : Int32) (c : Int) (ha : a.toInt = c) (Q : Int32 → zS → Prop) (hQ : Q (zb (decide (tc T st.1 = 0 ∧ tc T (st.1 + 1) = c))) s) : zWi xs d 61 0 [(0, .ref 26), (1, .int a)] s Q := by
  obtain ⟨d, rfl⟩ : ∃ e, d = e + 1 := ⟨d - 1, by omega⟩
  obtain ⟨hK, hU, hV⟩ := hI
  have hl := tkR_len hK.1
  refine vc_61_0 xs d s a Q ?_
  rw [hU.2.1, ha]
  refine ⟨fun h0 => ct_94 xs d hK.1 _ (st.1 + 1) (ti_inc hU.1 (by omega)) _ (fun v hv => ?_), fun h0 => ?_⟩
  · rw [hv]
    refine ⟨fun h1 => ?_, fun h1 => ?_⟩
    · rw [zb_1 (b := decide (tc T st.1 = 0 ∧ tc T (st.1 + 1) = c)) (decide_eq_true ⟨h0, h1⟩)]; exact hQ
    · rw [zb_0 (b := decide (tc T st.1 = 0 ∧ tc T (st.1 + 1) = c)) (decide_eq_false (fun e => h1 e.2))]; exact hQ
  · rw [zb_0 (b := decide (tc T st.1 = 0 ∧ tc T (st.1 + 1) = c)) (decide_eq_false (fun e => h0 e.1))]; exact hQ
end PC
