theorem tk_c {T : List lxT} {s : zS} (h : tkR T s) {i : Nat} (hi : i < T.length) : zX (s.2 4) (i : Int) ∧ zX (s.2 5) (i : Int) ∧ zX (s.2 6) (i : Int) ∧ (zg (s.2 4) (i : Int)).toInt = tc T i ∧ (zg (s.2 5) (i : Int)).toInt = tb T i ∧ (zg (s.2 6) (i : Int)).toInt = te T i := by
  obtain ⟨h1, h2, h3, h4⟩ := h
  have l2 := h2.2.1
  rw [List.length_map] at l2
  refine ⟨zP_X h2 (by decide) (by omega) (by omega), zP_X h3 (by decide) (by omega) (by omega), zP_X h4 (by decide) (by omega) (by omega), ?_, ?_, ?_⟩
  · rw [zP_get h2 (by omega) (by rw [List.length_map]; omega), show ((i : Int)).toNat = i by omega, List.getD_eq_getElem?_getD, List.getElem?_map]
    unfold tc
    rw [List.getD_eq_getElem?_getD, List.getElem?_eq_getElem hi]; rfl
  · rw [zP_get h3 (by omega) (by rw [List.length_map]; omega), show ((i : Int)).toNat = i by omega, List.getD_eq_getElem?_getD, List.getElem?_map]
    unfold tb
    rw [List.getD_eq_getElem?_getD, List.getElem?_eq_getElem hi]; rfl
  · rw [zP_get h4 (by omega) (by rw [List.length_map]; omega), show ((i : Int)).toNat = i by omega, List.getD_eq_getElem?_getD, List.getElem?_map]
    unfold te
    rw [List.getD_eq_getElem?_getD, List.getElem?_eq_getElem hi]; rfl
theorem tkR_len {T : List lxT} {s : zS} (h : tkR T s) : T.length ≤ 272 := by
  have := h.2.1.2.1
  rw [List.length_map] at this
  exact this
/-- from scope c, k comprehensions outwards, stands ow -/
def pch (ss ps : List Int) : Nat → Int → Int → Prop
  | 0, c, ow => 0 ≤ c ∧ c < (ss.length : Int) ∧ ss.getD c.toNat 0 ≠ 4 ∧ c = ow
  | k + 1, c, ow => 0 ≤ c ∧ c < (ss.length : Int) ∧ ss.getD c.toNat 0 = 4 ∧ pch ss ps k (ps.getD c.toNat 0) ow
theorem pch_app {ss ps s2 p2 : List Int} (hl : ps.length = ss.length) : ∀ {k : Nat} {c ow : Int}, pch ss ps k c ow → pch (ss ++ s2) (ps ++ p2) k c ow := by
  intro k
  induction k with
  | zero =>
    intro c ow h
    obtain ⟨h1, h2, h3, h4⟩ := h
    refine ⟨h1, by rw [List.length_append]; omega, ?_, h4⟩
    rw [getD_app, if_pos (by omega)]; exact h3
  | succ k ih =>
    intro c ow h
    obtain ⟨h1, h2, h3, h4⟩ := h
    refine ⟨h1, by rw [List.length_append]; omega, ?_, ?_⟩
    · rw [getD_app, if_pos (by omega)]; exact h3
    · rw [getD_app, if_pos (by omega)]; exact ih h4
section PC
variable (xs : Option (List Int32)) (d : Nat) {T : List lxT}
theorem ct_29 {s : zS} (hK : pK T s) (a1 a2 a3 a4 a5 : Int32) (Q : zS → Prop) (hQ : ∀ s1, pK T s1 → zE [7] [16, 17, 18, 19, 20] s s1 → (∀ C (t : Nat), C.length < 100 → oR T C s → a1.toInt = tb T t → a2.toInt = te T t → oR T (C ++ [(t, a3.toInt, a4.toInt, a5.toInt)]) s1) → Q s1) : zWv xs d 29 0 [(0, .ref 17), (1, .int a1), (2, .int a2), (3, .int a3), (4, .int a4), (5, .int a5)] s Q := by
  have hK0 := hK
  obtain ⟨k1, k2, k3, k4, k5, k6, k7, k8, k9, k10, k11, k12, k13, k14, k15, k16, k17⟩ := hK
  refine vc_29_0 xs d s a1 a2 a3 a4 a5 Q ⟨fun h => ⟨⟨by omega, by omega, by omega⟩, ⟨by omega, by omega, by omega⟩, ⟨by omega, by omega, by omega⟩, ⟨by omega, by omega, by omega⟩, ⟨by omega, by omega, by omega⟩, hQ _ ?_ (zE_f (zE_a (zE_a (zE_a (zE_a (zE_a (zE_r s) rfl) rfl) rfl) rfl) rfl) rfl) ?_⟩, fun h => hQ s hK0 (zE_r s) ?_⟩
  · refine ⟨k1, k2, k3, k4, k5, k6, ?_, ?_, ?_, ?_, ?_, k12, k13, k14, k15, ?_, ?_⟩
    · show (zu (s.2 16) (s.1 7).toInt a1).length = 100; rw [zu_len]; exact k7
    · show (zu (s.2 17) (s.1 7).toInt a2).length = 100; rw [zu_len]; exact k8
    · show (zu (s.2 18) (s.1 7).toInt a3).length = 100; rw [zu_len]; exact k9
    · show (zu (s.2 19) (s.1 7).toInt a4).length = 100; rw [zu_len]; exact k10
    · show (zu (s.2 20) (s.1 7).toInt a5).length = 100; rw [zu_len]; exact k11
    · show 0 ≤ ((s.1 7) + 1).toInt; rw [ti_1 rfl (by omega) (by omega)]; omega
    · show ((s.1 7) + 1).toInt ≤ 100; rw [ti_1 rfl (by omega) (by omega)]; omega
  · intro C t hC hO e1 e2
    obtain ⟨o1, o2, o3, o4, o5, o6⟩ := hO
    unfold oR
    simp only [List.map_append, List.map_cons, List.map_nil]
    refine ⟨?_, ?_, ?_, ?_, ?_, ?_⟩
    · show ((s.1 7) + 1).toInt = _
      rw [ti_1 rfl (by omega) (by omega), List.length_append, o1]; rfl
    · show zP 100 _ (zu (s.2 16) (s.1 7).toInt a1)
      rw [← e1]; exact zP_add o2 (by rw [List.length_map]; omega) (by rw [List.length_map]; omega)
    · show zP 100 _ (zu (s.2 17) (s.1 7).toInt a2)
      rw [← e2]; exact zP_add o3 (by rw [List.length_map]; omega) (by rw [List.length_map]; omega)
    · exact zP_add o4 (by rw [List.length_map]; omega) (by rw [List.length_map]; omega)
    · exact zP_add o5 (by rw [List.length_map]; omega) (by rw [List.length_map]; omega)
    · exact zP_add o6 (by rw [List.length_map]; omega) (by rw [List.length_map]; omega)
  · intro C t hC hO e1 e2
    have := hO.1
    omega
theorem ct_70 {s : zS} (hK : pK T s) (a1 a2 : Int32) (Q : Int32 → zS → Prop) (hQ : ∀ (v : Int32) (s1 : zS), pK T s1 → zE [6] [12, 13, 14] s s1 → (∀ ss ps ts, ss.length < 32 → sR ss ps ts s → v.toInt = (ss.length : Int) ∧ sR (ss ++ [a1.toInt]) (ps ++ [a2.toInt]) (ts ++ [-1]) s1) → Q v s1) : zWi xs d 70 0 [(0, .ref 13), (1, .int a1), (2, .int a2)] s Q := by
  have hK0 := hK
  obtain ⟨k1, k2, k3, k4, k5, k6, k7, k8, k9, k10, k11, k12, k13, k14, k15, k16, k17⟩ := hK
  refine vc_70_0 xs d s a1 a2 Q ⟨fun h => ⟨⟨by omega, by omega, by omega⟩, ⟨by omega, by omega, by omega⟩, ⟨by omega, by omega, by omega⟩, hQ _ _ ?_ (zE_f (zE_a (zE_a (zE_a (zE_r s) rfl) rfl) rfl) rfl) ?_⟩, fun h => hQ _ s hK0 (zE_r s) ?_⟩
  · refine ⟨k1, k2, k3, ?_, ?_, ?_, k7, k8, k9, k10, k11, k12, k13, ?_, ?_, k16, k17⟩
    · show (zu (s.2 12) (s.1 6).toInt a1).length = 32; rw [zu_len]; exact k4
    · show (zu (s.2 13) (s.1 6).toInt a2).length = 32; rw [zu_len]; exact k5
    · show (zu (s.2 14) (s.1 6).toInt (-1)).length = 32; rw [zu_len]; exact k6
    · show 0 ≤ ((s.1 6) + 1).toInt; rw [ti_1 rfl (by omega) (by omega)]; omega
    · show ((s.1 6) + 1).toInt ≤ 32; rw [ti_1 rfl (by omega) (by omega)]; omega
  · intro ss ps ts hl hS
    obtain ⟨s1, s2, s3, s4, s5, s6⟩ := hS
    refine ⟨?_, ?_, ?_, ?_, ?_, ?_, ?_⟩
    · rw [ti_m1 (ti_1 s1 (by omega) (by omega)) (by omega) (by omega)]; omega
    · show ((s.1 6) + 1).toInt = _
      rw [ti_1 s1 (by omega) (by omega), List.length_append]; rfl
    · simp only [List.length_append, List.length_cons, List.length_nil]; omega
    · simp only [List.length_append, List.length_cons, List.length_nil]; omega
    · show zP 32 _ (zu (s.2 12) (s.1 6).toInt a1)
      exact zP_add s4 (by omega) (by omega)
    · show zP 32 _ (zu (s.2 13) (s.1 6).toInt a2)
      exact zP_add s5 (by omega) (by omega)
    · show zP 32 _ (zu (s.2 14) (s.1 6).toInt (-1))
      have em : ((-1 : Int32)).toInt = -1 := by decide
      have h9 := zP_add (v := -1) s6 (i := (s.1 6).toInt) (by omega) (by omega)
      rw [em] at h9
      exact h9
  · intro ss ps ts hl hS
    have := hS.1
    omega
theorem ct_71 {s : zS} (hK : pK T s) (a : Int32) (Q : Int32 → zS → Prop) (hQ : ∀ v : Int32, (∀ ss ps ts, sR ss ps ts s → 0 ≤ a.toInt → a.toInt < ss.length → v.toInt = ss.getD a.toInt.toNat 0) → Q v s) : zWi xs d 71 0 [(0, .ref 13), (1, .int a)] s Q := by
  obtain ⟨k1, k2, k3, k4, k5, k6, k7, k8, k9, k10, k11, k12, k13, k14, k15, k16, k17⟩ := hK
  refine vc_71_0 xs d s a Q ⟨fun h => hQ _ (fun ss ps ts hS h0 h1 => by omega), fun h => ⟨fun h2 => ⟨⟨by omega, by omega, by omega⟩, hQ _ (fun ss ps ts hS h0 h1 => zP_get hS.2.2.2.1 h0 h1)⟩, fun h2 => hQ _ (fun ss ps ts hS h0 h1 => by have := hS.1; omega)⟩⟩
theorem ct_74 {s : zS} (hK : pK T s) (a1 a2 : Int32) (Q : zS → Prop) (hQ : ∀ s1, pK T s1 → zE [] [14] s s1 → (∀ ss ps ts, sR ss ps ts s → 0 ≤ a1.toInt → a1.toInt < ss.length → sR ss ps (ts.set a1.toInt.toNat a2.toInt) s1) → Q s1) : zWv xs d 74 0 [(0, .ref 13), (1, .int a1), (2, .int a2)] s Q := by
  have hK0 := hK
  obtain ⟨k1, k2, k3, k4, k5, k6, k7, k8, k9, k10, k11, k12, k13, k14, k15, k16, k17⟩ := hK
  refine vc_74_0 xs d s a1 a2 Q ⟨fun h => hQ s hK0 (zE_r s) (fun ss ps ts hS h0 h1 => by omega), fun h => ⟨fun h2 => ⟨⟨by omega, by omega, by omega⟩, hQ _ ?_ (zE_a (zE_r s) rfl) ?_⟩, fun h2 => hQ s hK0 (zE_r s) (fun ss ps ts hS h0 h1 => by have := hS.1; omega)⟩⟩
  · refine ⟨k1, k2, k3, k4, k5, ?_, k7, k8, k9, k10, k11, k12, k13, k14, k15, k16, k17⟩
    show (zu (s.2 14) a1.toInt a2).length = 32; rw [zu_len]; exact k6
  · intro ss ps ts hS h0 h1
    obtain ⟨s1, s2, s3, s4, s5, s6⟩ := hS
    refine ⟨s1, s2, by rw [List.length_set]; exact s3, s4, s5, ?_⟩
    show zP 32 _ (zu (s.2 14) a1.toInt a2)
    obtain ⟨p1, p2, p3⟩ := s6
    refine ⟨by rw [zu_len]; exact p1, by rw [List.length_set]; exact p2, ?_⟩
    intro i hi
    rw [List.length_set] at hi
    unfold zu
    rw [getD_set (by omega)]
    by_cases e : a1.toInt.toNat = i
    · rw [if_pos e]
      subst e
      rw [List.getD_eq_getElem?_getD, List.getElem?_set_self hi]; rfl
    · rw [if_neg e, p3 i hi, List.getD_eq_getElem?_getD, List.getD_eq_getElem?_getD, List.getElem?_set_ne e]
theorem ct_75l {s : zS} (hK : pK T s) (Q : Int32 → zS → Prop) : ∀ (n r : Nat) (a c : Int32), (s.1 6).toInt - r = n → (r : Int) ≤ (s.1 6).toInt → c.toInt = r → (∀ v : Int32, (∀ ss ps ts k ow, sR ss ps ts s → r + k < ss.length → pch ss ps k a.toInt ow → v.toInt = ow) → Q v s) → zWi xs d 75 4 [(0, .ref 13), (2, .int a), (3, .int c)] s Q := by
  obtain ⟨k1, k2, k3, k4, k5, k6, k7, k8, k9, k10, k11, k12, k13, k14, k15, k16, k17⟩ := hK
  intro n
  induction n with
  | zero =>
    intro r a c hn hr hc hQ
    refine vc_75_4 xs d s a c Q ?_
    rw [hc]
    exact ⟨fun h => by omega, fun _ => hQ a (fun ss ps ts k ow hS hk hp => by have := hS.1; omega)⟩
  | succ n ih =>
    intro r a c hn hr hc hQ
    refine vc_75_4 xs d s a c Q ?_
    rw [hc]
    refine ⟨fun _ => ⟨fun h0 => hQ a (fun ss ps ts k ow hS hk hp => ?_), fun h0 => ⟨fun h1 => ⟨⟨by omega, by omega, by omega⟩, fun h4 => ⟨⟨by omega, by omega, by omega⟩, ?_⟩, fun h4 => hQ a (fun ss ps ts k ow hS hk hp => ?_)⟩, fun h1 => hQ a (fun ss ps ts k ow hS hk hp => ?_)⟩⟩, fun h => by omega⟩
    · cases k with
      | zero => exact hp.2.2.2
      | succ k => have := hp.1; omega
    · refine ih (r + 1) _ (c + 1) (by omega) (by omega) (ti_inc hc (by omega)) (fun v hv => hQ v (fun ss ps ts k ow hS hk hp => ?_))
      have h5 := zP_get hS.2.2.2.1 (i := a.toInt) (by omega) (by have := hS.1; omega)
      have h6 := zP_get hS.2.2.2.2.1 (i := a.toInt) (by omega) (by have := hS.1; have := hS.2.1; omega)
      cases k with
      | zero => rw [h4] at h5; exact absurd h5.symm hp.2.2.1
      | succ k => exact hv ss ps ts k ow hS (by omega) (by rw [h6]; exact hp.2.2.2)
    · have h5 := zP_get hS.2.2.2.1 (i := a.toInt) (by omega) (by have := hS.1; omega)
      cases k with
      | zero => exact hp.2.2.2
      | succ k => rw [hp.2.2.1] at h5; exact absurd h5 h4
    · cases k with
      | zero => exact hp.2.2.2
      | succ k => have := hp.2.1; have := hS.1; omega
theorem ct_75 {s : zS} (hK : pK T s) (a : Int32) (Q : Int32 → zS → Prop) (hQ : ∀ v : Int32, (∀ ss ps ts k ow, sR ss ps ts s → k < ss.length → pch ss ps k a.toInt ow → v.toInt = ow) → Q v s) : zWi xs d 75 0 [(0, .ref 13), (1, .int a)] s Q := by
  have h6 : 0 ≤ (s.1 6).toInt := hK.2.2.2.2.2.2.2.2.2.2.2.2.2.1
  exact vc_75_0 xs d s a Q (ct_75l xs d hK Q (s.1 6).toInt.toNat 0 a 0 (by omega) (by omega) rfl (fun v hv => hQ v (fun ss ps ts k ow hS hk hp => hv ss ps ts k ow hS (by omega) hp)))
theorem ct_94 {s : zS} (hk : tkR T s) (a : Int32) (i : Nat) (ha : a.toInt = i) (Q : Int32 → zS → Prop) (hQ : ∀ v : Int32, v.toInt = tc T i → Q v s) : zWi xs d 94 0 [(0, .ref 5), (1, .int a)] s Q := by
  refine vc_94_0 xs d s a Q ?_
  rw [ha, hk.1]
  refine ⟨fun h => by omega, fun _ => ⟨fun h => ⟨(tk_c hk (by omega)).1, hQ _ (tk_c hk (by omega)).2.2.2.1⟩, fun h => hQ _ ?_⟩⟩
  unfold tc
  rw [List.getD_eq_getElem?_getD, List.getElem?_eq_none (by omega)]
  rfl
theorem ct_66 {s : zS} (hK : pK T s) {st : pS} (hU : pU T st s) (hi : st.1 + 1 < T.length) (Q : zS → Prop) (hQ : ∀ s1, pK T s1 → pU T (pAv T st) s1 → zE [8, 9, 10, 11] [] s s1 → Q s1) : zWv xs d 66 0 [(0, .ref 26)] s Q := by
  obtain ⟨u1, u2, u3, u4, u5⟩ := hU
  have hk := hK.1
  have hl := tkR_len hk
  obtain ⟨c1, c2, c3, c4, c5, c6⟩ := tk_c hk (i := st.1) (by omega)
  obtain ⟨e1, e2, e3, e4, e5, e6⟩ := tk_c hk (i := st.1 + 1) hi
  have ei : (((st.1 + 1 : Nat)) : Int) = (st.1 : Int) + 1 := by omega
  rw [ei] at e1 e2 e3 e4 e5 e6
  have h8 : ((s.1 8) + 1).toInt = ((st.1 + 1 : Nat) : Int) := ti_inc u1 (by omega)
  refine vc_66_0 xs d s Q ?_
  rw [u1, u2, hk.1]
  have q1 : (tc T st.1 < 4 ∨ 8 < tc T st.1) → Q (zf (zf (zf (zf s 11 (zg (s.2 6) (st.1 : Int))) 8 ((s.1 8) + 1)) 9 (zg (s.2 4) ((st.1 : Int) + 1))) 10 (zg (s.2 5) ((st.1 : Int) + 1))) := by
    intro h
    refine hQ _ hK ⟨h8, e4, e5, ?_, u5⟩ (zE_f (zE_f (zE_f (zE_f (zE_r s) rfl) rfl) rfl) rfl)
    show (zg (s.2 6) (st.1 : Int)).toInt = (pAv T st).2.1
    unfold pAv
    simp only
    rw [if_pos h]
    exact c6
  have q2 : ¬ (tc T st.1 < 4 ∨ 8 < tc T st.1) → Q (zf (zf (zf s 8 ((s.1 8) + 1)) 9 (zg (s.2 4) ((st.1 : Int) + 1))) 10 (zg (s.2 5) ((st.1 : Int) + 1))) := by
    intro h
    refine hQ _ hK ⟨h8, e4, e5, ?_, u5⟩ (zE_f (zE_f (zE_f (zE_r s) rfl) rfl) rfl)
    show (s.1 11).toInt = (pAv T st).2.1
    unfold pAv
    simp only
    rw [if_neg h]
    exact u4
  have hzR : zR ((st.1 : Int) + 1) := ⟨by omega, by omega⟩
  repeat' (first | exact hzR | exact c3 | exact e1 | exact e2 | refine And.intro ?_ ?_ | intro _)
  all_goals first | (exfalso; omega) | exact q1 (by omega) | exact q2 (by omega)
theorem ct_67 {s : zS} (hK : pK T s) {st : pS} (hU : pU T st s) (a : Int32) (Q : Int32 → zS → Prop) (hQ : ∀ s1, pFl T (a.toInt, tb T st.1) s1 → pE s s1 → Q 0 s1) : zWi xs d 67 0 [(0, .ref 26), (1, .int a)] s Q := vc_67_0 xs d s a Q (hQ _ ⟨hK, rfl, hU.2.2.1⟩ (zE_f (zE_f (zE_r s) rfl) rfl))
end PC
