section PC
variable (xs : Option (List Int32)) (d : Nat) {T : List lxT} {pl : Nat → Int} {ctx : pC} {M : pM} {st : pS} {s : zS}
theorem ct_51 (hd : 1 ≤ d) (hI : pI T ctx st M s) (hcx : pcx M ctx) (hb : ∀ i, 0 ≤ tb T i) (Q : zS → Prop) (hQ : ∀ s1, pI T ctx st (pMo M ([], [], [], [], [], if ctx.2.1 = 1 then [] else [st.1])) s1 → pE s s1 → Q s1) : zWv xs d 51 0 [(0, .ref 26)] s Q := by
  obtain ⟨d, rfl⟩ : ∃ e, d = e + 1 := ⟨d - 1, by omega⟩
  obtain ⟨hK, hU, hV⟩ := hI
  have e0 : ∀ R : List Nat, pMo M ([], [], [], [], [], R) = (M.1, M.2.1, M.2.2.1, M.2.2.2.1, M.2.2.2.2.1, M.2.2.2.2.2 ++ R) := by
    intro R
    unfold pMo
    simp only [List.append_nil, List.map_nil]
  have hsame : (pCap M → ctx.2.1 = 1 ∨ M.2.2.2.2.2 ≠ []) → Q s := by
    intro hs
    refine hQ s ⟨hK, hU, ?_⟩ (pE_r s)
    intro hcap
    have hc0 := pCap_m hcap
    obtain ⟨x1, x2, x3, x4, x5⟩ := hV hc0
    rw [e0]
    refine ⟨x1, x2, x3, ?_, x5⟩
    unfold rR
    by_cases h1 : ctx.2.1 = 1
    · rw [if_pos h1, List.append_nil]; exact x4
    · rcases hs hc0 with h | h
      · exact absurd h h1
      · unfold rR at x4
        show _ = (match M.2.2.2.2.2 ++ _ with | [] => -1 | t :: _ => tb T t)
        match hR : M.2.2.2.2.2, h, x4 with
        | t :: r, _, x4 => exact x4
  refine vc_51_0 xs d s Q ⟨fun hm => ?_, fun hm => hsame (fun hc0 => Or.inr (fun e => ?_))⟩
  · refine ct_71 xs d hK _ _ (fun v hv => ⟨fun h1 => hsame (fun hc0 => Or.inl ?_), fun h1 => hQ _ ⟨hK, hU, ?_⟩ (zE_f (zE_r s) rfl)⟩)
    · obtain ⟨x1, x2, x3, x4, x5⟩ := hV hc0
      have := hv _ _ _ x2 (by rw [x5.1]; exact hcx.2.1) (by rw [x5.1]; exact hcx.2.2.1)
      rw [x5.1, hcx.2.2.2.1] at this
      omega
    · intro hcap
      have hc0 := pCap_m hcap
      obtain ⟨x1, x2, x3, x4, x5⟩ := hV hc0
      have h2 := hv _ _ _ x2 (by rw [x5.1]; exact hcx.2.1) (by rw [x5.1]; exact hcx.2.2.1)
      rw [x5.1, hcx.2.2.2.1] at h2
      rw [e0, if_neg (by omega)]
      refine ⟨x1, x2, x3, ?_, x5⟩
      unfold rR at x4 ⊢
      show (s.1 10).toInt = (match M.2.2.2.2.2 ++ [st.1] with | [] => -1 | t :: _ => tb T t)
      match hR : M.2.2.2.2.2, x4 with
      | [], _ => exact hU.2.2.1
      | t :: r, x4 =>
        have h3 : (s.1 16).toInt = tb T t := x4
        have := hb t
        omega
  · obtain ⟨x1, x2, x3, x4, x5⟩ := hV hc0
    unfold rR at x4
    rw [e] at x4
    exact hm x4
theorem ct_53z (a1 a3 : Int32) (Q : Int32 → zS → Prop) (hQ : Q 0 s) : zWi xs (d + 1) 53 8 [(0, .ref 26), (1, .int a1), (2, .int 0), (3, .int a3)] s Q := by
  refine vc_53_8 xs d s a1 0 a3 Q ⟨fun _ => ⟨fun _ => ⟨Or.inl rfl, hQ⟩, fun h => absurd rfl h⟩, fun _ => ⟨Or.inl rfl, hQ⟩⟩
theorem ct_53l (hd : 2 ≤ d) (hT : tkW T pl) (ctx : pC) (nest : Nat) (a1 : Int32) (x : Int) (h1 : a1.toInt = x) (Q : Int32 → zS → Prop) : ∀ (k : Nat) (st : pS) (M : pM) (s : zS) (a3 : Int32), pF (pp T k 8 ctx nest x st) → pI T ctx st M s → st.1 < T.length → 0 ≤ a3.toInt → a3.toInt ≤ st.1 → pZ T ctx M s (pp T k 8 ctx nest x st) Q → zWi xs d 53 8 [(0, .ref 26), (1, .int a1), (2, .int 1), (3, .int a3)] s Q := by
  obtain ⟨d, rfl⟩ : ∃ e, d = e + 1 := ⟨d - 1, by omega⟩
  intro k
  induction k with
  | zero => intro st M s a3 hF; exact absurd rfl hF
  | succ k ih =>
    intro st M s a3 hF hI hi h0 h3 hZ
    have hl := tkR_len hI.1.1
    rw [pp] at hF hZ
    refine vc_53_8 xs d s a1 1 a3 Q ?_
    rw [hI.1.1.1, hI.2.1.2.1]
    refine ⟨fun _ => ⟨fun h => absurd h (by decide), fun _ => ⟨fun h44 => ?_, fun h44 => ⟨Or.inr rfl, ?_⟩⟩⟩, fun h => by omega⟩
    · simp only [if_pos h44] at hF hZ
      refine ct_62 xs d (by omega) hT hI hi 44 44 rfl (by decide) _ (pZ_bd hZ (fun st1 o1 s1 hr g1 g2 hZ1 => ⟨fun h => absurd h (by decide), fun _ => ?_⟩) (fun e s1 hr g1 g2 hq => ⟨fun _ => ct_53z xs d a1 _ Q (hq s1 g1 g2), fun h => absurd rfl h⟩))
      have hF1 := pF_bd2 hF hr
      have hi1 := pH_i (pQ_tk hT (by decide) hi) hr
      refine ct_64 xs d (by omega) hT g1 hi1.2.1 a1 x h1 _ (pZ_bd hZ1 (fun st2 o2 s2 hr2 q1 q2 hZ2 => ⟨fun h => absurd h (by decide), fun _ => ?_⟩) (fun e s2 hr2 q1 q2 hq => ⟨fun _ => ct_53z xs d a1 _ Q (hq s2 q1 q2), fun h => absurd rfl h⟩))
      have hF2 := pF_bd2 hF1 hr2
      have hi2 := pH_i (pQ_nm hT hi1.2.1) hr2
      have e3 : (a3 + 1).toInt = a3.toInt + 1 := ti_1 rfl (by omega) (by omega)
      exact ih st2 _ s2 (a3 + 1) hF2 q1 hi2.2.1 (by omega) (by have := hi1.1; have := hi2.1; omega) hZ2
    · simp only [if_neg h44] at hZ
      exact hZ s (by rw [pMo_0]; exact hI) (pE_r s)
theorem ct_53 (hd : 2 ≤ d) (hT : tkW T pl) (nest : Nat) (a1 : Int32) (x : Int) (h1 : a1.toInt = x) (Q : Int32 → zS → Prop) (k : Nat) (hF : pF (pp T k 7 ctx nest x st)) (hI : pI T ctx st M s) (hi : st.1 < T.length) (hZ : pZ T ctx M s (pp T k 7 ctx nest x st) Q) : zWi xs d 53 0 [(0, .ref 26), (1, .int a1)] s Q := by
  obtain ⟨d, rfl⟩ : ∃ e, d = e + 1 := ⟨d - 1, by omega⟩
  cases k with
  | zero => exact absurd rfl hF
  | succ k =>
    rw [pp] at hF hZ
    refine vc_53_0 xs d s a1 Q ?_
    refine ct_64 xs d (by omega) hT hI hi a1 x h1 _ (pZ_bd hZ (fun st1 o1 s1 hr g1 g2 hZ1 => ?_) (fun e s1 hr g1 g2 hq => ct_53z xs d a1 0 Q (hq s1 g1 g2)))
    have hi1 := pH_i (pQ_nm hT hi) hr
    exact ct_53l xs (d + 1) hd hT ctx nest a1 x h1 Q k st1 _ s1 0 (pF_bd2 hF hr) g1 hi1.2.1 (by decide) (by show (0 : Int) ≤ _; omega) hZ1
/-- parameters -/
theorem ct_52 (hd : 3 ≤ d) (hT : tkW T pl) (nest : Nat) (Q : Int32 → zS → Prop) (k : Nat) (hF : pF (if tc T st.1 = 0 then pp T k 7 ctx nest 18 st else pOk st)) (hI : pI T ctx st M s) (hi : st.1 < T.length) (hZ : pZ T ctx M s (if tc T st.1 = 0 then pp T k 7 ctx nest 18 st else pOk st) Q) : zWi xs d 52 0 [(0, .ref 26)] s Q := by
  obtain ⟨d, rfl⟩ : ∃ e, d = e + 1 := ⟨d - 1, by omega⟩
  refine vc_52_0 xs d s Q ?_
  rw [hI.2.1.2.1]
  refine ⟨fun h0 => ?_, fun h0 => ?_⟩
  · rw [if_pos h0] at hF hZ
    refine ct_53 xs d (by omega) hT nest 18 18 rfl _ k hF hI hi ?_
    match hr : pp T k 7 ctx nest 18 st, hZ with
    | .inl e, hZ => exact fun s1 g1 g2 => ⟨fun _ => hZ s1 g1 g2, fun h => absurd rfl h⟩
    | .inr (st1, o1), hZ => exact fun s1 g1 g2 => ⟨fun h => absurd h (by decide), fun _ => hZ s1 g1 g2⟩
  · rw [if_neg h0] at hZ
    exact hZ s (by rw [pMo_0]; exact hI) (pE_r s)
end PC
