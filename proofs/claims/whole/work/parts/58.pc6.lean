/-! The class's expressions. -/
section PD
variable {T : List lxT} {pl : Nat → Int} {ctx : pC} {M : pM} {s : zS} {Q : Int32 → zS → Prop}
theorem pZ_cm {c : Int} {i : Nat} {r : pR} {tail src : pS → pR} (h : pZ T ctx M s (pCm T c i r tail src) Q) : (∀ e, r = .inl e → ∀ s1, pFl T e s1 → pE s s1 → Q 0 s1) ∧ (∀ s3 o1, r = .inr (s3, o1) → (∀ e, tail s3 = .inl e → ∀ s1, pFl T e s1 → pE s s1 → Q 0 s1) ∧ (∀ s5 o2, tail s3 = .inr (s5, o2) → (∀ e, src s5 = .inl e → ∀ s1, pFl T e s1 → pE s s1 → Q 0 s1) ∧ (∀ s6 o3, src s5 = .inr (s6, o3) → (∀ e, pTk T 93 s6 = .inl e → ∀ s1, pFl T e s1 → pE s s1 → Q 0 s1) ∧ (∀ s7 o7, pTk T 93 s6 = .inr (s7, o7) → ∀ s1, pI T ctx s7 (pMo M (o1.1 ++ o3.1, o1.2.1 ++ o3.2.1, (4, c, (s3.2.2.2 : Int), (i : Int), (i : Int) + 1, (s6.1 : Int), (s5.1 : Int), (s6.1 : Int), (s3.1 : Int)) :: (o1.2.2.1 ++ o3.2.2.1), o1.2.2.2.1 ++ (4, c, (s3.2.2.2 : Int), (i : Int), (i : Int) + 1, (s6.1 : Int), (s5.1 : Int), (s6.1 : Int), (s3.1 : Int)) :: o3.2.2.2.1, o1.2.2.2.2.1 ++ (o2.2.2.2.2.1 ++ o3.2.2.2.2.1), o1.2.2.2.2.2 ++ o3.2.2.2.2.2)) s1 → pE s s1 → Q 1 s1)))) := by
  unfold pCm at h
  refine ⟨fun e hr => by rw [hr] at h; exact h, fun s3 o1 hr => ?_⟩
  rw [hr] at h
  simp only at h
  refine ⟨fun e ht => by rw [ht] at h; exact h, fun s5 o2 ht => ?_⟩
  rw [ht] at h
  simp only at h
  refine ⟨fun e hs => by rw [hs] at h; exact h, fun s6 o3 hs => ?_⟩
  rw [hs] at h
  simp only at h
  refine ⟨fun e h9 => by rw [h9] at h; exact h, fun s7 o7 h9 => ?_⟩
  rw [h9] at h
  exact h
theorem pF_cm2 {c : Int} {i : Nat} {r : pR} {tail src : pS → pR} (h : pF (pCm T c i r tail src)) : pF r ∧ (∀ s3 o1 s5 o2, r = .inr (s3, o1) → tail s3 = .inr (s5, o2) → pF (src s5)) := by
  unfold pCm at h
  refine ⟨?_, fun s3 o1 s5 o2 hr ht => ?_⟩
  · rcases r with e | ⟨s3, o1⟩
    · exact h
    · exact trivial
  · rw [hr] at h
    simp only at h
    rw [ht] at h
    simp only at h
    rcases hs : src s5 with e | ⟨s6, o3⟩
    · rw [hs] at h; exact h
    · exact trivial
theorem pQ_par (hT : tkW T pl) {k nest : Nat} {st : pS} (hi : st.1 < T.length) : pH (if tc T st.1 = 0 then pp T k 7 ctx nest 18 st else pOk st) (pQ T pl 0 0 0 0 st) := pQ_ite _ (fun _ => pQ_ww (pQ_pp hT k 7 _ _ _ _ hi) (by decide) (by decide) (by decide) (by decide)) (fun _ => pQ_ok hi)
end PD
def pHd (T : List lxT) (k : Nat) (ctx : pC) (nest : Nat) (st : pS) : pR := pBd (pTd T 91 nest (pNw st)) (fun s1 => pBd (pp T k 0 ((st.2.2.1 : Int), 4, ctx.2.2.1, ctx.2.2.2) (nest + 1) 0 s1) (fun s2 => pTk T 20 s2))
def pCC (T : List lxT) (k : Nat) (ctx : pC) (nest : Nat) (st : pS) : pR := pCm T ctx.1 st.1 (pHd T k ctx nest st) (fun s3 => pBd (pNm T 2 (st.2.2.1 : Int) (st.2.2.1 : Int) s3) (fun s4 => pTk T 24 s4)) (fun s5 => pp T k 0 (ctx.1, ctx.2.1, ctx.2.2.1, ctx.2.2.2 + 1) (nest + 1) 0 s5)
theorem set_mid (l : List Int) (x y : Int) (r : List Int) : (l ++ x :: r).set l.length y = l ++ y :: r := by
  induction l with
  | nil => rfl
  | cons a t ih => simp only [List.cons_append, List.length_cons, List.set_cons_succ, ih]
def q54 (xs : Option (List Int32)) (T : List lxT) (k : Nat) : Prop := ∀ (d : Nat) (ctx : pC) (nest : Nat) (x : Int) (st : pS) (M : pM) (s : zS) (a : Int32) (Q : Int32 → zS → Prop), 10 * (11 - nest) + 9 ≤ d → pF (pp T k 0 ctx nest x st) → pG T ctx nest st M s a → pZ T ctx M s (pp T k 0 ctx nest x st) Q → zWi xs d 54 0 [(0, .ref 26), (1, .int a)] s Q
def q54l (xs : Option (List Int32)) (T : List lxT) (k : Nat) : Prop := ∀ (d : Nat) (ctx : pC) (nest : Nat) (x : Int) (st : pS) (M : pM) (s : zS) (a a2 a4 : Int32) (Q : Int32 → zS → Prop), 10 * (11 - nest) + 9 ≤ d → a2.toInt = x → 0 ≤ a4.toInt → a4.toInt ≤ st.1 → pF (pp T k 2 ctx nest x st) → pG T ctx nest st M s a → pZ T ctx M s (pp T k 2 ctx nest x st) Q → zWi xs d 54 29 [(0, .ref 26), (1, .int a), (2, .int a2), (3, .int 1), (4, .int a4)] s Q
def q56 (xs : Option (List Int32)) (T : List lxT) (k : Nat) : Prop := ∀ (d : Nat) (ctx : pC) (nest : Nat) (x : Int) (st : pS) (M : pM) (s : zS) (a : Int32) (Q : Int32 → zS → Prop), 10 * (11 - nest) + 8 ≤ d → pF (pp T k 1 ctx nest x st) → pG T ctx nest st M s a → pZ T ctx M s (pp T k 1 ctx nest x st) Q → zWi xs d 56 0 [(0, .ref 26), (1, .int a)] s Q
def q56l (xs : Option (List Int32)) (T : List lxT) (k : Nat) : Prop := ∀ (d : Nat) (ctx : pC) (nest : Nat) (x : Int) (st : pS) (M : pM) (s : zS) (a a2 a4 : Int32) (Q : Int32 → zS → Prop), 10 * (11 - nest) + 8 ≤ d → a2.toInt = x → 0 ≤ a4.toInt → a4.toInt ≤ st.1 → pF (pp T k 4 ctx nest x st) → pG T ctx nest st M s a → pZ T ctx M s (pp T k 4 ctx nest x st) Q → zWi xs d 56 26 [(0, .ref 26), (1, .int a), (2, .int a2), (3, .int 1), (4, .int a4)] s Q
def q57 (xs : Option (List Int32)) (T : List lxT) (k : Nat) : Prop := ∀ (d : Nat) (ctx : pC) (nest : Nat) (x : Int) (st : pS) (M : pM) (s : zS) (a : Int32) (Q : Int32 → zS → Prop), 10 * (11 - nest) + 7 ≤ d → pF (pp T k 3 ctx nest x st) → pG T ctx nest st M s a → pZ T ctx M s (pp T k 3 ctx nest x st) Q → zWi xs d 57 0 [(0, .ref 26), (1, .int a)] s Q
def q58 (xs : Option (List Int32)) (T : List lxT) (k : Nat) : Prop := ∀ (d : Nat) (ctx : pC) (nest : Nat) (x : Int) (st : pS) (M : pM) (s : zS) (a : Int32) (Q : Int32 → zS → Prop), 10 * (11 - nest) + 7 ≤ d → pF (pp T k 5 ctx nest x st) → pG T ctx nest st M s a → pZ T ctx M s (pp T k 5 ctx nest x st) Q → zWi xs d 58 0 [(0, .ref 26), (1, .int a)] s Q
def q58l (xs : Option (List Int32)) (T : List lxT) (k : Nat) : Prop := ∀ (d : Nat) (ctx : pC) (nest : Nat) (x : Int) (st : pS) (M : pM) (s : zS) (a a3 : Int32) (Q : Int32 → zS → Prop), 10 * (11 - nest) + 7 ≤ d → nest < 10 → 0 ≤ a3.toInt → a3.toInt ≤ st.1 → pF (pp T k 6 ctx nest x st) → pG T ctx nest st M s a → pZ T ctx M s (pBd (pp T k 6 ctx nest x st) (fun s3 => pTk T 41 s3)) Q → zWi xs d 58 38 [(0, .ref 26), (1, .int a), (2, .int 1), (3, .int a3)] s Q
section PC
variable (xs : Option (List Int32)) {T : List lxT} {pl : Nat → Int}
theorem ct_54z (d : Nat) {s : zS} (a1 a2 a4 : Int32) (Q : Int32 → zS → Prop) (hQ : Q 0 s) : zWi xs (d + 1) 54 29 [(0, .ref 26), (1, .int a1), (2, .int a2), (3, .int 0), (4, .int a4)] s Q :=
  vc_54_29 xs d s a1 a2 0 a4 Q ⟨fun _ => ⟨fun _ => ⟨Or.inl rfl, hQ⟩, fun h => absurd rfl h⟩, fun _ => ⟨Or.inl rfl, hQ⟩⟩
theorem ct_56z (d : Nat) {s : zS} (a1 a2 a4 : Int32) (Q : Int32 → zS → Prop) (hQ : Q 0 s) : zWi xs (d + 1) 56 26 [(0, .ref 26), (1, .int a1), (2, .int a2), (3, .int 0), (4, .int a4)] s Q :=
  vc_56_26 xs d s a1 a2 0 a4 Q ⟨fun _ => ⟨fun _ => ⟨Or.inl rfl, hQ⟩, fun h => absurd rfl h⟩, fun _ => ⟨Or.inl rfl, hQ⟩⟩
theorem ct_58z (d : Nat) {s : zS} (a1 a3 : Int32) (Q : Int32 → zS → Prop) (hQ : Q 0 s) : zWi xs (d + 1) 58 38 [(0, .ref 26), (1, .int a1), (2, .int 0), (3, .int a3)] s Q :=
  vc_58_38 xs d s a1 0 a3 Q ⟨fun _ => ⟨fun _ => hQ, fun h => absurd rfl h⟩, fun _ => ⟨fun _ => hQ, fun h => absurd rfl h⟩⟩
/-- lambda and sums -/
theorem s54 (hT : tkW T pl) {k : Nat} (h54 : q54 xs T k) (h56 : q56 xs T k) (h54l : q54l xs T k) : q54 xs T (k + 1) := by
  intro d ctx nest x st M s a Q hd hF hG hZ
  obtain ⟨d, rfl⟩ : ∃ e, d = e + 1 := ⟨d - 1, by omega⟩
  rw [pp] at hF hZ
  have hi := hG.2.2.2.2.2.2
  have hU := hG.1.2.1
  refine vc_54_0 xs d s a Q ?_
  rw [hU.2.1]
  refine ⟨fun h25 => ?_, fun h25 => ?_⟩
  · rw [if_pos h25] at hF hZ
    obtain ⟨d, rfl⟩ : ∃ e, d = e + 1 := ⟨d - 1, by omega⟩
    have hZ := pZ_b hZ
    refine vc_55_0 xs d s a _ ?_
    refine ct_63 xs d (by omega) hT hG.1 hi 25 a 25 rfl (by decide) nest hG.2.2.2.2.2.1 _ (pZ_an hZ (fun _ h => h) (fun st1 o1 s1 hr g1 g2 hZ1 => ?_))
    have hn := pTd_n hr
    have hG1 := pG_o hG (pH_i (pQ_td hT (by decide) hi) hr) g1
    have hF2 := pF_wr2 (pF_bd1 (pF_bd2 hF hr))
    refine ct_70 xs d g1.1 3 _ _ (fun v s2 q1 q2 q3 => ?_)
    have hO := pG_op (b1 := 3) (sort := 3) hG1 rfl _ (pcx_p hG1.2.2.1.1 hG1.2.1 (by decide)) q1 q2 q3
    have hE2 : pE s1 (zf s2 12 v) := zE_f (zE_m q2 (fun k hk => by simp at hk ⊢; omega) (fun k hk => by simp at hk ⊢; omega)) rfl
    have hZ2 := pZ_bd (K := fun v s' => zWv xs d 24 0 [(0, .ref 10), (1, .int (s.1 10)), (2, .int (s'.1 11))] s' (fun s19 => (v = 0 ∨ v = 1) ∧ Q v s19)) hZ1 (fun st3 o3 s3 hr3 w1 w2 hZ3 => ct_24x xs d w1 _ _ _ hU.2.2.1 w1.2.1.2.2.2.1 _ _ hZ3) (fun e s3 hr3 w1 w2 hq => ct_24f xs d w1 _ _ _ (fun s4 y1 y2 => hq s4 y1 (pE_t w2 y2)))
    have hZ4 := pZ_sd (c1 := (st1.2.2.1 : Int)) (sort1 := 3) (ow1 := (st1.2.2.1 : Int)) (v0 := s1.1 12) hZ2 hE2 (fun hcap => (hG1.1.2.2 hcap).2.2.2.2.1)
    refine ct_52 xs d (by omega) hT nest _ k (pF_bd1 hF2) hO.1 hO.2.2.2.2.2.2 (pZ_an hZ4 (fun _ h => h) (fun st5 o5 s5 hr5 u1 u2 hZ5 => ?_))
    have hG5 := pG_o hO (pH_i (pQ_par hT hO.2.2.2.2.2.2) hr5) u1
    refine ct_62 xs d (by omega) hT hG5.1 hG5.2.2.2.2.2.2 58 58 rfl (by decide) _ (pZ_an hZ5 (fun _ h => h) (fun st6 o6 s6 hr6 y1 y2 hZ6 => ?_))
    have hG6 := pG_o hG5 (pH_i (pQ_tk hT (by decide) hG5.2.2.2.2.2.2) hr6) y1
    exact h54 d _ _ _ _ _ _ _ _ (by omega) (pF_bd2 (pF_bd2 hF2 hr5) hr6) (pG_n hG6 hn) (pZ_fin hZ6 (fun _ h => h) (fun _ h => h))
  · rw [if_neg h25] at hF hZ
    refine h56 d _ _ _ _ _ _ _ _ (by omega) (pF_bd1 hF) hG (pZ_bd hZ (fun st1 o1 s1 hr g1 g2 hZ1 => ?_) (fun e s1 hr g1 g2 hq => ct_54z xs d _ _ _ Q (hq s1 g1 g2)))
    have hG1 := pG_o hG (pH_i (pQ_pp hT k 1 _ _ _ _ hi) hr) g1
    have hF1 := pF_bd2 hF hr
    exact h54l (d + 1) _ _ _ _ _ _ a (s.1 10) 0 _ (by omega) hU.2.2.1 (by decide) (by show (0 : Int) ≤ _; omega) (pF_bd1 (pF_bd2 hF1 rfl)) hG1 (pZ_mx (pZ_xm hZ1))
theorem s54l (hT : tkW T pl) {k : Nat} (h56 : q56 xs T k) (h54l : q54l xs T k) : q54l xs T (k + 1) := by
  intro d ctx nest x st M s a a2 a4 Q hd h2 h0 h4 hF hG hZ
  obtain ⟨d, rfl⟩ : ∃ e, d = e + 1 := ⟨d - 1, by omega⟩
  rw [pp] at hF hZ
  have hi := hG.2.2.2.2.2.2
  have hU := hG.1.2.1
  have hl := tkR_len hG.1.1.1
  have e4 : (a4 + 1).toInt = a4.toInt + 1 := ti_1 rfl (by omega) (by omega)
  refine vc_54_29 xs d s a a2 1 a4 Q ?_
  rw [hG.1.1.1.1, hU.2.1]
  refine ⟨fun _ => ⟨fun h => absurd h (by decide), fun _ => ⟨fun h43 => ?_, fun h43 => ⟨Or.inr rfl, ?_⟩⟩⟩, fun h => by omega⟩
  · rw [if_pos h43] at hF hZ
    refine ct_62 xs d (by omega) hT hG.1 hi 43 43 rfl (by decide) _ (pZ_bd hZ (fun st1 o1 s1 hr g1 g2 hZ1 => ⟨fun h => absurd h (by decide), fun _ => ?_⟩) (fun e s1 hr g1 g2 hq => ⟨fun _ => ct_24f xs d g1 _ _ _ (fun s3 y1 y2 => ct_54z xs d _ _ _ Q (hq s3 y1 (pE_t g2 y2))), fun h => absurd rfl h⟩))
    have hq1 := pH_i (pQ_tk hT (by decide) hi) hr
    have hG1 := pG_o hG hq1 g1
    have hF1 := pF_bd2 hF hr
    refine h56 d _ _ _ _ _ _ _ _ (by omega) (pF_bd1 hF1) hG1 (pZ_bd hZ1 (fun st2 o2 s2 hr2 q1 q2 hZ2 => ⟨fun h => absurd h (by decide), fun _ => ?_⟩) (fun e s2 hr2 q1 q2 hq => ⟨fun _ => ct_24f xs d q1 _ _ _ (fun s3 y1 y2 => ct_54z xs d _ _ _ Q (hq s3 y1 (pE_t q2 y2))), fun h => absurd rfl h⟩))
    have hq2 := pH_i (pQ_pp hT k 1 _ _ _ _ hG1.2.2.2.2.2.2) hr2
    have hG2 := pG_o hG1 hq2 q1
    refine ct_24x xs d q1 _ _ x h2 q1.2.1.2.2.2.1 [(x, st2.2.1)] _ (fun s3 y1 y2 => ?_)
    have p1 := hq1.1
    have p2 := hq2.1
    simp only [p_q] at p2
    exact h54l (d + 1) _ _ _ _ _ _ _ _ _ _ hd h2 (by omega) (by omega) (pF_bd2 (pF_bd2 hF1 hr2) rfl) (pG_x hG2 y1) (pZ_in hZ2 y2)
  · rw [if_neg h43] at hZ
    exact hZ s (by rw [pMo_0]; exact hG.1) (pE_r s)
theorem s56 (hT : tkW T pl) {k : Nat} (h57 : q57 xs T k) (h56l : q56l xs T k) : q56 xs T (k + 1) := by
  intro d ctx nest x st M s a Q hd hF hG hZ
  obtain ⟨d, rfl⟩ : ∃ e, d = e + 1 := ⟨d - 1, by omega⟩
  rw [pp] at hF hZ
  have hi := hG.2.2.2.2.2.2
  have hU := hG.1.2.1
  refine vc_56_0 xs d s a Q ?_
  refine h57 d _ _ _ _ _ _ _ _ (by omega) (pF_bd1 hF) hG (pZ_bd hZ (fun st1 o1 s1 hr g1 g2 hZ1 => ?_) (fun e s1 hr g1 g2 hq => ct_24f xs d g1 _ _ _ (fun s3 y1 y2 => ct_56z xs d _ _ _ Q (hq s3 y1 (pE_t g2 y2)))))
  have hG1 := pG_o hG (pH_i (pQ_pp hT k 3 _ _ _ _ hi) hr) g1
  refine ct_24x xs d g1 _ _ _ hU.2.2.1 g1.2.1.2.2.2.1 [(tb T st.1, st1.2.1)] _ (fun s3 y1 y2 => ?_)
  exact h56l (d + 1) _ _ _ _ _ _ _ _ _ _ hd hU.2.2.1 (by decide) (by show (0 : Int) ≤ _; omega) (pF_bd2 (pF_bd2 hF hr) rfl) (pG_x hG1 y1) (pZ_in hZ1 y2)
theorem s56l (hT : tkW T pl) {k : Nat} (h58 : q58 xs T k) (h56l : q56l xs T k) : q56l xs T (k + 1) := by
  intro d ctx nest x st M s a a2 a4 Q hd h2 h0 h4 hF hG hZ
  obtain ⟨d, rfl⟩ : ∃ e, d = e + 1 := ⟨d - 1, by omega⟩
  rw [pp] at hF hZ
  have hi := hG.2.2.2.2.2.2
  have hU := hG.1.2.1
  have hl := tkR_len hG.1.1.1
  have e4 : (a4 + 1).toInt = a4.toInt + 1 := ti_1 rfl (by omega) (by omega)
  refine vc_56_26 xs d s a a2 1 a4 Q ?_
  rw [hG.1.1.1.1, hU.2.1]
  refine ⟨fun _ => ⟨fun h => absurd h (by decide), fun _ => ⟨fun h40 => ?_, fun h40 => ⟨Or.inr rfl, ?_⟩⟩⟩, fun h => by omega⟩
  · rw [if_pos h40] at hF hZ
    refine h58 d _ _ _ _ _ _ _ _ (by omega) (pF_bd1 hF) hG (pZ_bd hZ (fun st1 o1 s1 hr g1 g2 hZ1 => ?_) (fun e s1 hr g1 g2 hq => ct_24f xs d g1 _ _ _ (fun s3 y1 y2 => ct_56z xs d _ _ _ Q (hq s3 y1 (pE_t g2 y2)))))
    have hq1 := pH_i (pQ_pp hT k 5 _ _ _ _ hi) hr
    have hG1 := pG_o hG hq1 g1
    refine ct_24x xs d g1 _ _ x h2 g1.2.1.2.2.2.1 [(x, st1.2.1)] _ (fun s3 y1 y2 => ?_)
    have p1 := hq1.1
    simp only [p_q] at p1
    exact h56l (d + 1) _ _ _ _ _ _ _ _ _ _ hd h2 (by omega) (by omega) (pF_bd2 (pF_bd2 hF hr) rfl) (pG_x hG1 y1) (pZ_in hZ1 y2)
  · rw [if_neg h40] at hZ
    exact hZ s (by rw [pMo_0]; exact hG.1) (pE_r s)
/-- a call -/
theorem s58 (hT : tkW T pl) {k : Nat} (h54 : q54 xs T k) (h58l : q58l xs T k) : q58 xs T (k + 1) := by
  intro d ctx nest x st M s a Q hd hF hG hZ
  obtain ⟨d, rfl⟩ : ∃ e, d = e + 1 := ⟨d - 1, by omega⟩
  rw [pp] at hF hZ
  have hi := hG.2.2.2.2.2.2
  have hU := hG.1.2.1
  refine vc_58_0 xs d s a Q ?_
  refine ct_63 xs d (by omega) hT hG.1 hi 40 a 40 rfl (by decide) nest hG.2.2.2.2.2.1 _ (pZ_an hZ (fun _ h => h) (fun st1 o1 s1 hr g1 g2 hZ1 => ?_))
  have hn := pTd_n hr
  have hG1 := pG_o hG (pH_i (pQ_td hT (by decide) hi) hr) g1
  have hi1 := hG1.2.2.2.2.2.2
  have hF1 := pF_bd2 hF hr
  rw [hG1.1.2.1.2.1]
  refine ⟨fun h41 => ?_, fun h41 => ?_⟩
  · rw [if_pos h41] at hZ1
    exact ct_62 xs d (by omega) hT hG1.1 hi1 41 41 rfl (by decide) _ (pZ_b hZ1)
  · rw [if_neg h41] at hF1 hZ1
    refine h54 d _ _ _ _ _ _ _ _ (by omega) (pF_bd1 hF1) (pG_n hG1 hn) (pZ_bd hZ1 (fun st2 o2 s2 hr2 q1 q2 hZ2 => ?_) (fun e s2 hr2 q1 q2 hq => ct_58z xs d _ _ Q (hq s2 q1 q2)))
    have hG2 := pG_o hG1 (pH_i (pQ_pp hT k 0 _ _ _ _ hi1) hr2) q1
    exact h58l (d + 1) _ _ _ _ _ _ _ _ _ (by omega) hn (by decide) (by show (0 : Int) ≤ _; omega) (pF_bd1 (pF_bd2 hF1 hr2)) hG2 hZ2
theorem s58l (hT : tkW T pl) {k : Nat} (h54 : q54 xs T k) (h58l : q58l xs T k) : q58l xs T (k + 1) := by
  intro d ctx nest x st M s a a3 Q hd hn h0 h3 hF hG hZ
  obtain ⟨d, rfl⟩ : ∃ e, d = e + 1 := ⟨d - 1, by omega⟩
  rw [pp] at hF hZ
  have hi := hG.2.2.2.2.2.2
  have hU := hG.1.2.1
  have hl := tkR_len hG.1.1.1
  have e3 : (a3 + 1).toInt = a3.toInt + 1 := ti_1 rfl (by omega) (by omega)
  refine vc_58_38 xs d s a 1 a3 Q ?_
  rw [hG.1.1.1.1, hU.2.1]
  refine ⟨fun _ => ⟨fun h => absurd h (by decide), fun _ => ⟨fun h44 => ?_, fun h44 => ?_⟩⟩, fun h => by omega⟩
  · rw [if_pos h44] at hF hZ
    rw [pBd_as] at hZ
    refine ct_62 xs d (by omega) hT hG.1 hi 44 44 rfl (by decide) _ (pZ_bd hZ (fun st1 o1 s1 hr g1 g2 hZ1 => ⟨fun h => absurd h (by decide), fun _ => ?_⟩) (fun e s1 hr g1 g2 hq => ⟨fun _ => ct_58z xs d _ _ Q (hq s1 g1 g2), fun h => absurd rfl h⟩))
    have hq1 := pH_i (pQ_tk hT (by decide) hi) hr
    have hG1 := pG_o hG hq1 g1
    have hi1 := hG1.2.2.2.2.2.2
    have hF1 := pF_bd2 hF hr
    rw [pBd_as] at hZ1
    refine h54 d _ _ _ _ _ _ _ _ (by omega) (pF_bd1 hF1) (pG_n hG1 hn) (pZ_bd hZ1 (fun st2 o2 s2 hr2 q1 q2 hZ2 => ⟨fun h => absurd h (by decide), fun _ => ?_⟩) (fun e s2 hr2 q1 q2 hq => ⟨fun _ => ct_58z xs d _ _ Q (hq s2 q1 q2), fun h => absurd rfl h⟩))
    have hq2 := pH_i (pQ_pp hT k 0 _ _ _ _ hi1) hr2
    have hG2 := pG_o hG1 hq2 q1
    have p1 := hq1.1
    have p2 := hq2.1
    simp only [p_q] at p2
    exact h58l (d + 1) _ _ _ _ _ _ _ _ _ hd hn (by omega) (by omega) (pF_bd2 hF1 hr2) hG2 hZ2
  · rw [if_neg h44, pBd_ok] at hZ
    exact ct_62 xs d (by omega) hT hG.1 hi 41 41 rfl (by decide) _ (pZ_fin hZ (fun _ h => h) (fun _ h => h))
end PC
