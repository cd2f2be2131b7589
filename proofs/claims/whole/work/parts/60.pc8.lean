/-! The class's statements. -/
def pSm (T : List lxT) (k : Nat) (ctx : pC) (nest : Nat) (st : pS) : pR := if tc T st.1 = 27 then pTk T 27 st
        else if tc T st.1 = 21 then pBd (pTk T 21 st) (fun s1 => pp T k 7 ctx nest 4 s1)
        else if tc T st.1 = 26 then pBd (pTk T 26 st) (fun s1 => pp T k 7 ctx nest 8 s1)
        else if tc T st.1 = 18 then pBd (pTk T 18 st) (fun s1 => pNm T 2 ctx.1 ctx.1 s1)
        else if tc T st.1 = 23 then pBd (pTk T 23 st) (fun s1 => pNm T 2 ctx.1 ctx.1 s1)
        else if tc T st.1 = 28 then pBd (pOut ([], [], [], [], [], if ctx.2.1 = 1 then [] else [st.1]) st) (fun s0 => pBd (pTk T 28 s0) (fun s1 => if tc T s1.1 = 4 then pOk s1 else pp T k 0 ctx nest 0 s1))
        else if tc T st.1 = 0 ∧ tc T (st.1 + 1) = 61 then pBd (pNm T 2 ctx.1 ctx.1 st) (fun s1 => pBd (pTk T 61 s1) (fun s2 => pp T k 0 ctx nest 0 s2))
        else pp T k 0 ctx nest 0 st
theorem pp_9 (T : List lxT) (k : Nat) (ctx : pC) (nest : Nat) (x : Int) (st : pS) : pp T (k + 1) 9 ctx nest x st = pBd (pSm T k ctx nest st) (fun s1 => pTk T 4 s1) := by
  rw [pp]
  rfl
def pCd (T : List lxT) (k : Nat) (ctx : pC) (nest : Nat) (st : pS) : pR := if tc T st.1 = 17 then pBd (pTk T 17 st) (fun s1 => pBd (pNm T 2 ctx.1 ctx.1 s1) (fun s2 => pBd (pTk T 40 s2) (fun s3 => pWr (pSd 1 ctx.1 st.1 (st.1 + 2)) (pBd (if tc T (pNw s3).1 = 0 then pp T k 7 ((s3.2.2.1 : Int), 1, (s3.2.2.1 : Int), ctx.2.2.2) nest 18 (pNw s3) else pOk (pNw s3)) (fun s4 => pBd (pTk T 41 s4) (fun s5 => pp T k 11 ((s3.2.2.1 : Int), 1, (s3.2.2.1 : Int), ctx.2.2.2) nest 0 s5))))))
        else if tc T st.1 = 16 then pBd (pTk T 16 st) (fun s1 => pBd (pNm T 2 ctx.1 ctx.1 s1) (fun s2 => pWr (pSd 2 ctx.1 st.1 (st.1 + 2)) (pp T k 11 ((s2.2.2.1 : Int), 2, (s2.2.2.1 : Int), ctx.2.2.2) nest 0 (pNw s2))))
        else if tc T st.1 = 22 then pBd (pTk T 22 st) (fun s1 => pBd (pp T k 0 ctx nest 0 s1) (fun s2 => pBd (pp T k 11 ctx nest 0 s2) (fun s3 => if tc T s3.1 = 19 then pBd (pTk T 19 s3) (fun s4 => pp T k 11 ctx nest 0 s4) else pOk s3)))
        else if tc T st.1 = 29 then pBd (pTk T 29 st) (fun s1 => pBd (pp T k 0 ctx nest 0 s1) (fun s2 => pp T k 11 ctx nest 0 s2))
        else if tc T st.1 = 20 then pBd (pTk T 20 st) (fun s1 => pBd (pNm T 2 ctx.1 ctx.1 s1) (fun s2 => pBd (pTk T 24 s2) (fun s3 => pBd (pp T k 0 ctx nest 0 s3) (fun s4 => pp T k 11 ctx nest 0 s4))))
        else pp T k 9 ctx nest 0 st
theorem pp_10 (T : List lxT) (k : Nat) (ctx : pC) (nest : Nat) (x : Int) (st : pS) : pp T (k + 1) 10 ctx nest x st = pBd (pCd T k ctx nest st) (fun s1 => pX (tb T st.1) s1) := by
  rw [pp]
  rfl
theorem pQ_sm {T : List lxT} {pl : Nat → Int} (hT : tkW T pl) {k nest : Nat} {ctx : pC} {st : pS} (hi : st.1 < T.length) : pH (pSm T k ctx nest st) (pQ T pl 0 0 0 0 st) := by
  have tk : ∀ (c : Int) (s : pS), s.1 < T.length → c ≠ 7 → pH (pTk T c s) (pQ T pl 3 (pwl c) 1 (pwl c) s) := fun c s hs h7 => pQ_tk hT h7 hs
  unfold pSm
  refine pQ_ite _ (fun _ => pQ_ww (tk 27 st hi (by decide)) (by decide) (by decide) (by decide) (by decide)) (fun _ => pQ_ite _ (fun _ => pQ_ww (pQ_bd (tk 21 st hi (by decide)) (fun s1 h1 => pQ_pp hT k 7 _ _ _ _ h1)) (by decide) (by decide) (by decide) (by decide)) (fun _ => pQ_ite _ (fun _ => pQ_ww (pQ_bd (tk 26 st hi (by decide)) (fun s1 h1 => pQ_pp hT k 7 _ _ _ _ h1)) (by decide) (by decide) (by decide) (by decide)) (fun _ => pQ_ite _ (fun _ => pQ_ww (pQ_bd (tk 18 st hi (by decide)) (fun s1 h1 => pQ_nm hT h1)) (by decide) (by decide) (by decide) (by decide)) (fun _ => pQ_ite _ (fun _ => pQ_ww (pQ_bd (tk 23 st hi (by decide)) (fun s1 h1 => pQ_nm hT h1)) (by decide) (by decide) (by decide) (by decide)) (fun _ => pQ_ite _ (fun _ => pQ_ww (pQ_bd (pQ_out _ hi) (fun s0 h0 => pQ_bd (tk 28 s0 h0 (by decide)) (fun s1 h1 => pQ_ite (P := pQ T pl 0 0 0 0 s1) _ (fun _ => pQ_ok h1) (fun _ => pQ_ww (pQ_pp hT k 0 _ _ _ _ h1) (by decide) (by decide) (by decide) (by decide))))) (by decide) (by decide) (by decide) (by decide)) (fun _ => pQ_ite _ (fun _ => pQ_ww (pQ_bd (pQ_nm hT hi) (fun s1 h1 => pQ_bd (tk 61 s1 h1 (by decide)) (fun s2 h2 => pQ_pp hT k 0 _ _ _ _ h2))) (by decide) (by decide) (by decide) (by decide)) (fun _ => pQ_ww (pQ_pp hT k 0 _ _ _ _ hi) (by decide) (by decide) (by decide) (by decide))))))))
def q48 (xs : Option (List Int32)) (T : List lxT) (k : Nat) : Prop := ∀ (d : Nat) (ctx : pC) (nest : Nat) (x : Int) (st : pS) (M : pM) (s : zS) (a : Int32) (Q : Int32 → zS → Prop), 10 * (11 - nest) + 17 ≤ d → pF (pp T k 11 ctx nest x st) → pG T ctx nest st M s a → pZ T ctx M s (pp T k 11 ctx nest x st) Q → zWi xs d 48 0 [(0, .ref 26), (1, .int a)] s Q
def q42 (xs : Option (List Int32)) (T : List lxT) (k : Nat) : Prop := ∀ (d : Nat) (ctx : pC) (nest : Nat) (x : Int) (st : pS) (M : pM) (s : zS) (a : Int32) (Q : Int32 → zS → Prop), 10 * (11 - nest) + 20 ≤ d → pF (pp T k 10 ctx nest x st) → pG T ctx nest st M s a → pZ T ctx M s (pp T k 10 ctx nest x st) Q → zWi xs d 42 0 [(0, .ref 26), (1, .int a)] s Q
def q49l (xs : Option (List Int32)) (T : List lxT) (k : Nat) : Prop := ∀ (d : Nat) (ctx : pC) (nest : Nat) (x : Int) (st : pS) (M : pM) (s : zS) (a a3 : Int32) (Q : Int32 → zS → Prop), 10 * (11 - nest) + 21 ≤ d → 0 ≤ a3.toInt → a3.toInt ≤ st.1 → pF (pp T k 12 ctx nest x st) → pG T ctx nest st M s a → pZ T ctx M s (pp T k 12 ctx nest x st) Q → zWi xs d 49 8 [(0, .ref 26), (1, .int a), (2, .int 1), (3, .int a3)] s Q
section PC
variable (xs : Option (List Int32)) {T : List lxT} {pl : Nat → Int}
theorem ct_49z (d : Nat) {s : zS} (a1 a3 : Int32) (Q : Int32 → zS → Prop) (hQ : Q 0 s) : zWi xs (d + 1) 49 8 [(0, .ref 26), (1, .int a1), (2, .int 0), (3, .int a3)] s Q :=
  vc_49_8 xs d s a1 0 a3 Q ⟨fun _ => ⟨fun _ => hQ, fun h => absurd rfl h⟩, fun _ => ⟨fun _ => hQ, fun h => absurd rfl h⟩⟩
/-- a simple statement -/
theorem s50 (hT : tkW T pl) (hb : ∀ i, 0 ≤ tb T i) {k : Nat} (h54 : q54 xs T k) (d : Nat) (ctx : pC) (nest : Nat) (st : pS) (M : pM) (s : zS) (a : Int32) (Q : Int32 → zS → Prop) (hd : 10 * (11 - nest) + 10 ≤ d) (hF : pF (pSm T k ctx nest st)) (hG : pG T ctx nest st M s a) (hZ : pZ T ctx M s (pSm T k ctx nest st) Q) : zWi xs d 50 0 [(0, .ref 26), (1, .int a)] s Q := by
  obtain ⟨d, rfl⟩ : ∃ e, d = e + 1 := ⟨d - 1, by omega⟩
  have hi := hG.2.2.2.2.2.2
  have hU := hG.1.2.1
  unfold pSm at hF hZ
  refine vc_50_0 xs d s a Q ?_
  rw [hU.2.1]
  refine ⟨fun h => ?_, fun h => ?_, fun h => ?_, fun h => ?_, fun h => ?_, fun h => ?_, fun hn => ?_⟩
  · rw [if_neg (by omega), if_neg (by omega), if_neg (by omega), if_pos h] at hF hZ
    refine ct_62 xs d (by omega) hT hG.1 hi 18 18 rfl (by decide) _ (pZ_an hZ (fun _ h => h) (fun st1 o1 s1 hr g1 g2 hZ1 => ?_))
    have hG1 := pG_o hG (pH_i (pQ_tk hT (by decide) hi) hr) g1
    exact ct_64 xs d (by omega) hT hG1.1 hG1.2.2.2.2.2.2 2 2 rfl _ (pZ_fin hZ1 (fun _ h => h) (fun _ h => h))
  · rw [if_neg (by omega), if_pos h] at hF hZ
    refine ct_62 xs d (by omega) hT hG.1 hi 21 21 rfl (by decide) _ (pZ_an hZ (fun _ h => h) (fun st1 o1 s1 hr g1 g2 hZ1 => ?_))
    have hG1 := pG_o hG (pH_i (pQ_tk hT (by decide) hi) hr) g1
    exact ct_53 xs d (by omega) hT nest 4 4 rfl _ k (pF_bd2 hF hr) hG1.1 hG1.2.2.2.2.2.2 (pZ_fin hZ1 (fun _ h => h) (fun _ h => h))
  · rw [if_neg (by omega), if_neg (by omega), if_neg (by omega), if_neg (by omega), if_pos h] at hF hZ
    refine ct_62 xs d (by omega) hT hG.1 hi 23 23 rfl (by decide) _ (pZ_an hZ (fun _ h => h) (fun st1 o1 s1 hr g1 g2 hZ1 => ?_))
    have hG1 := pG_o hG (pH_i (pQ_tk hT (by decide) hi) hr) g1
    exact ct_64 xs d (by omega) hT hG1.1 hG1.2.2.2.2.2.2 2 2 rfl _ (pZ_fin hZ1 (fun _ h => h) (fun _ h => h))
  · rw [if_neg (by omega), if_neg (by omega), if_pos h] at hF hZ
    refine ct_62 xs d (by omega) hT hG.1 hi 26 26 rfl (by decide) _ (pZ_an hZ (fun _ h => h) (fun st1 o1 s1 hr g1 g2 hZ1 => ?_))
    have hG1 := pG_o hG (pH_i (pQ_tk hT (by decide) hi) hr) g1
    exact ct_53 xs d (by omega) hT nest 8 8 rfl _ k (pF_bd2 hF hr) hG1.1 hG1.2.2.2.2.2.2 (pZ_fin hZ1 (fun _ h => h) (fun _ h => h))
  · rw [if_pos h] at hZ
    exact ct_62 xs d (by omega) hT hG.1 hi 27 27 rfl (by decide) _ (pZ_b hZ)
  · rw [if_neg (by omega), if_neg (by omega), if_neg (by omega), if_neg (by omega), if_neg (by omega), if_pos h] at hF hZ
    refine ct_51 xs d (by omega) hG.1 hG.2.1 hb _ (fun s1 g1 g2 => ?_)
    have hZ1 := pZ_in hZ g2
    have hF1 := pF_bd2 hF rfl
    have hG1 := pG_o (pl := pl) hG (pH_i (pQ_out (pl := pl) _ hi) rfl) g1
    refine ct_62 xs d (by omega) hT g1 hi 28 28 rfl (by decide) _ (pZ_an hZ1 (fun _ h => h) (fun st2 o2 s2 hr2 q1 q2 hZ2 => ?_))
    have hG2 := pG_o hG1 (pH_i (pQ_tk hT (by decide) hi) hr2) q1
    have hF2 := pF_bd2 hF1 hr2
    rw [hG2.1.2.1.2.1]
    refine ⟨fun h4 => ?_, fun h4 => ?_⟩
    · rw [if_pos h4] at hZ2
      exact hZ2 s2 (by rw [pMo_0]; exact hG2.1) (pE_r s2)
    · rw [if_neg h4] at hF2 hZ2
      exact h54 d _ _ _ _ _ _ _ _ (by omega) hF2 hG2 (pZ_fin hZ2 (fun _ h => h) (fun _ h => h))
  · obtain ⟨n18, n21, n23, n26, n27, n28⟩ := hn
    rw [if_neg n27, if_neg n21, if_neg n26, if_neg n18, if_neg n23, if_neg n28] at hF hZ
    refine ct_61 xs d (by omega) hG.1 hi 61 61 rfl _ ?_
    by_cases hw : tc T st.1 = 0 ∧ tc T (st.1 + 1) = 61
    · rw [decide_eq_true hw]
      rw [if_pos hw] at hF hZ
      refine ⟨fun h => absurd h (by decide), fun _ => ?_⟩
      refine ct_64 xs d (by omega) hT hG.1 hi 2 2 rfl _ (pZ_an hZ (fun _ h => h) (fun st1 o1 s1 hr g1 g2 hZ1 => ?_))
      have hG1 := pG_o hG (pH_i (pQ_nm hT hi) hr) g1
      have hF1 := pF_bd2 hF hr
      refine ct_62 xs d (by omega) hT hG1.1 hG1.2.2.2.2.2.2 61 61 rfl (by decide) _ (pZ_an hZ1 (fun _ h => h) (fun st2 o2 s2 hr2 q1 q2 hZ2 => ?_))
      have hG2 := pG_o hG1 (pH_i (pQ_tk hT (by decide) hG1.2.2.2.2.2.2) hr2) q1
      exact h54 d _ _ _ _ _ _ _ _ (by omega) (pF_bd2 hF1 hr2) hG2 (pZ_fin hZ2 (fun _ h => h) (fun _ h => h))
    · rw [decide_eq_false hw]
      rw [if_neg hw] at hF hZ
      refine ⟨fun _ => ?_, fun h => absurd rfl h⟩
      exact h54 d _ _ _ _ _ _ _ _ (by omega) hF hG (pZ_b hZ)
/-- the statements with a body -/
theorem s44 (hT : tkW T pl) {k : Nat} (h54 : q54 xs T k) (h48 : q48 xs T k) (d : Nat) (ctx : pC) (nest : Nat) (st : pS) (M : pM) (s : zS) (a : Int32) (Q : Int32 → zS → Prop) (hd : 10 * (11 - nest) + 19 ≤ d) (hF : pF (pCd T k ctx nest st)) (hG : pG T ctx nest st M s a) (hc : tc T st.1 = 16 ∨ tc T st.1 = 17 ∨ tc T st.1 = 20 ∨ tc T st.1 = 22 ∨ tc T st.1 = 29) (hZ : pZ T ctx M s (pCd T k ctx nest st) Q) : zWi xs d 44 0 [(0, .ref 26), (1, .int a)] s Q := by
  obtain ⟨d, rfl⟩ : ∃ e, d = e + 1 := ⟨d - 1, by omega⟩
  have hi := hG.2.2.2.2.2.2
  have hU := hG.1.2.1
  unfold pCd at hF hZ
  refine vc_44_0 xs d s a Q ?_
  rw [hU.2.1]
  refine ⟨fun h => ?_, fun h => ?_, fun h => ?_, fun h => ?_, fun h => ?_⟩
  · rw [if_neg (by omega), if_pos h] at hF hZ
    have hZ := pZ_b hZ
    obtain ⟨d, rfl⟩ : ∃ e, d = e + 1 := ⟨d - 1, by omega⟩
    refine vc_46_0 xs d s a _ ?_
    refine ct_62 xs d (by omega) hT hG.1 hi 16 16 rfl (by decide) _ (pZ_an hZ (fun _ h => h) (fun st1 o1 s1 hr g1 g2 hZ1 => ?_))
    have hG1 := pG_o hG (pH_i (pQ_tk hT (by decide) hi) hr) g1
    have hF1 := pF_bd2 hF hr
    refine ct_64 xs d (by omega) hT hG1.1 hG1.2.2.2.2.2.2 2 2 rfl _ (pZ_an hZ1 (fun _ h => h) (fun st2 o2 s2 hr2 q1 q2 hZ2 => ?_))
    have hG2 := pG_o hG1 (pH_i (pQ_nm hT hG1.2.2.2.2.2.2) hr2) q1
    have hF2 := pF_wr2 (pF_bd2 hF1 hr2)
    refine ct_70 xs d q1.1 2 _ _ (fun v s3 w1 w2 w3 => ?_)
    have hO := pG_op (b1 := 2) (sort := 2) hG2 rfl _ (pcx_p hG2.2.2.1.1 hG2.2.1 (by decide)) w1 w2 w3
    have hE3 : pE s2 (zf s3 12 v) := zE_f (zE_m w2 (fun k hk => by simp at hk ⊢; omega) (fun k hk => by simp at hk ⊢; omega)) rfl
    have hZ4 := pZ_sd (c1 := (st2.2.2.1 : Int)) (sort1 := 2) (ow1 := (st2.2.2.1 : Int)) (v0 := s2.1 12) hZ2 hE3 (fun hcap => (hG2.1.2.2 hcap).2.2.2.2.1)
    exact h48 d _ _ _ _ _ _ _ _ (by omega) hF2 hO (pZ_b hZ4)
  · rw [if_pos h] at hF hZ
    have hZ := pZ_b hZ
    obtain ⟨d, rfl⟩ : ∃ e, d = e + 1 := ⟨d - 1, by omega⟩
    refine vc_45_0 xs d s a _ ?_
    refine ct_62 xs d (by omega) hT hG.1 hi 17 17 rfl (by decide) _ (pZ_an hZ (fun _ h => h) (fun st1 o1 s1 hr g1 g2 hZ1 => ?_))
    have hG1 := pG_o hG (pH_i (pQ_tk hT (by decide) hi) hr) g1
    have hF1 := pF_bd2 hF hr
    refine ct_64 xs d (by omega) hT hG1.1 hG1.2.2.2.2.2.2 2 2 rfl _ (pZ_an hZ1 (fun _ h => h) (fun st2 o2 s2 hr2 q1 q2 hZ2 => ?_))
    have hG2 := pG_o hG1 (pH_i (pQ_nm hT hG1.2.2.2.2.2.2) hr2) q1
    have hF2 := pF_bd2 hF1 hr2
    refine ct_62 xs d (by omega) hT hG2.1 hG2.2.2.2.2.2.2 40 40 rfl (by decide) _ (pZ_an hZ2 (fun _ h => h) (fun st3 o3 s3 hr3 p1 p2 hZ3 => ?_))
    have hG3 := pG_o hG2 (pH_i (pQ_tk hT (by decide) hG2.2.2.2.2.2.2) hr3) p1
    have hF3 := pF_wr2 (pF_bd2 hF2 hr3)
    refine ct_70 xs d p1.1 1 _ _ (fun v s4 w1 w2 w3 => ?_)
    have hO := pG_op (b1 := 1) (sort := 1) hG3 rfl _ (pcx_p hG3.2.2.1.1 hG3.2.1 (by decide)) w1 w2 w3
    have hE3 : pE s3 (zf s4 12 v) := zE_f (zE_m w2 (fun k hk => by simp at hk ⊢; omega) (fun k hk => by simp at hk ⊢; omega)) rfl
    have hZ4 := pZ_sd (c1 := (st3.2.2.1 : Int)) (sort1 := 1) (ow1 := (st3.2.2.1 : Int)) (v0 := s3.1 12) hZ3 hE3 (fun hcap => (hG3.1.2.2 hcap).2.2.2.2.1)
    refine ct_52 xs d (by omega) hT nest _ k (pF_bd1 hF3) hO.1 hO.2.2.2.2.2.2 (pZ_an hZ4 (fun _ h => h) (fun st5 o5 s5 hr5 u1 u2 hZ5 => ?_))
    have hG5 := pG_o hO (pH_i (pQ_par hT hO.2.2.2.2.2.2) hr5) u1
    refine ct_62 xs d (by omega) hT hG5.1 hG5.2.2.2.2.2.2 41 41 rfl (by decide) _ (pZ_an hZ5 (fun _ h => h) (fun st6 o6 s6 hr6 y1 y2 hZ6 => ?_))
    have hG6 := pG_o hG5 (pH_i (pQ_tk hT (by decide) hG5.2.2.2.2.2.2) hr6) y1
    exact h48 d _ _ _ _ _ _ _ _ (by omega) (pF_bd2 (pF_bd2 hF3 hr5) hr6) hG6 (pZ_fin hZ6 (fun _ h => h) (fun _ h => h))
  · rw [if_neg (by omega), if_neg (by omega), if_pos h] at hF hZ
    have hZ := pZ_b hZ
    obtain ⟨d, rfl⟩ : ∃ e, d = e + 1 := ⟨d - 1, by omega⟩
    refine vc_47_0 xs d s a _ ?_
    refine ct_62 xs d (by omega) hT hG.1 hi 22 22 rfl (by decide) _ (pZ_an hZ (fun _ h => h) (fun st1 o1 s1 hr g1 g2 hZ1 => ?_))
    have hG1 := pG_o hG (pH_i (pQ_tk hT (by decide) hi) hr) g1
    have hF1 := pF_bd2 hF hr
    refine h54 d _ _ _ _ _ _ _ _ (by omega) (pF_bd1 hF1) hG1 (pZ_an hZ1 (fun _ h => h) (fun st2 o2 s2 hr2 q1 q2 hZ2 => ?_))
    have hG2 := pG_o hG1 (pH_i (pQ_pp hT k 0 _ _ _ _ hG1.2.2.2.2.2.2) hr2) q1
    have hF2 := pF_bd2 hF1 hr2
    refine h48 d _ _ _ _ _ _ _ _ (by omega) (pF_bd1 hF2) hG2 (pZ_an hZ2 (fun _ h => h) (fun st3 o3 s3 hr3 p1 p2 hZ3 => ?_))
    have hG3 := pG_o hG2 (pH_i (pQ_pp hT k 11 _ _ _ _ hG2.2.2.2.2.2.2) hr3) p1
    have hF3 := pF_bd2 hF2 hr3
    rw [hG3.1.2.1.2.1]
    refine ⟨fun h19 => ?_, fun h19 => ?_⟩
    · rw [if_pos h19] at hF3 hZ3
      refine ct_62 xs d (by omega) hT hG3.1 hG3.2.2.2.2.2.2 19 19 rfl (by decide) _ (pZ_an hZ3 (fun _ h => h) (fun st4 o4 s4 hr4 y1 y2 hZ4 => ?_))
      have hG4 := pG_o hG3 (pH_i (pQ_tk hT (by decide) hG3.2.2.2.2.2.2) hr4) y1
      exact h48 d _ _ _ _ _ _ _ _ (by omega) (pF_bd2 hF3 hr4) hG4 (pZ_fin hZ4 (fun _ h => h) (fun _ h => h))
    · rw [if_neg h19] at hZ3
      exact hZ3 s3 (by rw [pMo_0]; exact hG3.1) (pE_r s3)
  · rw [if_neg (by omega), if_neg (by omega), if_neg (by omega), if_pos h] at hF hZ
    refine ct_62 xs d (by omega) hT hG.1 hi 29 29 rfl (by decide) _ (pZ_an hZ (fun _ h => h) (fun st1 o1 s1 hr g1 g2 hZ1 => ?_))
    have hG1 := pG_o hG (pH_i (pQ_tk hT (by decide) hi) hr) g1
    have hF1 := pF_bd2 hF hr
    refine h54 d _ _ _ _ _ _ _ _ (by omega) (pF_bd1 hF1) hG1 (pZ_an hZ1 (fun _ h => h) (fun st2 o2 s2 hr2 q1 q2 hZ2 => ?_))
    have hG2 := pG_o hG1 (pH_i (pQ_pp hT k 0 _ _ _ _ hG1.2.2.2.2.2.2) hr2) q1
    exact h48 d _ _ _ _ _ _ _ _ (by omega) (pF_bd2 hF1 hr2) hG2 (pZ_fin hZ2 (fun _ h => h) (fun _ h => h))
  · obtain ⟨n16, n17, n22, n29⟩ := h
    rw [if_neg n17, if_neg n16, if_neg n22, if_neg n29, if_pos (by omega)] at hF hZ
    refine ct_62 xs d (by omega) hT hG.1 hi 20 20 rfl (by decide) _ (pZ_an hZ (fun _ h => h) (fun st1 o1 s1 hr g1 g2 hZ1 => ?_))
    have hG1 := pG_o hG (pH_i (pQ_tk hT (by decide) hi) hr) g1
    have hF1 := pF_bd2 hF hr
    refine ct_64 xs d (by omega) hT hG1.1 hG1.2.2.2.2.2.2 2 2 rfl _ (pZ_an hZ1 (fun _ h => h) (fun st2 o2 s2 hr2 q1 q2 hZ2 => ?_))
    have hG2 := pG_o hG1 (pH_i (pQ_nm hT hG1.2.2.2.2.2.2) hr2) q1
    have hF2 := pF_bd2 hF1 hr2
    refine ct_62 xs d (by omega) hT hG2.1 hG2.2.2.2.2.2.2 24 24 rfl (by decide) _ (pZ_an hZ2 (fun _ h => h) (fun st3 o3 s3 hr3 p1 p2 hZ3 => ?_))
    have hG3 := pG_o hG2 (pH_i (pQ_tk hT (by decide) hG2.2.2.2.2.2.2) hr3) p1
    have hF3 := pF_bd2 hF2 hr3
    refine h54 d _ _ _ _ _ _ _ _ (by omega) (pF_bd1 hF3) hG3 (pZ_an hZ3 (fun _ h => h) (fun st4 o4 s4 hr4 y1 y2 hZ4 => ?_))
    have hG4 := pG_o hG3 (pH_i (pQ_pp hT k 0 _ _ _ _ hG3.2.2.2.2.2.2) hr4) y1
    exact h48 d _ _ _ _ _ _ _ _ (by omega) (pF_bd2 hF3 hr4) hG4 (pZ_fin hZ4 (fun _ h => h) (fun _ h => h))
theorem s42 (hT : tkW T pl) (hb : ∀ i, 0 ≤ tb T i) {k : Nat} (h54 : ∀ j, q54 xs T j) (h48 : q48 xs T k) : q42 xs T (k + 1) := by
  intro d ctx nest x st M s a Q hd hF hG hZ
  obtain ⟨d, rfl⟩ : ∃ e, d = e + 1 := ⟨d - 1, by omega⟩
  rw [pp_10] at hF hZ
  have hi := hG.2.2.2.2.2.2
  have hU := hG.1.2.1
  refine vc_42_0 xs d s a Q ?_
  refine vc_43_0 xs d s _ ?_
  rw [hU.2.1]
  refine ⟨fun hc => ?_, fun hc => ?_⟩
  · refine ⟨fun h => absurd h (by decide), fun _ => ?_⟩
    exact s44 xs hT (h54 k) h48 d ctx nest st M s a _ (by omega) (pF_bd1 hF) hG hc (pZ_bd hZ (fun st1 o1 s1 hr g1 g2 hZ1 => ⟨fun h => absurd h (by decide), fun _ => ct_24x xs d g1 _ _ _ hU.2.2.1 g1.2.1.2.2.2.1 _ _ (fun s3 y1 y2 => ⟨Or.inr rfl, hZ1 s3 y1 y2⟩)⟩) (fun e s1 hr g1 g2 hq => ⟨fun _ => ⟨Or.inl rfl, hq s1 g1 g2⟩, fun h => absurd rfl h⟩))
  · refine ⟨fun _ => ?_, fun h => absurd rfl h⟩
    obtain ⟨n16, n17, n20, n22, n29⟩ := hc
    unfold pCd at hF hZ
    rw [if_neg n17, if_neg n16, if_neg n22, if_neg n29, if_neg n20] at hF hZ
    cases k with
    | zero => exact absurd rfl hF
    | succ k =>
      rw [pp_9, pBd_as] at hF hZ
      refine s50 xs hT hb (h54 k) d ctx nest st M s a _ (by omega) (pF_bd1 hF) hG (pZ_an hZ (fun _ h => h) (fun st1 o1 s1 hr g1 g2 hZ1 => ?_))
      have hG1 := pG_o hG (pH_i (pQ_sm hT hi) hr) g1
      refine ct_62 xs d (by omega) hT hG1.1 hG1.2.2.2.2.2.2 4 4 rfl (by decide) _ (pZ_an hZ1 (fun _ h => h) (fun st2 o2 s2 hr2 q1 q2 hZ2 => ?_))
      exact ct_24x xs d q1 _ _ _ hU.2.2.1 q1.2.1.2.2.2.1 _ _ hZ2
theorem s48 (hT : tkW T pl) (hb : ∀ i, 0 ≤ tb T i) {k : Nat} (h54 : ∀ j, q54 xs T j) (h42 : q42 xs T k) (h49l : q49l xs T k) : q48 xs T (k + 1) := by
  intro d ctx nest x st M s a Q hd hF hG hZ
  obtain ⟨d, rfl⟩ : ∃ e, d = e + 1 := ⟨d - 1, by omega⟩
  rw [pp] at hF hZ
  have hi := hG.2.2.2.2.2.2
  have hU := hG.1.2.1
  refine vc_48_0 xs d s a Q ?_
  refine ct_63 xs d (by omega) hT hG.1 hi 58 a 58 rfl (by decide) nest hG.2.2.2.2.2.1 _ (pZ_an hZ (fun _ h => h) (fun st1 o1 s1 hr g1 g2 hZ1 => ?_))
  have hn := pTd_n hr
  have hG1 := pG_o hG (pH_i (pQ_td hT (by decide) hi) hr) g1
  have hi1 := hG1.2.2.2.2.2.2
  have hF1 := pF_bd2 hF hr
  rw [hG1.1.2.1.2.1]
  refine ⟨fun h4 => ?_, fun h4 => ?_⟩
  · rw [if_pos h4] at hF1 hZ1
    refine ct_62 xs d (by omega) hT hG1.1 hi1 4 4 rfl (by decide) _ (pZ_an hZ1 (fun _ h => h) (fun st2 o2 s2 hr2 q1 q2 hZ2 => ?_))
    have hG2 := pG_o hG1 (pH_i (pQ_tk hT (by decide) hi1) hr2) q1
    have hF2 := pF_bd2 hF1 hr2
    refine ct_62 xs d (by omega) hT hG2.1 hG2.2.2.2.2.2.2 5 5 rfl (by decide) _ (pZ_an hZ2 (fun _ h => h) (fun st3 o3 s3 hr3 p1 p2 hZ3 => ?_))
    have hG3 := pG_n (pG_o hG2 (pH_i (pQ_tk hT (by decide) hG2.2.2.2.2.2.2) hr3) p1) hn
    have hi3 := hG3.2.2.2.2.2.2
    have hF3 := pF_bd2 hF2 hr3
    have hZ3 := pZ_fin (A := fun _ s1 => Q 1 s1) hZ3 (fun _ h => h) (fun _ h => h)
    obtain ⟨d, rfl⟩ : ∃ e, d = e + 1 := ⟨d - 1, by omega⟩
    refine vc_49_0 xs d s3 _ _ ?_
    refine h42 d _ _ _ _ _ _ _ _ (by omega) (pF_bd1 hF3) hG3 (pZ_bd hZ3 (fun st4 o4 s4 hr4 y1 y2 hZ4 => ?_) (fun e s4 hr4 y1 y2 hq => ct_49z xs d _ _ _ (hq s4 y1 y2)))
    have hG4 := pG_o hG3 (pH_i (pQ_pp hT k 10 _ _ _ _ hi3) hr4) y1
    exact h49l (d + 1) _ _ _ _ _ _ _ _ _ (by omega) (by decide) (by show (0 : Int) ≤ _; omega) (pF_bd2 hF3 hr4) hG4 hZ4
  · rw [if_neg h4] at hF1 hZ1
    cases k with
    | zero => exact absurd rfl hF1
    | succ k =>
      rw [pp_9] at hF1 hZ1
      refine s50 xs hT hb (h54 k) d ctx (nest + 1) st1 _ s1 (a + 1) _ (by omega) (pF_bd1 hF1) (pG_n hG1 hn) (pZ_an hZ1 (fun _ h => h) (fun st2 o2 s2 hr2 q1 q2 hZ2 => ?_))
      have hG2 := pG_o hG1 (pH_i (pQ_sm hT hi1) hr2) q1
      exact ct_62 xs d (by omega) hT hG2.1 hG2.2.2.2.2.2.2 4 4 rfl (by decide) _ (pZ_fin hZ2 (fun _ h => h) (fun _ h => h))
theorem s49l (hT : tkW T pl) {k : Nat} (h42 : q42 xs T k) (h49l : q49l xs T k) : q49l xs T (k + 1) := by
  intro d ctx nest x st M s a a3 Q hd h0 h3 hF hG hZ
  obtain ⟨d, rfl⟩ : ∃ e, d = e + 1 := ⟨d - 1, by omega⟩
  rw [pp] at hF hZ
  have hi := hG.2.2.2.2.2.2
  have hU := hG.1.2.1
  have hl := tkR_len hG.1.1.1
  have e3 : (a3 + 1).toInt = a3.toInt + 1 := ti_1 rfl (by omega) (by omega)
  refine vc_49_8 xs d s a 1 a3 Q ?_
  rw [hG.1.1.1.1, hU.2.1]
  refine ⟨fun _ => ⟨fun h => absurd h (by decide), fun _ => ⟨fun h6 => ?_, fun h6 => ?_⟩⟩, fun h => by omega⟩
  · rw [if_pos h6] at hZ
    exact ct_62 xs d (by omega) hT hG.1 hi 6 6 rfl (by decide) _ (pZ_fin hZ (fun _ h => h) (fun _ h => h))
  · rw [if_neg h6] at hF hZ
    refine h42 d _ _ _ _ _ _ _ _ (by omega) (pF_bd1 hF) hG (pZ_bd hZ (fun st1 o1 s1 hr g1 g2 hZ1 => ?_) (fun e s1 hr g1 g2 hq => ct_49z xs d _ _ Q (hq s1 g1 g2)))
    have hq1 := pH_i (pQ_pp hT k 10 _ _ _ _ hi) hr
    have hG1 := pG_o hG hq1 g1
    have p1 := hq1.1
    simp only [p_q] at p1
    exact h49l (d + 1) _ _ _ _ _ _ _ _ _ hd (by omega) (by omega) (pF_bd2 hF hr) hG1 hZ1
theorem sSt (hT : tkW T pl) (hb : ∀ i, 0 ≤ tb T i) : ∀ k, q42 xs T k ∧ q48 xs T k ∧ q49l xs T k := by
  intro k
  induction k with
  | zero =>
    refine ⟨?_, ?_, ?_⟩
    · intro d ctx nest x st M s a Q hd hF; exact absurd rfl hF
    · intro d ctx nest x st M s a Q hd hF; exact absurd rfl hF
    · intro d ctx nest x st M s a a3 Q hd h0 h3 hF; exact absurd rfl hF
  | succ k ih =>
    obtain ⟨h42, h48, h49l⟩ := ih
    exact ⟨s42 xs hT hb (fun j => (sEx xs hT j).1) h48, s48 xs hT hb (fun j => (sEx xs hT j).1) h42 h49l, s49l xs hT h42 h49l⟩
end PC
