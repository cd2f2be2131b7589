/-! The reference's expressions. -/
def mG (T : List lxT) (pl : Nat → Int) (e q : Int) (nest : Nat) (st : pS) (N : mM) (G : List (Int × Int)) (s : zS) : Prop := mI T nest st N G s ∧ mB pl e q st N ∧ st.1 < T.length ∧ nest ≤ 10
def r5 (xs : Option (List Int32)) (d : Nat) (T : List lxT) (pl : Nat → Int) (Q : zS → Prop) (k : Nat) : Prop := ∀ (ctx : pC) (nest : Nat) (x : Int) (st : pS) (N : mM) (G : List (Int × Int)) (s : zS), G.length ≤ 10 * nest + 8 → pF (pp T k 0 ctx nest x st) → mG T pl 0 0 nest st N (G ++ [(5, 0)]) s → mZ xs (d + 3) T nest N G s (pp T k 0 ctx nest x st) Q → mW xs (d + 3) Q s
def r8 (xs : Option (List Int32)) (d : Nat) (T : List lxT) (pl : Nat → Int) (Q : zS → Prop) (k : Nat) : Prop := ∀ (ctx : pC) (nest : Nat) (x : Int) (st : pS) (N : mM) (G : List (Int × Int)) (s : zS), G.length ≤ 10 * nest + 10 → pF (pp T k 1 ctx nest x st) → mG T pl 0 0 nest st N (G ++ [(8, 0)]) s → mZ xs (d + 3) T nest N G s (pp T k 1 ctx nest x st) Q → mW xs (d + 3) Q s
def r9 (xs : Option (List Int32)) (d : Nat) (T : List lxT) (pl : Nat → Int) (Q : zS → Prop) (k : Nat) : Prop := ∀ (ctx : pC) (nest : Nat) (b : Int) (m : List (Int × Int)) (st : pS) (N : mM) (G : List (Int × Int)) (s : zS), G.length ≤ 10 * nest + 10 → pF (pp T k 4 ctx nest b st) → mG T pl 1 0 nest st N (G ++ [(9, b)]) s → mZ xs (d + 3) T nest N G s (pBd (.inr (st, (m, [(b, st.2.1)], [], [], [], []))) (fun s2 => pp T k 4 ctx nest b s2)) Q → mW xs (d + 3) Q s
def r7 (xs : Option (List Int32)) (d : Nat) (T : List lxT) (pl : Nat → Int) (Q : zS → Prop) (k : Nat) : Prop := ∀ (ctx : pC) (nest : Nat) (b : Int) (m : List (Int × Int)) (st : pS) (N : mM) (G : List (Int × Int)) (s : zS), G.length ≤ 10 * nest + 9 → pF (pp T k 2 ctx nest b st) → mG T pl 1 0 nest st N (G ++ [(7, b)]) s → mZ xs (d + 3) T nest N G s (pBd (.inr (st, (m, [(b, st.2.1)], [], [], [], []))) (fun s2 => pp T k 2 ctx nest b s2)) Q → mW xs (d + 3) Q s
def r10 (xs : Option (List Int32)) (d : Nat) (T : List lxT) (pl : Nat → Int) (Q : zS → Prop) (k : Nat) : Prop := ∀ (ctx : pC) (nest : Nat) (x : Int) (st : pS) (N : mM) (G : List (Int × Int)) (s : zS), nest < 10 → G.length ≤ 10 * nest + 13 → pF (pp T k 6 ctx nest x st) → mG T pl 0 0 (nest + 1) st N (G ++ [(10, 0)]) s → mZ xs (d + 3) T (nest + 1) N G s (pp T k 6 ctx nest x st) Q → mW xs (d + 3) Q s
theorem al1 {G : List (Int × Int)} {a : Int × Int} {n : Nat} (h : G.length + 1 ≤ n) : (G ++ [a]).length ≤ n := by rw [List.length_append]; exact h
theorem al2 {G : List (Int × Int)} {a b : Int × Int} {n : Nat} (h : G.length + 2 ≤ n) : (G ++ [a] ++ [b]).length ≤ n := by rw [List.length_append, List.length_append]; exact h
theorem al3 {G : List (Int × Int)} {a b c : Int × Int} {n : Nat} (h : G.length + 3 ≤ n) : (G ++ [a] ++ [b] ++ [c]).length ≤ n := by rw [List.length_append, List.length_append, List.length_append]; exact h
theorem dec_s {x : Int} {c : Int} {l : Int32} (hl : l.toInt = x) (h1 : (l / 256).toInt = 3) (h2 : (l - l / 256 * 256).toInt = c) (hc : 29 < c) (hc2 : c ≠ 128) : ∀ a2 : Int32, a2.toInt = x → isC (a2 / 256).toInt (a2 - a2 / 256 * 256).toInt c := by
  intro a2 h
  have e : a2 = l := ti_ext (h.trans hl.symm)
  subst e
  rw [h1, h2]
  exact isC_s hc hc2
section MX
variable (xs : Option (List Int32)) (d : Nat) {T : List lxT} {pl : Nat → Int} {Q : zS → Prop}
theorem e5 (hT : tkW T pl) (hl : T.length ≤ 272) (hpl : ∀ i, pl i ≤ 201) {k : Nat} (h5 : r5 xs d T pl Q k) (h8 : r8 xs d T pl Q k) (h7 : r7 xs d T pl Q k) : r5 xs d T pl Q (k + 1) := by
  intro ctx nest x st N G s hg hF hG hZ
  obtain ⟨hI, hB, hi, hn⟩ := hG
  rw [pp] at hF hZ
  have hr := mB_r hB (by decide) (by decide) hi hl hpl
  refine m5s xs d hI hi hn (by omega) hr.2 (fun h25 s1 g1 g2 => ?_) (fun h25 hnn s1 g1 g2 => ?_) (fun h25 hnn s1 g1 g2 => ?_)
  · rw [if_neg h25] at hF hZ
    have hZ1 := mZ_m hZ g2
    refine h8 ctx nest 0 st N (G ++ [(6, tb T st.1)] ++ [(7, tb T st.1)]) s1 (al2 (by omega)) (pF_bd1 hF) ⟨g1, hB, hi, hn⟩ (mZ_bd hZ1 (fun st1 o1 s2 hr1 q1 q2 hZ2 => ?_))
    have hq1 := pH_i (pQ_pp hT k 1 _ _ _ _ hi) hr1
    have hB1 := mB_o hB hq1 (pH_i (rOc_pp k 1 _ _ _ _) hr1)
    have hF2 := pF_bd2 (pF_bd2 hF hr1) rfl
    have hZ3 : mZ xs (d + 3) T nest (mMo N o1) G s2 (pBd (pBd (pXm (tb T st.1) st1) (fun s2 => pp T k 2 ctx nest (tb T st.1) s2)) (fun s3 => pXm (tb T st.1) s3)) Q := by
      rw [pBd_as]; exact hZ2
    refine h7 ctx nest (tb T st.1) [] st1 _ (G ++ [(6, tb T st.1)]) s2 (al1 (by omega)) (pF_bd1 hF2) ⟨q1, mB_w hB1 (by decide) (by decide), hq1.2.1, hn⟩ (mZ_bd hZ3 (fun st3 o3 s3 hr3 w1 w2 hZ4 => ?_))
    have hq3 := pH_i (pQ_bd (pQ_xm (b := tb T st.1) hq1.2.1) (fun s2 h2 => pQ_pp hT k 2 ctx nest (tb T st.1) s2 h2)) hr3
    have ho3 := pH_i (pR_bd (R := rOc T) (fun a b c o1 o2 h1 h2 => by
      obtain ⟨g1, g2⟩ := rOc_app h1.1 h2.1 h1.2.1 h1.2.2 h2.2.1 h2.2.2
      exact ⟨Nat.le_trans h1.1 h2.1, g1, g2⟩) (st := st1) (r := pXm (tb T st.1) st1) ⟨Nat.le_refl _, fun x hx => absurd hx List.not_mem_nil, List.Pairwise.nil⟩ (fun s2 => rOc_pp k 2 ctx nest (tb T st.1) s2)) hr3
    have hB3 := mB_o hB1 hq3 ho3
    have hr3 := mB_r hB3 (by decide) (by decide) hq3.2.1 hl hpl
    exact mg_6 xs (d + 3) [] w1 hr3.1 hZ4
  · rw [if_pos h25] at hZ
    have e1 : pTd T 25 nest st = .inl (21, tb T st.1) := by unfold pTd; rw [if_pos h25, if_pos hnn]
    rw [e1] at hZ
    exact hZ s1 g1 g2
  · rw [if_pos h25] at hF hZ
    have e1 : pTd T 25 nest st = .inr (pAv T st, pO0) := by unfold pTd; rw [if_pos h25, if_neg hnn]; rfl
    rw [e1] at hF hZ
    have hF1 := pF_bd1 (pF_bd2 hF rfl)
    have hF2 := pF_wr2 hF1
    have hZ1 := mZ_in hZ g2
    rw [mMo_0] at hZ1
    have hi1 : (pAv T st).1 < T.length := (tk_nx hT hi h25 (by decide)).1
    have hB0 := mB_s (row := (3, 0, 0, (st.1 : Int), (st.1 : Int) + 1, (st.1 : Int) + 1, -1, -1, -1)) (mB_tk hT hB hi h25 (by decide))
    have hZ2 : mZ xs (d + 3) T (nest + 1) (N.1, N.2.1 ++ [(3, 0, 0, (st.1 : Int), (st.1 : Int) + 1, (st.1 : Int) + 1, -1, -1, -1)], N.2.2) (G ++ [(6, tb T st.1)] ++ [(15, (N.2.1.length : Int))]) s1 (pBd (if tc T (pNw (pAv T st)).1 = 0 then pp T k 7 (((pAv T st).2.2.1 : Int), 3, ((pAv T st).2.2.1 : Int), ctx.2.2.2) nest 18 (pNw (pAv T st)) else pOk (pNw (pAv T st))) (fun s2 => pBd (pTk T 58 s2) (fun s3 => pp T k 0 (((pAv T st).2.2.1 : Int), 3, ((pAv T st).2.2.1 : Int), ctx.2.2.2) (nest + 1) 0 s3))) Q := by
      generalize hR : (pBd (if tc T (pNw (pAv T st)).1 = 0 then pp T k 7 (((pAv T st).2.2.1 : Int), 3, ((pAv T st).2.2.1 : Int), ctx.2.2.2) nest 18 (pNw (pAv T st)) else pOk (pNw (pAv T st))) (fun s2 => pBd (pTk T 58 s2) (fun s3 => pp T k 0 (((pAv T st).2.2.1 : Int), 3, ((pAv T st).2.2.1 : Int), ctx.2.2.2) (nest + 1) 0 s3))) = R at hZ1 hF2
      rcases R with e | ⟨st2, o2⟩
      · exact hZ1
      · intro s2 q1 q2
        have hZ3 := mZ_in (st1 := st2) (o1 := pSd 3 ctx.1 st.1 (st.1 + 1) st2 o2) hZ1 q2
        have hq2 := pH_i (pQ_bd (pQ_par (ctx := (((pAv T st).2.2.1 : Int), 3, ((pAv T st).2.2.1 : Int), ctx.2.2.2)) (k := k) (nest := nest) hT (st := pNw (pAv T st)) hi1) (fun s2 h2 => pQ_bd (pQ_tk hT (c := 58) (by decide) h2) (fun s3 h3 => pQ_pp hT k 0 (((pAv T st).2.2.1 : Int), 3, ((pAv T st).2.2.1 : Int), ctx.2.2.2) (nest + 1) 0 s3 h3))) hR
        obtain ⟨a1, a2, a3, a4, a5, a6, a7, a8⟩ := hq2
        refine m15s xs (d + 2) (parent := ctx.1) (i := st.1) (j := st.1 + 1) q1 (by omega) hB.2.2.2 (fun s3 w1 w2 => ?_)
        have hlen : (mMo N (pSd 3 ctx.1 st.1 (st.1 + 1) st2 o2)).1.length < 1000 := by
          show (N.1 ++ o2.2.1).length < 1000
          rw [List.length_append]
          have b1 : (N.1.length : Int) + (0 + 3) ≤ 3 * ((pAv T st).1 : Int) := hB0.1
          have b2 : (pNw (pAv T st)).1 = (pAv T st).1 := rfl
          have b3 : (pAv T st).1 = st.1 + 1 := rfl
          rw [b2, b3] at a6
          rw [b3] at b1
          simp only [p_e] at a6
          omega
        exact mg_6 xs (d + 3) [(tb T st.1, st2.2.1)] w1 hlen (mZ_m (r := pX (tb T st.1) st2) hZ3 w2)
    refine t11 xs (d + 2) hT _ nest (pF_bd1 hF2) (st := pNw (pAv T st)) g1 hi1 (by simp only [List.length_append, List.length_singleton]; omega) (mZ_bd hZ2 (fun st2 o2 s2 hr2 q1 q2 hZ3 => ?_))
    have hq2 := pH_i (pQ_par hT (st := pNw (pAv T st)) hi1) hr2
    have ho2 : rOc T (pAv T st) st2 o2 := by
      split at hr2
      · exact pH_i (rOc_pp k 7 _ _ _ (pNw (pAv T st))) hr2
      · cases hr2
        exact ⟨Nat.le_refl _, fun x hx => absurd hx List.not_mem_nil, List.Pairwise.nil⟩
    have hB2 := mB_o (st := pNw (pAv T st)) hB0 hq2 ho2
    have hF3 := pF_bd2 hF2 hr2
    refine t16 xs (d + 3) q1 hq2.2.1 (by decide) (dec_s (l := 826) (by decide) (by decide) (by decide) (by decide) (by decide)) (mZ_bd hZ3 (fun st3 o3 s3 hr3 w1 w2 hZ4 => ?_))
    have hq3 := pH_i (pQ_tk hT (c := 58) (by decide) hq2.2.1) hr3
    have hB3 := mB_o hB2 hq3 (pH_i rOc_tk hr3)
    exact h5 _ (nest + 1) 0 st3 _ _ s3 (al2 (by omega)) (pF_bd2 hF3 hr3) ⟨w1, mB_w hB3 (by decide) (by decide), hq3.2.1, by omega⟩ hZ4
theorem e7 (hT : tkW T pl) (hl : T.length ≤ 272) (hpl : ∀ i, pl i ≤ 201) {k : Nat} (h8 : r8 xs d T pl Q k) (h7 : r7 xs d T pl Q k) : r7 xs d T pl Q (k + 1) := by
  intro ctx nest b m st N G s hg hF hG hZ
  obtain ⟨hI, hB, hi, hn⟩ := hG
  have hr := mB_r hB (by decide) (by decide) hi hl hpl
  rw [pp] at hF
  refine mg_7 xs (d + 3) m hI hi hr.1 (by omega) (fun h s1 g1 g2 => ?_) (fun h s1 g1 g2 => ?_)
  · have hZ1 := mZ_in hZ g2
    rw [pp, if_pos h] at hZ1
    rw [if_pos h] at hF
    have e1 : pTk T 43 st = .inr (pAv T st, pO0) := by unfold pTk; rw [if_pos h]; rfl
    rw [e1] at hF hZ1
    have hF1 := pF_bd2 hF rfl
    have hZ2 := mZ_in hZ1 (mE_r s1)
    rw [mMo_0] at hZ2
    have hi1 : (pAv T st).1 < T.length := (tk_nx hT hi h (by decide)).1
    have hB1 := mB_tk hT (mB_x (b := b) (m := m) hB) hi h (by decide)
    refine h8 ctx nest 0 (pAv T st) _ (G ++ [(7, b)]) s1 (al1 (by omega)) (pF_bd1 hF1) ⟨g1, mB_w hB1 (by decide) (by decide), hi1, hn⟩ (mZ_bd hZ2 (fun st2 o2 s2 hr2 q1 q2 hZ3 => ?_))
    have hq2 := pH_i (pQ_pp hT k 1 _ _ _ _ hi1) hr2
    have hB2 := mB_o hB1 hq2 (pH_i (rOc_pp k 1 _ _ _ _) hr2)
    exact h7 ctx nest b [(b, st2.2.1)] st2 _ G s2 hg (pF_bd2 (pF_bd2 hF1 hr2) rfl) ⟨q1, mB_w hB2 (by decide) (by decide), hq2.2.1, hn⟩ hZ3
  · have hZ1 := mZ_in hZ g2
    rw [pp, if_neg h] at hZ1
    have hZ2 : ∀ s2, mI T nest st (mMo (mMo N (m, [(b, st.2.1)], [], [], [], [])) pO0) G s2 → mE s1 s2 → mW xs (d + 3) Q s2 := hZ1
    rw [mMo_0] at hZ2
    exact hZ2 s1 g1 (mE_r s1)
theorem e10 (hT : tkW T pl) (hl : T.length ≤ 272) (hpl : ∀ i, pl i ≤ 201) {k : Nat} (h5 : r5 xs d T pl Q k) (h10 : r10 xs d T pl Q k) : r10 xs d T pl Q (k + 1) := by
  intro ctx nest x st N G s hnn hg hF hG hZ
  obtain ⟨hI, hB, hi, hn⟩ := hG
  rw [pp] at hF hZ
  refine mg_10 xs (d + 2) hI hi (by omega) (fun h s1 g1 g2 => ?_) (fun h s1 g1 g2 => ?_)
  · rw [if_pos h] at hF hZ
    have e1 : pTk T 44 st = .inr (pAv T st, pO0) := by unfold pTk; rw [if_pos h]; rfl
    rw [e1] at hF hZ
    have hF1 := pF_bd2 hF rfl
    have hZ2 := mZ_in hZ g2
    rw [mMo_0] at hZ2
    have hi1 : (pAv T st).1 < T.length := (tk_nx hT hi h (by decide)).1
    have hB1 := mB_tk hT hB hi h (by decide)
    refine h5 ctx (nest + 1) 0 (pAv T st) _ (G ++ [(10, 0)]) s1 (al1 (by omega)) (pF_bd1 hF1) ⟨g1, mB_w hB1 (by decide) (by decide), hi1, hn⟩ (mZ_bd hZ2 (fun st2 o2 s2 hr2 q1 q2 hZ3 => ?_))
    have hq2 := pH_i (pQ_pp hT k 0 _ _ _ _ hi1) hr2
    have hB2 := mB_o hB1 hq2 (pH_i (rOc_pp k 0 _ _ _ _) hr2)
    exact h10 ctx nest 0 st2 _ G s2 hnn hg (pF_bd2 hF1 hr2) ⟨q1, mB_w hB2 (by decide) (by decide), hq2.2.1, hn⟩ hZ3
  · rw [if_neg h] at hZ
    have hZ2 : ∀ s2, mI T (nest + 1) st (mMo N pO0) G s2 → mE s s2 → mW xs (d + 3) Q s2 := hZ
    rw [mMo_0] at hZ2
    exact hZ2 s1 g1 g2
/-- calls -/
theorem e9 (hT : tkW T pl) (hl : T.length ≤ 272) (hpl : ∀ i, pl i ≤ 201) {k : Nat} (h5 : ∀ j, j < k + 1 → r5 xs d T pl Q j) (h10 : ∀ j, j < k + 1 → r10 xs d T pl Q j) (h9 : r9 xs d T pl Q k) : r9 xs d T pl Q (k + 1) := by
  intro ctx nest b m st N G s hg hF hG hZ
  obtain ⟨hI, hB, hi, hn⟩ := hG
  have hr := mB_r hB (by decide) (by decide) hi hl hpl
  rw [pp] at hF
  have hBx := mB_x (b := b) (m := m) hB
  refine m9s xs d hT m hI hi hn (by omega) hr.1 (fun h s1 g1 g2 => ?_) (fun h hnn s1 g1 g2 => ?_) (fun h hnn => ?_)
  · have hZ1 := mZ_in hZ g2
    rw [pp, if_neg h] at hZ1
    have hZ2 : ∀ s2, mI T nest st (mMo (mMo N (m, [(b, st.2.1)], [], [], [], [])) pO0) G s2 → mE s1 s2 → mW xs (d + 3) Q s2 := hZ1
    rw [mMo_0] at hZ2
    exact hZ2 s1 g1 (mE_r s1)
  · have hZ1 := mZ_in hZ g2
    rw [pp, if_pos h] at hZ1
    rw [if_pos h] at hF
    cases k with
    | zero => exact absurd rfl hF
    | succ k =>
      rw [show pp T (k + 1) 5 ctx nest 0 st = .inl (21, tb T st.1) by rw [pp]; unfold pTd; rw [if_pos h, if_pos hnn]; rfl] at hZ1
      exact hZ1 s1 g1 (mE_r s1)
  · rw [if_pos h] at hF
    cases k with
    | zero => exact absurd rfl hF
    | succ k =>
      have hi1 : (pAv T st).1 < T.length := (tk_nx hT hi h (by decide)).1
      have hB1 := mB_tk hT hBx hi h (by decide)
      have e5 : pp T (k + 1) 5 ctx nest 0 st = (if tc T (st.1 + 1) = 41 then pTk T 41 (pAv T st) else pBd (pp T k 0 ctx (nest + 1) 0 (pAv T st)) (fun s2 => pBd (pp T k 6 ctx nest 0 s2) (fun s3 => pTk T 41 s3))) := by
        rw [pp]
        have e1 : pTd T 40 nest st = pOk (pAv T st) := by unfold pTd; rw [if_pos h, if_neg hnn]
        rw [e1, pBd_ok]
        rfl
      rw [e5] at hF
      refine ⟨fun h41 s1 g1 g2 => ?_, fun h41 s1 g1 g2 => ?_⟩
      · have hZ1 := mZ_in hZ g2
        rw [pp, if_pos h, e5, if_pos h41] at hZ1
        rw [if_pos h41] at hF
        refine t21 xs (d + 2) g1 hi1 (by omega) (by decide) (by decide) (mZ_bd hZ1 (fun st2 o2 s2 hr2 q1 q2 hZ2 => ?_))
        have hq2 := pH_i (pQ_tk hT (c := 41) (by decide) hi1) hr2
        have hB2 := mB_o hB1 hq2 (pH_i rOc_tk hr2)
        exact h9 ctx nest b [(b, st2.2.1)] st2 _ G s2 hg (pF_bd2 (pF_bd2 hF hr2) rfl) ⟨q1, mB_w hB2 (by decide) (by decide), hq2.2.1, hn⟩ hZ2
      · have hZ1 := mZ_in hZ g2
        rw [pp, if_pos h, e5, if_neg h41, pBd_as] at hZ1
        rw [if_neg h41, pBd_as] at hF
        refine h5 k (by omega) ctx (nest + 1) 0 (pAv T st) _ (G ++ [(9, b)] ++ [(21, 41)] ++ [(10, 0)]) s1 (al3 (by omega)) (pF_bd1 hF) ⟨g1, mB_w hB1 (by decide) (by decide), hi1, by omega⟩ (mZ_bd hZ1 (fun st2 o2 s2 hr2 q1 q2 hZ2 => ?_))
        have hq2 := pH_i (pQ_pp hT k 0 _ _ _ _ hi1) hr2
        have hB2 := mB_o hB1 hq2 (pH_i (rOc_pp k 0 _ _ _ _) hr2)
        have hF2 := pF_bd2 hF hr2
        rw [pBd_as] at hZ2 hF2
        refine h10 k (by omega) ctx nest 0 st2 _ (G ++ [(9, b)] ++ [(21, 41)]) s2 (by omega) (al2 (by omega)) (pF_bd1 hF2) ⟨q1, mB_w hB2 (by decide) (by decide), hq2.2.1, by omega⟩ (mZ_bd hZ2 (fun st3 o3 s3 hr3 w1 w2 hZ3 => ?_))
        have hq3 := pH_i (pQ_pp hT k 6 _ _ _ _ hq2.2.1) hr3
        have hB3 := mB_o hB2 hq3 (pH_i (rOc_pp k 6 _ _ _ _) hr3)
        have hF3 := pF_bd2 hF2 hr3
        refine t21 xs (d + 2) w1 hq3.2.1 (by omega) (by decide) (by decide) (mZ_bd hZ3 (fun st4 o4 s4 hr4 y1 y2 hZ4 => ?_))
        have hq4 := pH_i (pQ_tk hT (c := 41) (by decide) hq3.2.1) hr4
        have hB4 := mB_o hB3 hq4 (pH_i rOc_tk hr4)
        exact h9 ctx nest b [(b, st4.2.1)] st4 _ G s4 hg (pF_bd2 (pF_bd2 hF3 hr4) rfl) ⟨y1, mB_w hB4 (by decide) (by decide), hq4.2.1, hn⟩ hZ4
end MX
