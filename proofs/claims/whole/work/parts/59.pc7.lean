/-! The class's comprehensions, items, and expressions altogether. -/
theorem pBd_l {r : pR} {f : pS → pR} {s1 : pS} {o1 : pO} {e : Int × Int} (hr : r = .inr (s1, o1)) (hf : f s1 = .inl e) : pBd r f = .inl e := by
  subst hr
  show (match f s1 with | .inl e => (Sum.inl e : pR) | .inr (st2, o2) => .inr (st2, pAp o1 o2)) = _
  rw [hf]
theorem pBd_r {r : pR} {f : pS → pR} {s1 s2 : pS} {o1 o2 : pO} (hr : r = .inr (s1, o1)) (hf : f s1 = .inr (s2, o2)) : pBd r f = .inr (s2, pAp o1 o2) := by
  subst hr
  show (match f s1 with | .inl e => (Sum.inl e : pR) | .inr (st2, o2) => .inr (st2, pAp o1 o2)) = _
  rw [hf]
theorem pBd_0 {r : pR} {f : pS → pR} {e : Int × Int} (hr : r = .inl e) : pBd r f = .inl e := by
  subst hr
  rfl
section PC
variable (xs : Option (List Int32)) {T : List lxT} {pl : Nat → Int}
theorem pQ_hd (hT : tkW T pl) {k nest : Nat} {ctx : pC} {st : pS} (hi : st.1 < T.length) : pH (pHd T k ctx nest st) (pQ T pl 0 0 0 0 (pNw st)) := by
  unfold pHd
  have hi2 : (pNw st).1 < T.length := hi
  refine pQ_ww (pQ_bd (pQ_td hT (c := 91) (by decide) hi2) (fun s1 h1 => pQ_bd (pQ_pp hT k 0 _ _ _ _ h1) (fun s2 h2 => pQ_tk hT (c := 20) (by decide) h2))) ?_ ?_ ?_ ?_
  all_goals decide
theorem s60 (hT : tkW T pl) {k : Nat} (h54 : q54 xs T k) (d : Nat) (ctx : pC) (nest : Nat) (st : pS) (M : pM) (s : zS) (a : Int32) (Q : Int32 → zS → Prop) (hd : 10 * (11 - nest) + 6 ≤ d) (hF : pF (pCC T k ctx nest st)) (hG : pG T ctx nest st M s a) (hZ : pZ T ctx M s (pCC T k ctx nest st) Q) : zWi xs d 60 0 [(0, .ref 26), (1, .int a)] s Q := by
  obtain ⟨d, rfl⟩ : ∃ e, d = e + 1 := ⟨d - 1, by omega⟩
  have hi := hG.2.2.2.2.2.2
  have hU := hG.1.2.1
  obtain ⟨z0, z1⟩ := pZ_cm hZ
  obtain ⟨f0, f1⟩ := pF_cm2 hF
  refine vc_60_0 xs d s a Q ?_
  refine ct_70 xs d hG.1.1 4 _ _ (fun v s1 q1 q2 q3 => ?_)
  have hO := pG_op (b1 := 4) (sort := 4) hG rfl ctx.2.2.1 (pcx_c hG.2.2.1.1 hG.2.1) q1 q2 q3
  have hE1 : pE s (zf s1 12 v) := zE_f (zE_m q2 (fun k hk => by simp at hk ⊢; omega) (fun k hk => by simp at hk ⊢; omega)) rfl
  have hZr : pZ T ((st.2.2.1 : Int), 4, ctx.2.2.1, ctx.2.2.2) (pMp M 4 ctx.1) (zf s1 12 v) (pHd T k ctx nest st) (fun w s2 => (w = 0 → Q 0 (zf s2 12 (s.1 12))) ∧ (w = 1 → ∃ st3 o1, pHd T k ctx nest st = .inr (st3, o1) ∧ pI T ((st.2.2.1 : Int), 4, ctx.2.2.1, ctx.2.2.2) st3 (pMo (pMp M 4 ctx.1) o1) s2 ∧ pE s s2)) :=
    pZ_mk (fun e hr s2 g1 g2 => ⟨fun _ => z0 e hr _ g1 (zE_f (pE_t hE1 g2) rfl), fun h => absurd h (by decide)⟩) (fun st3 o1 hr s2 g1 g2 => ⟨fun h => absurd h (by decide), fun _ => ⟨st3, o1, hr, g1, pE_t hE1 g2⟩⟩)
  have hZr2 : pZ T ((st.2.2.1 : Int), 4, ctx.2.2.1, ctx.2.2.2) (pMp M 4 ctx.1) (zf s1 12 v) (pBd (pTd T 91 nest (pNw st)) (fun s1 => pBd (pp T k 0 ((st.2.2.1 : Int), 4, ctx.2.2.1, ctx.2.2.2) (nest + 1) 0 s1) (fun s2 => pTk T 20 s2))) (fun w s2 => (w = 0 → Q 0 (zf s2 12 (s.1 12))) ∧ (w = 1 → ∃ st3 o1, pHd T k ctx nest st = .inr (st3, o1) ∧ pI T ((st.2.2.1 : Int), 4, ctx.2.2.1, ctx.2.2.2) st3 (pMo (pMp M 4 ctx.1) o1) s2 ∧ pE s s2)) := hZr
  have f2 : pF (pBd (pTd T 91 nest (pNw st)) (fun s1 => pBd (pp T k 0 ((st.2.2.1 : Int), 4, ctx.2.2.1, ctx.2.2.2) (nest + 1) 0 s1) (fun s2 => pTk T 20 s2))) := f0
  have hiO := hO.2.2.2.2.2.2
  refine ct_63 xs d (by omega) hT hO.1 hiO 91 a 91 rfl (by decide) nest hG.2.2.2.2.2.1 _ (pZ_an hZr2 (fun _ h => h.1 rfl) (fun st1 o1 s2 hr g1 g2 hZ1 => ?_))
  have hn := pTd_n hr
  have hG1 := pG_o hO (pH_i (pQ_td hT (by decide) hiO) hr) g1
  have hi1 := hG1.2.2.2.2.2.2
  have hF1 := pF_bd2 f2 hr
  refine h54 d _ _ _ _ _ _ _ _ (by omega) (pF_bd1 hF1) (pG_n hG1 hn) (pZ_an hZ1 (fun _ h => h.1 rfl) (fun st2 o2 s3 hr2 g3 g4 hZ2 => ?_))
  have hG2 := pG_o hG1 (pH_i (pQ_pp hT k 0 _ _ _ _ hi1) hr2) g3
  refine ct_62 xs d (by omega) hT hG2.1 hG2.2.2.2.2.2.2 20 20 rfl (by decide) _ (pZ_fin hZ2 (fun _ h => h.1 rfl) (fun s20 h => ?_))
  obtain ⟨st3, oh, hrh, hI3, hE3⟩ := h.2 rfl
  obtain ⟨y0, y1⟩ := z1 st3 oh hrh
  have hG3 := pG_o hO (pH_i (pQ_hd hT hi) hrh) hI3
  have hi3 := hG3.2.2.2.2.2.2
  refine ct_64 xs d (by omega) hT hG3.1 hi3 2 2 rfl _ (pZ_mk (fun e hr4 s28 g5 g6 => ⟨fun _ => y0 e ?_ _ g5 (zE_f (pE_t hE3 g6) rfl), fun h => absurd rfl h⟩) (fun st4 o4 hr4 s28 g5 g6 => ⟨fun h => absurd h (by decide), fun _ => ?_⟩))
  · have h9 : pNm T 2 (st.2.2.1 : Int) (st.2.2.1 : Int) st3 = .inl e := hr4
    rw [h9]
    rfl
  have h9 : pNm T 2 (st.2.2.1 : Int) (st.2.2.1 : Int) st3 = .inr (st4, o4) := hr4
  have hq4 := pH_i (pQ_nm hT hi3) h9
  have e4 := pH_i pNm_o h9
  have hG4' := pG_o hG3 hq4 g5
  have hE4 : pE s s28 := pE_t hE3 g6
  refine ct_74 xs d (s := zf s28 12 (s.1 12)) (show pK T (zf s28 12 (s.1 12)) from g5.1) v _ _ (fun s36 w1 w2 w3 => ?_)
  obtain ⟨oA, hoA⟩ : ∃ oA : pO, oA = (oh.1, oh.2.1, (4, ctx.1, (st3.2.2.2 : Int), 0, 0, 0, 0, 0, 0) :: oh.2.2.1, oh.2.2.2.1, oh.2.2.2.2.1 ++ [(st3.1, (st.2.2.1 : Int), (st.2.2.1 : Int), 2)], oh.2.2.2.2.2) := ⟨_, rfl⟩
  have eA : pMo (pMo (pMp M 4 ctx.1) oh) o4 = ((pMo M oA).1, (pMo M oA).2.1, (pMo M oA).2.2.1, M.2.2.2.1 ++ (-1) :: oh.2.2.1.map (fun x => x.2.2.1), (pMo M oA).2.2.2.2.1, (pMo M oA).2.2.2.2.2) := by
    rw [e4, hoA]
    unfold pMo pMp
    simp only [List.append_assoc, List.map_cons, List.cons_append, List.nil_append, List.append_nil, List.map_nil]
  have eT : (pMo M oA).2.2.2.1 = M.2.2.2.1 ++ (st3.2.2.2 : Int) :: oh.2.2.1.map (fun x => x.2.2.1) := by
    rw [hoA]
    unfold pMo
    simp only [List.map_cons]
  have hE5 : pE s (zf s36 13 ((s36.1 13) + 1)) := zE_f (zE_t (s1 := zf s28 12 (s.1 12)) (zE_f hE4 rfl) (zE_m w2 (fun k _ => rfl) (fun k hk => by simp at hk ⊢; omega))) rfl
  have hV4 : pV T (ctx.1, ctx.2.1, ctx.2.2.1, ctx.2.2.2 + 1) (pMo M oA) (zf s36 13 ((s36.1 13) + 1)) := by
    intro hcap
    have hc0 := pCap_m hcap
    obtain ⟨x1, x2, x3, x4, x5⟩ := hG.1.2.2 hc0
    have hl : M.2.1.length < 32 := by
      have := hcap.1
      have e : (pMo M oA).2.1.length = M.2.1.length + (oA.2.2.1.map (fun x => x.1)).length := List.length_append
      rw [hoA, List.map_cons, List.length_cons] at e
      rw [hoA] at this
      omega
    obtain ⟨v1, _⟩ := q3 _ _ _ hl x2
    have hcap2 : pCap (pMo (pMo (pMp M 4 ctx.1) oh) o4) := by rw [eA]; exact hcap
    obtain ⟨u1, u2, u3, u4, u5⟩ := g5.2.2 hcap2
    rw [eA] at u1 u2 u3 u4
    have hlt : v.toInt < ((pMo M oA).2.1.length : Int) := by
      have e : (pMo M oA).2.1.length = M.2.1.length + (oA.2.2.1.map (fun x => x.1)).length := List.length_append
      rw [hoA, List.map_cons, List.length_cons] at e
      rw [hoA]
      omega
    have t1 := w3 _ _ _ u2 (by omega) hlt
    have hts : M.2.2.2.1.length = M.2.1.length := x2.2.2.1
    have hv2 : v.toInt.toNat = M.2.2.2.1.length := by omega
    have h7 : ((s28.1 7) - 1).toInt = (st3.2.2.2 : Int) := by
      have l1 : (s28.1 7).toInt = (((pMo M oA).2.2.2.2.1).length : Int) := u3.1
      have l2 : ((pMo M oA).2.2.2.2.1).length = M.2.2.2.2.1.length + (oh.2.2.2.2.1.length + 1) := by
        rw [hoA]
        unfold pMo
        simp only [List.length_append, List.length_cons, List.length_nil]
      have l3 : st3.2.2.2 = M.2.2.2.2.1.length + oh.2.2.2.2.1.length := by
        rw [hG3.2.2.1.2]
        exact List.length_append
      have l4 : ((pMo M oA).2.2.2.2.1).length ≤ 100 := hcap.2.1
      rw [ti_sub (by rw [l1]; show zR (_ - (1 : Int)); exact ⟨by omega, by omega⟩), l1]
      show _ - (1 : Int) = _
      omega
    rw [hv2, h7, set_mid, ← eT] at t1
    have hEz : zE [12, 13] [14] s28 (zf s36 13 ((s36.1 13) + 1)) := zE_f (zE_t (s1 := zf s28 12 (s.1 12)) (zE_f (zE_r s28) rfl) (zE_m w2 (fun k _ => rfl) (fun k hk => hk))) rfl
    refine ⟨xR_E hEz rfl rfl rfl u1, t1, oR_E hEz rfl rfl rfl rfl rfl rfl u3, rR_E hEz rfl u4, ?_, ?_⟩
    · show (s36.1 12).toInt = ctx.1
      rw [w2.1 12 rfl]
      exact x5.1
    · show ((s36.1 13) + 1).toInt = ((ctx.2.2.2 + 1 : Nat) : Int)
      have h13 : (s36.1 13).toInt = ((ctx.2.2.2 : Nat) : Int) := by
        rw [w2.1 13 rfl]
        exact u5.2
      exact ti_inc h13 (by have := hG.2.2.2.1; have := hG.2.2.2.2.1; omega)
  have hU36 : pU T st4 s36 := pU_E (F := []) (s := zf s28 12 (s.1 12)) w2 rfl rfl rfl rfl rfl g5.2.1
  have hU4 : pU T st4 (zf s36 13 ((s36.1 13) + 1)) := hU36
  have hG4 : pG T (ctx.1, ctx.2.1, ctx.2.2.1, ctx.2.2.2 + 1) (nest + 1) st4 (pMo M oA) (zf s36 13 ((s36.1 13) + 1)) (a + 1) := by
    refine ⟨⟨w1, hU4, hV4⟩, pcx_o oA hG.2.1, ⟨?_, ?_⟩, ?_, by omega, ti_inc hG.2.2.2.2.2.1 (by omega), hG4'.2.2.2.2.2.2⟩
    · have := hG4'.2.2.1.1
      rw [eA] at this
      exact this
    · have := hG4'.2.2.1.2
      rw [eA] at this
      exact this
    · have := hG.2.2.2.1
      show ctx.2.2.2 + 1 ≤ nest + 1
      omega
  have hi4 := hG4.2.2.2.2.2.2
  refine ct_62 xs d (by omega) hT hG4.1 hi4 24 24 rfl (by decide) _ (pZ_mk (fun e hr5 s38 g7 g8 => ⟨fun _ => y0 e ?_ _ g7 (zE_f (pE_t hE5 g8) rfl), fun h => absurd rfl h⟩) (fun st5 o5 hr5 s38 g7 g8 => ⟨fun h => absurd h (by decide), fun _ => ?_⟩))
  · exact pBd_l h9 hr5
  have teq : pBd (pNm T 2 (st.2.2.1 : Int) (st.2.2.1 : Int) st3) (fun s4 => pTk T 24 s4) = .inr (st5, pAp o4 o5) := pBd_r h9 hr5
  obtain ⟨x0, x1⟩ := y1 st5 (pAp o4 o5) teq
  have e5 := pH_i pTk_o hr5
  have hG5 := pG_o hG4 (pH_i (pQ_tk hT (by decide) hi4) hr5) g7
  have hi5 := hG5.2.2.2.2.2.2
  have hE6 := pE_t hE5 g8
  refine h54 d _ _ _ _ _ _ _ _ (by omega) (f1 st3 oh st5 (pAp o4 o5) hrh teq) hG5 (pZ_mk (fun e hr6 s46 g9 g10 => ⟨fun _ => x0 e hr6 _ g9 (zE_f (pE_t hE6 g10) rfl), fun h => absurd rfl h⟩) (fun st6 o6 hr6 s46 g9 g10 => ⟨fun h => absurd h (by decide), fun _ => ?_⟩))
  obtain ⟨t0, t1⟩ := x1 st6 o6 hr6
  have hG6 := pG_o hG5 (pH_i (pQ_pp hT k 0 _ _ _ _ hi5) hr6) g9
  have hI6 : pI T ctx st6 (pMo (pMo (pMo M oA) o5) o6) (zf s46 13 ((s46.1 13) - 1)) := by
    refine ⟨g9.1, g9.2.1, fun hcap => ?_⟩
    obtain ⟨u1, u2, u3, u4, u5⟩ := g9.2.2 hcap
    refine ⟨u1, u2, u3, u4, u5.1, ?_⟩
    have h13 : (s46.1 13).toInt = ((ctx.2.2.2 + 1 : Nat) : Int) := u5.2
    have hb1 := hG.2.2.2.1
    have hb2 := hG.2.2.2.2.1
    show ((s46.1 13) - 1).toInt = (ctx.2.2.2 : Int)
    rw [ti_sub (by rw [h13]; show zR (_ - (1 : Int)); exact ⟨by omega, by omega⟩), h13]
    show _ - (1 : Int) = _
    omega
  have hE7 : pE s (zf s46 13 ((s46.1 13) - 1)) := zE_f (pE_t hE6 g10) rfl
  refine ct_62 xs d (by omega) hT hI6 hG6.2.2.2.2.2.2 93 93 rfl (by decide) _ (pZ_mk (fun e hr7 s54 g11 g12 => ⟨fun _ => t0 e hr7 _ g11 (pE_t hE7 g12), fun h => absurd rfl h⟩) (fun st7 o7 hr7 s54 g11 g12 => ⟨fun h => absurd h (by decide), fun _ => t1 st7 o7 hr7 _ ?_ (pE_t hE7 g12)⟩))
  have e7 := pH_i pTk_o hr7
  rw [e7, e5, pMo_0, pMo_0, hoA] at g11
  rw [e4, e5]
  have efin : pMo (pMo M (oh.1, oh.2.1, (4, ctx.1, (st3.2.2.2 : Int), 0, 0, 0, 0, 0, 0) :: oh.2.2.1, oh.2.2.2.1, oh.2.2.2.2.1 ++ [(st3.1, (st.2.2.1 : Int), (st.2.2.1 : Int), 2)], oh.2.2.2.2.2)) o6 = pMo M (oh.1 ++ o6.1, oh.2.1 ++ o6.2.1, (4, ctx.1, (st3.2.2.2 : Int), (st.1 : Int), (st.1 : Int) + 1, (st6.1 : Int), (st5.1 : Int), (st6.1 : Int), (st3.1 : Int)) :: (oh.2.2.1 ++ o6.2.2.1), oh.2.2.2.1 ++ (4, ctx.1, (st3.2.2.2 : Int), (st.1 : Int), (st.1 : Int) + 1, (st6.1 : Int), (st5.1 : Int), (st6.1 : Int), (st3.1 : Int)) :: o6.2.2.2.1, oh.2.2.2.2.1 ++ ((pAp ([], [], [], [], [(st3.1, (st.2.2.1 : Int), (st.2.2.1 : Int), 2)], []) pO0).2.2.2.2.1 ++ o6.2.2.2.2.1), oh.2.2.2.2.2 ++ o6.2.2.2.2.2) := by
    unfold pMo pAp pO0
    simp only [List.append_assoc, List.map_append, List.map_cons, List.cons_append, List.nil_append, List.append_nil]
  rw [efin] at g11
  exact g11
theorem s57 (hT : tkW T pl) {k : Nat} (h54 : q54 xs T k) : q57 xs T (k + 1) := by
  intro d ctx nest x st M s a Q hd hF hG hZ
  obtain ⟨d, rfl⟩ : ∃ e, d = e + 1 := ⟨d - 1, by omega⟩
  rw [pp] at hF hZ
  have hi := hG.2.2.2.2.2.2
  have hU := hG.1.2.1
  refine vc_57_0 xs d s a Q ?_
  rw [hU.2.1]
  refine ⟨fun h0 => ?_, fun h1 => ?_, fun h40 => ?_, fun h91 => ?_, fun hn => ?_⟩
  · rw [if_pos h0] at hZ
    exact ct_64 xs d (by omega) hT hG.1 hi 1 1 rfl _ (pZ_b hZ)
  · rw [if_neg (by omega), if_pos h1] at hZ
    exact ct_62 xs d (by omega) hT hG.1 hi 1 1 rfl (by decide) _ (pZ_b hZ)
  · rw [if_neg (by omega), if_neg (by omega), if_pos h40] at hF hZ
    have hZ := pZ_b hZ
    obtain ⟨d, rfl⟩ : ∃ e, d = e + 1 := ⟨d - 1, by omega⟩
    refine vc_59_0 xs d s a _ ?_
    refine ct_63 xs d (by omega) hT hG.1 hi 40 a 40 rfl (by decide) nest hG.2.2.2.2.2.1 _ (pZ_an hZ (fun _ h => h) (fun st1 o1 s1 hr g1 g2 hZ1 => ?_))
    have hn := pTd_n hr
    have hG1 := pG_o hG (pH_i (pQ_td hT (by decide) hi) hr) g1
    have hi1 := hG1.2.2.2.2.2.2
    have hF1 := pF_bd2 hF hr
    refine ct_61 xs d (by omega) g1 hi1 128 128 rfl _ ?_
    by_cases hw : tc T st1.1 = 0 ∧ tc T (st1.1 + 1) = 128
    · rw [decide_eq_true hw]
      rw [if_pos hw] at hF1 hZ1
      refine ⟨fun h => absurd h (by decide), fun _ => ?_⟩
      refine ct_65 xs d (by omega) hT g1 hG1.2.1 hi1 hw.1 hw.2 _ (pZ_bd hZ1 (fun st3 o3 s3 hr3 w1 w2 hZ3 => fun _ => ?_) (fun e s3 _ _ _ _ => fun h => absurd h (by decide)))
      have hG3 := pG_o hG1 (pH_i (pQ_bd (pQ_nm hT hi1) (fun s2 h2 => pQ_tk hT (c := 128) (by decide) h2)) hr3) w1
      have hi3 := hG3.2.2.2.2.2.2
      have hF3 := pF_bd2 hF1 hr3
      refine h54 d _ _ _ _ _ _ _ _ (by omega) (pF_bd1 hF3) (pG_n hG3 hn) (pZ_an hZ3 (fun _ h => h) (fun st4 o4 s4 hr4 y1 y2 hZ4 => ?_))
      have hG4 := pG_o hG3 (pH_i (pQ_pp hT k 0 _ _ _ _ hi3) hr4) y1
      exact ct_62 xs d (by omega) hT hG4.1 hG4.2.2.2.2.2.2 41 41 rfl (by decide) _ (pZ_fin hZ4 (fun _ h => h) (fun _ h => h))
    · rw [decide_eq_false hw]
      rw [if_neg hw, pBd_ok] at hF1 hZ1
      refine ⟨fun _ => ?_, fun h => absurd rfl h⟩
      refine h54 d _ _ _ _ _ _ _ _ (by omega) (pF_bd1 hF1) (pG_n hG1 hn) (pZ_an hZ1 (fun _ h => h) (fun st4 o4 s4 hr4 y1 y2 hZ4 => ?_))
      have hG4 := pG_o hG1 (pH_i (pQ_pp hT k 0 _ _ _ _ hi1) hr4) y1
      exact ct_62 xs d (by omega) hT hG4.1 hG4.2.2.2.2.2.2 41 41 rfl (by decide) _ (pZ_fin hZ4 (fun _ h => h) (fun _ h => h))
  · rw [if_neg (by omega), if_neg (by omega), if_neg (by omega), if_pos h91] at hF hZ
    refine ct_107 xs d hG.1.1.1 st.1 hi _ hU.1 _ ?_
    by_cases hb : pbc (T.drop (st.1 + 1)) 0 = true
    · rw [if_pos hb] at hF hZ
      rw [hb]
      refine ⟨fun h => absurd h (by decide), fun _ => ?_⟩
      exact s60 xs hT h54 d ctx nest st M s a _ (by omega) hF hG (pZ_b hZ)
    · have hb2 : pbc (T.drop (st.1 + 1)) 0 = false := Bool.eq_false_iff.mpr hb
      rw [if_neg hb] at hF hZ
      rw [hb2]
      refine ⟨fun _ => ?_, fun h => absurd rfl h⟩
      refine ct_63 xs d (by omega) hT hG.1 hi 91 a 91 rfl (by decide) nest hG.2.2.2.2.2.1 _ (pZ_an hZ (fun _ h => h) (fun st1 o1 s1 hr g1 g2 hZ1 => ?_))
      have hn := pTd_n hr
      have hG1 := pG_o hG (pH_i (pQ_td hT (by decide) hi) hr) g1
      have hi1 := hG1.2.2.2.2.2.2
      have hF1 := pF_bd2 hF hr
      refine h54 d _ _ _ _ _ _ _ _ (by omega) (pF_bd1 hF1) (pG_n hG1 hn) (pZ_an hZ1 (fun _ h => h) (fun st4 o4 s4 hr4 y1 y2 hZ4 => ?_))
      have hG4 := pG_o hG1 (pH_i (pQ_pp hT k 0 _ _ _ _ hi1) hr4) y1
      exact ct_62 xs d (by omega) hT hG4.1 hG4.2.2.2.2.2.2 93 93 rfl (by decide) _ (pZ_fin hZ4 (fun _ h => h) (fun _ h => h))
  · obtain ⟨n0, n1, n40, n91⟩ := hn
    rw [if_neg n0, if_neg n1, if_neg n40, if_neg n91] at hZ
    exact ct_67 xs d hG.1.1 hU 20 _ (fun s1 g1 g2 => ⟨Or.inl rfl, hZ s1 g1 g2⟩)
theorem sEx (hT : tkW T pl) : ∀ k, q54 xs T k ∧ q54l xs T k ∧ q56 xs T k ∧ q56l xs T k ∧ q57 xs T k ∧ q58 xs T k ∧ q58l xs T k := by
  intro k
  induction k with
  | zero =>
    refine ⟨?_, ?_, ?_, ?_, ?_, ?_, ?_⟩
    · intro d ctx nest x st M s a Q hd hF; exact absurd rfl hF
    · intro d ctx nest x st M s a a2 a4 Q hd h2 h0 h4 hF; exact absurd rfl hF
    · intro d ctx nest x st M s a Q hd hF; exact absurd rfl hF
    · intro d ctx nest x st M s a a2 a4 Q hd h2 h0 h4 hF; exact absurd rfl hF
    · intro d ctx nest x st M s a Q hd hF; exact absurd rfl hF
    · intro d ctx nest x st M s a Q hd hF; exact absurd rfl hF
    · intro d ctx nest x st M s a a3 Q hd hn h0 h3 hF; exact absurd rfl hF
  | succ k ih =>
    obtain ⟨h54, h54l, h56, h56l, h57, h58, h58l⟩ := ih
    exact ⟨s54 xs hT h54 h56 h54l, s54l xs hT h56 h54l, s56 xs hT h57 h56l, s56l xs hT h58 h56l, s57 xs hT h54, s58 xs hT h54 h58l, s58l xs hT h54 h58l⟩
end PC
