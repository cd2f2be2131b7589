/-! The reference's items. -/
section MZ
variable {xs : Option (List Int32)} {d : Nat} {T : List lxT} {pl : Nat → Int} {nest : Nat} {N : mM} {G : List (Int × Int)} {s : zS} {Q : zS → Prop} {st : pS}
theorem mB_c {e q : Int} {N1 : mM} (h : mB pl e q st N) (h1 : N1.1.length = N.1.length) (h2 : N1.2.1.length = N.2.1.length) (h3 : N1.2.2 = N.2.2) : mB pl e q st N1 := ⟨by rw [h1]; exact h.1, by rw [h2]; exact h.2.1, by rw [h3]; exact h.2.2.1, by rw [h2]; exact h.2.2.2⟩
theorem mZ_mk {r : pR} (h0 : ∀ e, r = .inl e → ∀ s1, mFl T e s1 → mE s s1 → Q s1) (h1 : ∀ st o, r = .inr (st, o) → ∀ s1, mI T nest st (mMo N o) G s1 → mE s s1 → mW xs d Q s1) : mZ xs d T nest N G s r Q := by
  match r, h0, h1 with
  | .inl e, h0, _ => exact h0 e rfl
  | .inr (st, o), _, h1 => exact h1 st o rfl
theorem mZ_cm {c : Int} {i : Nat} {r : pR} {tail src f : pS → pR} (h : mZ xs d T nest N G s (pBd (pCm T c i r tail src) f) Q) : (∀ e, r = .inl e → ∀ s1, mFl T e s1 → mE s s1 → Q s1) ∧ (∀ s3 o1, r = .inr (s3, o1) → (∀ e, tail s3 = .inl e → ∀ s1, mFl T e s1 → mE s s1 → Q s1) ∧ (∀ s5 o2, tail s3 = .inr (s5, o2) → (∀ e, src s5 = .inl e → ∀ s1, mFl T e s1 → mE s s1 → Q s1) ∧ (∀ s6 o3, src s5 = .inr (s6, o3) → (∀ e, pTk T 93 s6 = .inl e → ∀ s1, mFl T e s1 → mE s s1 → Q s1) ∧ (∀ s7 o7, pTk T 93 s6 = .inr (s7, o7) → ∀ s1, mE s s1 → mZ xs d T nest (mMo N (o1.1 ++ o3.1, o1.2.1 ++ o3.2.1, (4, c, (s3.2.2.2 : Int), (i : Int), (i : Int) + 1, (s6.1 : Int), (s5.1 : Int), (s6.1 : Int), (s3.1 : Int)) :: (o1.2.2.1 ++ o3.2.2.1), o1.2.2.2.1 ++ (4, c, (s3.2.2.2 : Int), (i : Int), (i : Int) + 1, (s6.1 : Int), (s5.1 : Int), (s6.1 : Int), (s3.1 : Int)) :: o3.2.2.2.1, o1.2.2.2.2.1 ++ (o2.2.2.2.2.1 ++ o3.2.2.2.2.1), o1.2.2.2.2.2 ++ o3.2.2.2.2.2)) G s1 (f s7) Q)))) := by
  unfold pCm at h
  refine ⟨fun e hr => by rw [hr] at h; exact h, fun s3 o1 hr => ?_⟩
  rw [hr] at h
  simp only at h
  refine ⟨fun e ht => by rw [ht] at h; exact h, fun s5 o2 ht => ?_⟩
  rw [ht] at h
  simp only at h
  refine ⟨fun e hs => by rw [hs] at h; exact h, fun s6 o3 hs => ?_⟩
  rw [hs] at h
  simp only at h
  refine ⟨fun e h9 => by rw [h9] at h; exact h, fun s7 o7 h9 s1 hE => ?_⟩
  rw [h9] at h
  exact mZ_in h hE
/-- a name that is read takes the role that stands there -/
theorem mI_use {s1 : zS} {c b : Int} (hB : ∀ o ∈ N.2.2, o.1 < st.1) (hi : st.1 < T.length) (hI : mI T nest (pAv T st) N G s1) : mI T nest ((pAv T st).1, (pAv T st).2.1, st.2.2.1, st.2.2.2 + 1) (mMo N ([], [], [], [], [(st.1, c, b, 1)], [])) G s1 := by
  obtain ⟨k1, k2, k3, k4, k5, k6⟩ := hI
  have e0 : mMo N ([], [], [], [], [(st.1, c, b, 1)], []) = (N.1, N.2.1, N.2.2 ++ [(st.1, c, b, 1)]) := by
    unfold mMo
    simp only [List.append_nil]
  rw [e0]
  refine ⟨k1, k2, k3, k4, ?_, k6⟩
  show rlR (rrl T.length (N.2.2 ++ [(st.1, c, b, 1)])) s1
  rw [rrl_s]
  show rlR ((rrl T.length N.2.2).set st.1 0) s1
  rw [rrl_z hB hi]
  exact k5
end MZ
def pIt (T : List lxT) (k : Nat) (ctx : pC) (nest : Nat) (st : pS) : pR := if tc T st.1 = 0 then pNm T 1 ctx.1 ctx.1 st
      else if tc T st.1 = 1 then pTk T 1 st
      else if tc T st.1 = 40 then pBd (pTd T 40 nest st) (fun s1 => pBd (if tc T s1.1 = 0 ∧ tc T (s1.1 + 1) = 128 then pBd (pNm T (if 0 < ctx.2.2.2 then 98 else 34) ctx.1 ctx.2.2.1 s1) (fun s2 => pTk T 128 s2) else pOk s1) (fun s3 => pBd (pp T k 0 ctx (nest + 1) 0 s3) (fun s4 => pTk T 41 s4)))
      else if tc T st.1 = 91 then
        (if pbc (T.drop (st.1 + 1)) 0 = true then pCC T k ctx nest st
        else pBd (pTd T 91 nest st) (fun s1 => pBd (pp T k 0 ctx (nest + 1) 0 s1) (fun s2 => pTk T 93 s2)))
      else .inl (20, tb T st.1)
theorem pp_3 (T : List lxT) (k : Nat) (ctx : pC) (nest : Nat) (x : Int) (st : pS) : pp T (k + 1) 3 ctx nest x st = pIt T k ctx nest st := by
  rw [pp]
  rfl
theorem dec_1 : ∀ a2 : Int32, a2.toInt = 769 → isC (a2 / 256).toInt (a2 - a2 / 256 * 256).toInt 128 := by
  intro a2 h
  have e : a2 = 769 := ti_ext (h.trans (by decide))
  subst e
  exact isC_1
theorem dec_in : ∀ a2 : Int32, a2.toInt = 521 → isC (a2 / 256).toInt (a2 - a2 / 256 * 256).toInt 24 := by
  intro a2 h
  have e : a2 = 521 := ti_ext (h.trans (by decide))
  subst e
  exact isC_w (w := 9) (by decide) (by decide)
section MX
variable (xs : Option (List Int32)) (d : Nat) {T : List lxT} {pl : Nat → Int} {Q : zS → Prop}
/-- a comprehension, from its bracket on -/
theorem eC (hT : tkW T pl) (hl : T.length ≤ 272) (hpl : ∀ i, pl i ≤ 201) {k : Nat} (h5 : r5 xs d T pl Q k) (h9 : r9 xs d T pl Q (k + 1)) (ctx : pC) (nest : Nat) (st : pS) (N : mM) (G : List (Int × Int)) (s s1 : zS) (hg : G.length ≤ 10 * nest + 10) (hB : mB pl 0 0 st N) (hi : st.1 < T.length) (hnn : ¬ 10 ≤ nest) (h : tc T st.1 = 91) (hb : pbc (T.drop (st.1 + 1)) 0 = true) (hF : pF (pBd (pCC T k ctx nest st) (fun s1 => pBd (pX (tb T st.1) s1) (fun s2 => pp T (k + 1) 4 ctx nest (tb T st.1) s2)))) (hI : mI T (nest + 1) (pAv T st) N (G ++ [(9, tb T st.1)] ++ [(21, 93)] ++ [(20, (st.1 : Int))] ++ [(5, 0)]) s1) (hE : mE s s1) (hZ : mZ xs (d + 3) T nest N G s (pBd (pCC T k ctx nest st) (fun s1 => pBd (pX (tb T st.1) s1) (fun s2 => pp T (k + 1) 4 ctx nest (tb T st.1) s2))) Q) : mW xs (d + 3) Q s1 := by
  have hi1 : (pAv T st).1 < T.length := (tk_nx hT hi h (by decide)).1
  have hB1 := mB_tk hT hB hi h (by decide)
  obtain ⟨f0, f1⟩ := pF_cm2 (pF_bd1 hF)
  obtain ⟨z0, z1⟩ := mZ_cm hZ
  have etd : pTd T 91 nest (pNw st) = .inr (pAv T (pNw st), pO0) := by
    unfold pTd
    rw [if_pos (show tc T (pNw st).1 = 91 from h), if_neg hnn]
    rfl
  have ehd : ∀ x, pBd (pp T k 0 ((st.2.2.1 : Int), 4, ctx.2.2.1, ctx.2.2.2) (nest + 1) 0 (pAv T (pNw st))) (fun s2 => pTk T 20 s2) = x → pHd T k ctx nest st = x := by
    intro x hx
    unfold pHd
    rw [etd]
    have e1 : pBd (pOk (pAv T (pNw st))) (fun s1 => pBd (pp T k 0 ((st.2.2.1 : Int), 4, ctx.2.2.1, ctx.2.2.2) (nest + 1) 0 s1) (fun s2 => pTk T 20 s2)) = _ := pBd_ok _ _
    exact e1.trans hx
  have f2 : pF (pp T k 0 ((st.2.2.1 : Int), 4, ctx.2.2.1, ctx.2.2.2) (nest + 1) 0 (pAv T (pNw st))) := by
    rw [ehd _ rfl] at f0
    exact pF_bd1 f0
  refine h5 _ (nest + 1) 0 (pAv T (pNw st)) N (G ++ [(9, tb T st.1)] ++ [(21, 93)] ++ [(20, (st.1 : Int))]) s1 (al3 (by omega)) f2 ⟨hI, mB_w hB1 (by decide) (by decide), hi1, by omega⟩ (mZ_mk (fun e hr s2 g1 g2 => z0 e (ehd _ (pBd_0 hr)) s2 g1 (mE_t hE g2)) (fun st2 o2 hr s2 g1 g2 => ?_))
  have hq2 := pH_i (pQ_pp hT k 0 _ _ _ (pAv T (pNw st)) hi1) hr
  have hi2 := hq2.2.1
  have hB2 := mB_o (st := pAv T (pNw st)) hB1 hq2 (pH_i (rOc_pp k 0 _ _ _ (pAv T (pNw st))) hr)
  have hrm := mB_r hB2 (by decide) (by decide) hi2 hl hpl
  have hpb := pb_for hT (st := pAv T (pNw st)) hi1 hr
  have hE2 := mE_t hE g2
  refine mg_20 xs (d + 2) (by omega) g1 hi2 (by omega) hrm.2 (by rw [List.length_append, List.length_append]; show G.length + 1 + 1 + 3 ≤ 240; omega) (fun h20 s3 q1 q2 => ?_) (fun h20 s3 q1 q2 => ?_)
  · have e20 : pTk T 20 st2 = .inr (pAv T st2, pO0) := by unfold pTk; rw [if_pos h20]; rfl
    have ehr : pHd T k ctx nest st = .inr (pAv T st2, pAp o2 pO0) := ehd _ (pBd_r hr e20)
    rw [pAp_0] at ehr
    obtain ⟨y0, y1⟩ := z1 _ _ ehr
    have hi3 : (pAv T st2).1 < T.length := (tk_nx hT hi2 h20 (by decide)).1
    have hB3 := mB_tk hT hB2 hi2 h20 (by decide)
    have hE3 := mE_t hE2 q2
    refine t17 xs (d + 3) (r := 2) (c := (st.2.2.1 : Int)) (b := (st.2.2.1 : Int)) q1 rfl hi3 (mZ_mk (fun e hr4 s4 g5 g6 => y0 e (pBd_0 hr4) s4 g5 (mE_t hE3 g6)) (fun st4 o4 hr4 s4 g5 g6 => ?_))
    have hq4 := pH_i (pQ_nm hT hi3) hr4
    have hi4 := hq4.2.1
    have e4 := pH_i pNm_o hr4
    have hE4 := mE_t hE3 g6
    refine t16 xs (d + 3) g5 hi4 (by decide) dec_in (mZ_mk (fun e hr5 s5 g7 g8 => y0 e ?_ s5 g7 (mE_t hE4 g8)) (fun st5 o5 hr5 s5 g7 g8 => ?_))
    · exact pBd_l hr4 hr5
    have teq : pBd (pNm T 2 (st.2.2.1 : Int) (st.2.2.1 : Int) (pAv T st2)) (fun s4 => pTk T 24 s4) = .inr (st5, pAp o4 o5) := pBd_r hr4 hr5
    obtain ⟨x0, x1⟩ := y1 st5 (pAp o4 o5) teq
    have e5 := pH_i pTk_o hr5
    have hq5 := pH_i (pQ_tk hT (c := 24) (by decide) hi4) hr5
    have hi5 := hq5.2.1
    have hE5 := mE_t hE4 g8
    have hB5 : mB pl 0 0 st5 (mMo (mMo ((mMo N o2).1, (mMo N o2).2.1 ++ [(4, 0, 0, (st.1 : Int), (st.1 : Int) + 1, (st.1 : Int) + 1, -1, -1, ((st2.1 + 1 : Nat) : Int))], (mMo N o2).2.2) o4) o5) := by
      have b4 := mB_o (mB_s (row := (4, 0, 0, (st.1 : Int), (st.1 : Int) + 1, (st.1 : Int) + 1, -1, -1, ((st2.1 + 1 : Nat) : Int))) hB3) hq4 (by
        rw [e4]
        have h0 := hr4
        unfold pNm at h0
        split at h0
        · rename_i hz
          cases h0
          refine ⟨Nat.le_succ _, fun x hx => ?_, List.pairwise_singleton _ _⟩
          have hx2 : x ∈ [((pAv T st2).1, (st.2.2.1 : Int), (st.2.2.1 : Int), (2 : Int))] := hx
          rw [List.mem_singleton] at hx2
          subst hx2
          exact ⟨Nat.le_refl _, Nat.lt_succ_self _, hz⟩
        · cases h0)
      exact mB_w (mB_o b4 hq5 (pH_i rOc_tk hr5)) (by decide) (by decide)
    have g7' : mI T (nest + 1) st5 ((mMo N o2).1, (mMo N o2).2.1 ++ (4, 0, 0, (st.1 : Int), (st.1 : Int) + 1, (st.1 : Int) + 1, -1, -1, ((st2.1 + 1 : Nat) : Int)) :: [], (mMo N o2).2.2 ++ [((pAv T st2).1, (st.2.2.1 : Int), (st.2.2.1 : Int), 2)]) (G ++ [(9, tb T st.1)] ++ [(21, 93)] ++ [(22, ((mMo N o2).2.1.length : Int))]) s5 := by
      rw [e5, mMo_0, e4] at g7
      unfold mMo at g7 ⊢
      simp only [List.append_nil] at g7 ⊢
      exact g7
    have hB5' : mB pl 0 0 st5 ((mMo N o2).1, (mMo N o2).2.1 ++ (4, 0, 0, (st.1 : Int), (st.1 : Int) + 1, (st.1 : Int) + 1, (st5.1 : Int), -1, ((st2.1 + 1 : Nat) : Int)) :: [], (mMo N o2).2.2 ++ [((pAv T st2).1, (st.2.2.1 : Int), (st.2.2.1 : Int), 2)]) := by
      rw [e5, mMo_0, e4] at hB5
      exact mB_c hB5 (by unfold mMo; simp only [List.append_nil]) (by unfold mMo; simp only [List.append_nil, List.length_append, List.length_cons]) rfl
    refine mg_22 xs (d + 2) g7' (by rw [List.length_append, List.length_append]; show G.length + 1 + 1 + 2 ≤ 240; omega) rfl (fun s6 p1 p2 => ?_)
    have hE6 := mE_t hE5 p2
    refine h5 _ (nest + 1) 0 st5 _ (G ++ [(9, tb T st.1)] ++ [(21, 93)] ++ [(23, ((mMo N o2).2.1.length : Int))]) s6 (al3 (by omega)) (f1 _ _ _ _ ehr teq) ⟨p1, hB5', hi5, by omega⟩ (mZ_mk (fun e hr6 s7 g9 g10 => x0 e hr6 s7 g9 (mE_t hE6 g10)) (fun st6 o6 hr6 s7 g9 g10 => ?_))
    obtain ⟨t0, t1⟩ := x1 st6 o6 hr6
    have hq6 := pH_i (pQ_pp hT k 0 _ _ _ _ hi5) hr6
    have hi6 := hq6.2.1
    have hB6 := mB_o hB5' hq6 (pH_i (rOc_pp k 0 _ _ _ _) hr6)
    have hE7 := mE_t hE6 g10
    have g9' : mI T (nest + 1) st6 ((mMo N o2).1 ++ o6.2.1, (mMo N o2).2.1 ++ (4, 0, 0, (st.1 : Int), (st.1 : Int) + 1, (st.1 : Int) + 1, (st5.1 : Int), -1, ((st2.1 + 1 : Nat) : Int)) :: o6.2.2.2.1, (mMo N o2).2.2 ++ [((pAv T st2).1, (st.2.2.1 : Int), (st.2.2.1 : Int), 2)] ++ o6.2.2.2.2.1) (G ++ [(9, tb T st.1)] ++ [(21, 93)] ++ [(23, ((mMo N o2).2.1.length : Int))]) s7 := by
      have e9 : mMo ((mMo N o2).1, (mMo N o2).2.1 ++ (4, 0, 0, (st.1 : Int), (st.1 : Int) + 1, (st.1 : Int) + 1, (st5.1 : Int), -1, ((st2.1 + 1 : Nat) : Int)) :: [], (mMo N o2).2.2 ++ [((pAv T st2).1, (st.2.2.1 : Int), (st.2.2.1 : Int), 2)]) o6 = ((mMo N o2).1 ++ o6.2.1, (mMo N o2).2.1 ++ (4, 0, 0, (st.1 : Int), (st.1 : Int) + 1, (st.1 : Int) + 1, (st5.1 : Int), -1, ((st2.1 + 1 : Nat) : Int)) :: o6.2.2.2.1, (mMo N o2).2.2 ++ [((pAv T st2).1, (st.2.2.1 : Int), (st.2.2.1 : Int), 2)] ++ o6.2.2.2.2.1) := by
        unfold mMo
        simp only [List.append_assoc, List.cons_append, List.nil_append]
      rw [← e9]
      exact g9
    refine mg_23 xs (d + 2) g9' rfl (by have := hB2.2.2.2; omega) (fun s8 v1 v2 => ?_)
    have hE8 := mE_t hE7 v2
    refine t21 xs (d + 2) v1 hi6 (by omega) (by decide) (by decide) (mZ_mk (fun e hr7 s9 g11 g12 => t0 e hr7 s9 g11 (mE_t hE8 g12)) (fun st7 o7 hr7 s9 g11 g12 => ?_))
    have e7 := pH_i pTk_o hr7
    have hq7 := pH_i (pQ_tk hT (c := 93) (by decide) hi6) hr7
    have hZ7 := t1 st7 o7 hr7 s9 (mE_t hE8 g12)
    have hB7 := mB_o hB6 hq7 (pH_i rOc_tk hr7)
    have hcm : pCC T k ctx nest st = .inr (st7, (o2.1 ++ o6.1, o2.2.1 ++ o6.2.1, (4, ctx.1, ((pAv T st2).2.2.2 : Int), (st.1 : Int), (st.1 : Int) + 1, (st6.1 : Int), (st5.1 : Int), (st6.1 : Int), ((pAv T st2).1 : Int)) :: (o2.2.2.1 ++ o6.2.2.1), o2.2.2.2.1 ++ (4, ctx.1, ((pAv T st2).2.2.2 : Int), (st.1 : Int), (st.1 : Int) + 1, (st6.1 : Int), (st5.1 : Int), (st6.1 : Int), ((pAv T st2).1 : Int)) :: o6.2.2.2.1, o2.2.2.2.2.1 ++ ((pAp o4 o5).2.2.2.2.1 ++ o6.2.2.2.2.1), o2.2.2.2.2.2 ++ o6.2.2.2.2.2)) := by
      unfold pCC pCm
      rw [ehr]
      simp only
      rw [teq]
      simp only
      rw [hr6]
      simp only
      rw [hr7]
    have hF7 := pF_bd2 (pF_bd2 hF hcm) rfl
    have eN : mMo N (o2.1 ++ o6.1, o2.2.1 ++ o6.2.1, (4, ctx.1, ((pAv T st2).2.2.2 : Int), (st.1 : Int), (st.1 : Int) + 1, (st6.1 : Int), (st5.1 : Int), (st6.1 : Int), ((pAv T st2).1 : Int)) :: (o2.2.2.1 ++ o6.2.2.1), o2.2.2.2.1 ++ (4, ctx.1, ((pAv T st2).2.2.2 : Int), (st.1 : Int), (st.1 : Int) + 1, (st6.1 : Int), (st5.1 : Int), (st6.1 : Int), ((pAv T st2).1 : Int)) :: o6.2.2.2.1, o2.2.2.2.2.1 ++ ((pAp o4 o5).2.2.2.2.1 ++ o6.2.2.2.2.1), o2.2.2.2.2.2 ++ o6.2.2.2.2.2) = ((mMo N o2).1 ++ o6.2.1, (mMo N o2).2.1 ++ (4, ctx.1, ((pAv T st2).2.2.2 : Int), (st.1 : Int), (st.1 : Int) + 1, (st6.1 : Int), (st5.1 : Int), (st6.1 : Int), ((pAv T st2).1 : Int)) :: o6.2.2.2.1, (mMo N o2).2.2 ++ [((pAv T st2).1, (st.2.2.1 : Int), (st.2.2.1 : Int), 2)] ++ o6.2.2.2.2.1) := by
      rw [e4, e5]
      unfold mMo pAp pO0
      simp only [List.append_assoc, List.cons_append, List.nil_append, List.append_nil]
    rw [eN] at hZ7
    refine h9 ctx nest (tb T st.1) [(tb T st.1, st7.2.1)] st7 _ G s9 hg hF7 ⟨?_, ?_, hq7.2.1, by omega⟩ hZ7
    · rw [e7, mMo_0] at g11
      obtain ⟨k1, k2, k3, k4, k5, k6⟩ := g11
      exact ⟨k1, k2, k3, wR_q (p := ctx.1) (q := ((pAv T st2).2.2.2 : Int)) k4, k5, k6⟩
    · rw [e7, mMo_0] at hB7
      obtain ⟨b1, b2, b3, b4⟩ := hB7
      unfold mMo at b1 b2 b3 b4 ⊢
      simp only [List.append_assoc, List.cons_append, List.nil_append, List.length_append, List.length_cons] at b1 b2 b3 b4 ⊢
      refine ⟨?_, ?_, ?_, ?_⟩
      · simp only [List.length_append]; simp only [p_e] at b1; omega
      · simp only [List.length_append, List.length_cons]
        have e93 : ((pwl 93 : Nat) : Int) = 1 := rfl
        simp only [p_w, e93] at b2
        omega
      · exact b3
      · simp only [List.length_append, List.length_cons]; omega
  · have h93 : ¬ tc T st2.1 = 93 := by
      intro e
      have := hpb.2 e
      have hb2 : pbc (T.drop (pAv T (pNw st)).1) 0 = true := hb
      rw [hb2] at this
      cases this
    have hno : pTk T 93 st2 = .inl (20, tb T st2.1) := by unfold pTk; rw [if_neg h93]
    refine t21 xs (d + 2) q1 hi2 (by omega) (by decide) (by decide) ?_
    rw [hno]
    intro s4 p1 p2
    have ehr : pHd T k ctx nest st = .inl (20, tb T st2.1) := ehd _ (pBd_l hr (show pTk T 20 st2 = .inl (20, tb T st2.1) by unfold pTk; rw [if_neg h20]))
    exact z0 _ ehr s4 p1 (mE_t hE2 (mE_t q2 p2))
theorem e8 (hT : tkW T pl) (hl : T.length ≤ 272) (hpl : ∀ i, pl i ≤ 201) {k : Nat} (h5 : ∀ j, j < k + 1 → r5 xs d T pl Q j) (h9 : r9 xs d T pl Q k) : r8 xs d T pl Q (k + 1) := by
  intro ctx nest x st N G s hg hF hG hZ
  obtain ⟨hI, hB, hi, hn⟩ := hG
  rw [pp] at hF hZ
  cases k with
  | zero => exact absurd rfl hF
  | succ k =>
    rw [pp_3] at hF hZ
    unfold pIt at hF hZ
    refine m8s xs d hT hI hi hn (by omega) (fun hh s1 g1 g2 => ?_) (fun hh hnn s1 g1 g2 => ?_) (fun h hnn => ⟨fun hw s1 g1 g2 => ?_, fun hw s1 g1 g2 => ?_⟩) (fun h hnn s1 g1 g2 => ?_) (fun n0 n1 n40 n91 s1 g1 g2 => ?_)
    · rcases hh with h | h
      · rw [if_pos h] at hF hZ
        have e1 : pNm T 1 ctx.1 ctx.1 st = .inr (((pAv T st).1, (pAv T st).2.1, st.2.2.1, st.2.2.2 + 1), ([], [], [], [], [(st.1, ctx.1, ctx.1, 1)], [])) := by unfold pNm; rw [if_pos h]
        rw [e1] at hF hZ
        have hZ1 := mZ_in hZ g2
        have hi1 : (pAv T st).1 < T.length := (tk_nx hT hi h (by decide)).1
        have hB1 := mB_nm hT hB hi h ctx.1 ctx.1 1 (pAv T st).2.1 st.2.2.1 (st.2.2.2 + 1)
        exact h9 ctx nest (tb T st.1) _ _ _ G s1 hg (pF_bd2 (pF_bd2 hF rfl) rfl) ⟨mI_use hB.2.2.1 hi g1, mB_w hB1 (by decide) (by decide), hi1, hn⟩ hZ1
      · rw [if_neg (by omega), if_pos h] at hF hZ
        have e1 : pTk T 1 st = .inr (pAv T st, pO0) := by unfold pTk; rw [if_pos h]; rfl
        rw [e1] at hF hZ
        have hZ1 := mZ_in hZ g2
        rw [mMo_0] at hZ1
        have hi1 : (pAv T st).1 < T.length := (tk_nx hT hi h (by decide)).1
        have hB1 := mB_tk hT hB hi h (by decide)
        exact h9 ctx nest (tb T st.1) _ _ _ G s1 hg (pF_bd2 (pF_bd2 hF rfl) rfl) ⟨g1, mB_w hB1 (by decide) (by decide), hi1, hn⟩ hZ1
    · rcases hh with h | h
      · rw [if_neg (by omega), if_neg (by omega), if_pos h] at hZ
        have e1 : pTd T 40 nest st = .inl (21, tb T st.1) := by unfold pTd; rw [if_pos h, if_pos hnn]
        rw [e1] at hZ
        exact hZ s1 g1 g2
      · rw [if_neg (by omega), if_neg (by omega), if_neg (by omega), if_pos h] at hZ
        have e1 : pTd T 91 nest st = .inl (21, tb T st.1) := by unfold pTd; rw [if_pos h, if_pos hnn]
        have e2 : pTd T 91 nest (pNw st) = .inl (21, tb T st.1) := by unfold pTd; rw [if_pos (show tc T (pNw st).1 = 91 from h), if_pos hnn]; rfl
        split at hZ
        · unfold pCC pHd at hZ
          rw [e2] at hZ
          exact hZ s1 g1 g2
        · rw [e1] at hZ
          exact hZ s1 g1 g2
    · rw [if_neg (by omega), if_neg (by omega), if_pos h] at hF hZ
      have e1 : pTd T 40 nest st = pOk (pAv T st) := by unfold pTd; rw [if_pos h, if_neg hnn]
      rw [e1, pBd_ok, if_pos (show tc T (pAv T st).1 = 0 ∧ tc T ((pAv T st).1 + 1) = 128 from hw), pBd_as, pBd_as] at hF hZ
      have hi1 : (pAv T st).1 < T.length := (tk_nx hT hi h (by decide)).1
      have hB1 := mB_tk hT hB hi h (by decide)
      have hZ1 := mZ_m hZ g2
      have hpm : (3 : Int) = pmr (if 0 < ctx.2.2.2 then 98 else 34) := by split <;> rfl
      refine t17 xs (d + 3) g1 hpm hi1 (mZ_bd hZ1 (fun st2 o2 s2 hr2 q1 q2 hZ2 => ?_))
      have hq2 := pH_i (pQ_nm hT hi1) hr2
      have ho2 : rOc T (pAv T st) st2 o2 := by
        unfold pNm at hr2
        rw [if_pos (show tc T (pAv T st).1 = 0 from hw.1)] at hr2
        cases hr2
        refine ⟨Nat.le_succ _, fun x hx => ?_, List.pairwise_singleton _ _⟩
        have hx2 : x ∈ [((pAv T st).1, ctx.1, ctx.2.2.1, (if 0 < ctx.2.2.2 then (98 : Int) else 34))] := hx
        rw [List.mem_singleton] at hx2
        subst hx2
        exact ⟨Nat.le_refl _, Nat.lt_succ_self _, hw.1⟩
      have hB2 := mB_o hB1 hq2 ho2
      have hF2 := pF_bd2 hF hr2
      refine t16 xs (d + 3) q1 hq2.2.1 (by decide) dec_1 (mZ_bd hZ2 (fun st3 o3 s3 hr3 w1 w2 hZ3 => ?_))
      have hq3 := pH_i (pQ_tk hT (c := 128) (by decide) hq2.2.1) hr3
      have hB3 := mB_o hB2 hq3 (pH_i rOc_tk hr3)
      have hF3 := pF_bd2 hF2 hr3
      rw [pBd_as] at hF3 hZ3
      refine h5 k (by omega) ctx (nest + 1) 0 st3 _ (G ++ [(9, tb T st.1)] ++ [(21, 41)]) s3 (al2 (by omega)) (pF_bd1 hF3) ⟨w1, mB_w hB3 (by decide) (by decide), hq3.2.1, by omega⟩ (mZ_bd hZ3 (fun st4 o4 s4 hr4 y1 y2 hZ4 => ?_))
      have hq4 := pH_i (pQ_pp hT k 0 _ _ _ _ hq3.2.1) hr4
      have hB4 := mB_o hB3 hq4 (pH_i (rOc_pp k 0 _ _ _ _) hr4)
      have hF4 := pF_bd2 hF3 hr4
      refine t21 xs (d + 2) y1 hq4.2.1 (by omega) (by decide) (by decide) (mZ_bd hZ4 (fun st5 o5 s5 hr5 v1 v2 hZ5 => ?_))
      have hq5 := pH_i (pQ_tk hT (c := 41) (by decide) hq4.2.1) hr5
      have hB5 := mB_o hB4 hq5 (pH_i rOc_tk hr5)
      exact h9 ctx nest (tb T st.1) _ st5 _ G s5 hg (pF_bd2 (pF_bd2 hF4 hr5) rfl) ⟨v1, mB_w hB5 (by decide) (by decide), hq5.2.1, hn⟩ hZ5
    · rw [if_neg (by omega), if_neg (by omega), if_pos h] at hF hZ
      have e1 : pTd T 40 nest st = pOk (pAv T st) := by unfold pTd; rw [if_pos h, if_neg hnn]
      rw [e1, pBd_ok, if_neg (show ¬ (tc T (pAv T st).1 = 0 ∧ tc T ((pAv T st).1 + 1) = 128) from hw), pBd_ok, pBd_as] at hF hZ
      have hi1 : (pAv T st).1 < T.length := (tk_nx hT hi h (by decide)).1
      have hB1 := mB_tk hT hB hi h (by decide)
      have hZ1 := mZ_m hZ g2
      refine h5 k (by omega) ctx (nest + 1) 0 (pAv T st) _ (G ++ [(9, tb T st.1)] ++ [(21, 41)]) s1 (al2 (by omega)) (pF_bd1 hF) ⟨g1, mB_w hB1 (by decide) (by decide), hi1, by omega⟩ (mZ_bd hZ1 (fun st4 o4 s4 hr4 y1 y2 hZ4 => ?_))
      have hq4 := pH_i (pQ_pp hT k 0 _ _ _ _ hi1) hr4
      have hB4 := mB_o hB1 hq4 (pH_i (rOc_pp k 0 _ _ _ _) hr4)
      have hF4 := pF_bd2 hF hr4
      refine t21 xs (d + 2) y1 hq4.2.1 (by omega) (by decide) (by decide) (mZ_bd hZ4 (fun st5 o5 s5 hr5 v1 v2 hZ5 => ?_))
      have hq5 := pH_i (pQ_tk hT (c := 41) (by decide) hq4.2.1) hr5
      have hB5 := mB_o hB4 hq5 (pH_i rOc_tk hr5)
      exact h9 ctx nest (tb T st.1) _ st5 _ G s5 hg (pF_bd2 (pF_bd2 hF4 hr5) rfl) ⟨v1, mB_w hB5 (by decide) (by decide), hq5.2.1, hn⟩ hZ5
    · rw [if_neg (by omega), if_neg (by omega), if_neg (by omega), if_pos h] at hF hZ
      by_cases hb : pbc (T.drop (st.1 + 1)) 0 = true
      · rw [if_pos hb] at hF hZ
        exact eC xs d hT hl hpl (h5 k (by omega)) h9 ctx nest st N G s s1 hg hB hi hnn h hb hF g1 g2 hZ
      · rw [if_neg hb] at hF hZ
        have e1 : pTd T 91 nest st = pOk (pAv T st) := by unfold pTd; rw [if_pos h, if_neg hnn]
        rw [e1, pBd_ok, pBd_as] at hF hZ
        have hi1 : (pAv T st).1 < T.length := (tk_nx hT hi h (by decide)).1
        have hB1 := mB_tk hT hB hi h (by decide)
        have hZ1 := mZ_m hZ g2
        refine h5 k (by omega) ctx (nest + 1) 0 (pAv T st) _ (G ++ [(9, tb T st.1)] ++ [(21, 93)] ++ [(20, (st.1 : Int))]) s1 (al3 (by omega)) (pF_bd1 hF) ⟨g1, mB_w hB1 (by decide) (by decide), hi1, by omega⟩ (mZ_bd hZ1 (fun st4 o4 s4 hr4 y1 y2 hZ4 => ?_))
        have hq4 := pH_i (pQ_pp hT k 0 _ _ _ _ hi1) hr4
        have hB4 := mB_o hB1 hq4 (pH_i (rOc_pp k 0 _ _ _ _) hr4)
        have hF4 := pF_bd2 hF hr4
        have hrm := mB_r hB4 (by decide) (by decide) hq4.2.1 hl hpl
        have hpb := pb_for hT hi1 hr4
        refine mg_20 xs (d + 2) (by omega) y1 hq4.2.1 (by omega) hrm.2 (by rw [List.length_append, List.length_append]; show G.length + 1 + 1 + 3 ≤ 240; omega) (fun h20 s5 p1 p2 => absurd (hpb.1 h20) hb) (fun h20 s5 p1 p2 => ?_)
        refine t21 xs (d + 2) p1 hq4.2.1 (by omega) (by decide) (by decide) (mZ_bd (mZ_m hZ4 p2) (fun st5 o5 s6 hr5 v1 v2 hZ5 => ?_))
        have hq5 := pH_i (pQ_tk hT (c := 93) (by decide) hq4.2.1) hr5
        have hB5 := mB_o hB4 hq5 (pH_i rOc_tk hr5)
        exact h9 ctx nest (tb T st.1) _ st5 _ G s6 hg (pF_bd2 (pF_bd2 hF4 hr5) rfl) ⟨v1, mB_w hB5 (by decide) (by decide), hq5.2.1, hn⟩ hZ5
    · rw [if_neg n0, if_neg n1, if_neg n40, if_neg n91] at hZ
      exact hZ s1 g1 g2
theorem eAll (hT : tkW T pl) (hl : T.length ≤ 272) (hpl : ∀ i, pl i ≤ 201) : ∀ k, r5 xs d T pl Q k ∧ r8 xs d T pl Q k ∧ r9 xs d T pl Q k ∧ r7 xs d T pl Q k ∧ r10 xs d T pl Q k := by
  have z : r5 xs d T pl Q 0 ∧ r8 xs d T pl Q 0 ∧ r9 xs d T pl Q 0 ∧ r7 xs d T pl Q 0 ∧ r10 xs d T pl Q 0 := by
    refine ⟨?_, ?_, ?_, ?_, ?_⟩
    · intro ctx nest x st N G s hg hF; exact absurd rfl hF
    · intro ctx nest x st N G s hg hF; exact absurd rfl hF
    · intro ctx nest b m st N G s hg hF; exact absurd rfl hF
    · intro ctx nest b m st N G s hg hF; exact absurd rfl hF
    · intro ctx nest x st N G s hnn hg hF; exact absurd rfl hF
  have main : ∀ k, ∀ j, j ≤ k → r5 xs d T pl Q j ∧ r8 xs d T pl Q j ∧ r9 xs d T pl Q j ∧ r7 xs d T pl Q j ∧ r10 xs d T pl Q j := by
    intro k
    induction k with
    | zero => intro j hj; rw [Nat.le_zero.mp hj]; exact z
    | succ k ih =>
      intro j hj
      by_cases e : j ≤ k
      · exact ih j e
      · have ej : j = k + 1 := by omega
        subst ej
        obtain ⟨a5, a8, a9, a7, a10⟩ := ih k (Nat.le_refl k)
        exact ⟨e5 xs d hT hl hpl a5 a8 a7, e8 xs d hT hl hpl (fun j hj => (ih j (by omega)).1) a9, e9 xs d hT hl hpl (fun j hj => (ih j (by omega)).1) (fun j hj => (ih j (by omega)).2.2.2.2) a9, e7 xs d hT hl hpl a8 a7, e10 xs d hT hl hpl a5 a10⟩
  exact fun k => main k k (Nat.le_refl k)
end MX
