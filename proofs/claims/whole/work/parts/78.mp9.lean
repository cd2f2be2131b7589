/-! The reference's statements. -/
theorem dec_k {x k : Int} {l : Int32} (hl : l.toInt = x) (h1 : (l / 256).toInt = k) (h2 : (l - l / 256 * 256).toInt = 0) (hc : 4 ≤ k) (hc2 : k < 8) : ∀ a2 : Int32, a2.toInt = x → isC (a2 / 256).toInt (a2 - a2 / 256 * 256).toInt k := by
  intro a2 h
  have e : a2 = l := ti_ext (h.trans hl.symm)
  subst e
  rw [h1, h2]
  exact isC_k hc hc2
theorem pBd_inr {r : pR} {f : pS → pR} {z : pS × pO} (h : pBd r f = .inr z) : ∃ s1 o1 o2, r = .inr (s1, o1) ∧ f s1 = .inr (z.1, o2) ∧ z.2 = pAp o1 o2 := by
  rcases r with e | ⟨s1, o1⟩
  · cases h
  · have h2 : (match f s1 with | .inl e => .inl e | .inr (st2, o2) => .inr (st2, pAp o1 o2)) = (.inr z : pR) := h
    rcases hf : f s1 with e | ⟨s2, o2⟩
    · rw [hf] at h2; cases h2
    · rw [hf] at h2; cases h2; exact ⟨s1, o1, o2, rfl, hf, rfl⟩
theorem pp11_n {T : List lxT} {k : Nat} {ctx : pC} {nest : Nat} {x : Int} {st : pS} {z : pS × pO} (h : pp T k 11 ctx nest x st = .inr z) : nest < 10 := by
  cases k with
  | zero => cases h
  | succ k =>
    rw [pp] at h
    obtain ⟨s1, o1, o2, h1, _⟩ := pBd_inr h
    exact pTd_n h1
theorem rOc_nm {T : List lxT} {r c b : Int} {st : pS} : pH (pNm T r c b st) (rOc T st) := by
  unfold pNm
  split
  · rename_i hz
    refine ⟨Nat.le_succ _, fun x hx => ?_, List.pairwise_singleton _ _⟩
    have hx2 : x ∈ [((st.1, c, b, r) : pOc)] := hx
    rw [List.mem_singleton] at hx2
    subst hx2
    exact ⟨Nat.le_refl _, Nat.lt_succ_self _, hz⟩
  · exact trivial
section MZ
variable (xs : Option (List Int32)) (d : Nat) {T : List lxT} {nest : Nat} {N : mM} {G : List (Int × Int)} {s : zS} {Q : zS → Prop} {R : pR}
theorem mZ_e (h : mZ xs (d + 1) T nest N G s R Q) (hn : ∀ z, R = .inr z → nest < 10) : mZ xs (d + 1) T (nest + 1) N (G ++ [(15, 0)]) s R Q := by
  rcases R with e | ⟨st1, o1⟩
  · exact h
  · intro s1 g1 g2
    exact mg_15z xs d g1 (hn _ rfl) (fun s2 w1 w2 => h s2 w1 (mE_t g2 w2))
theorem mZ_sd {sort parent y w : Int} {i j : Nat} (h : mZ xs (d + 1) T nest N G s (pWr (pSd sort parent i j) R) Q) (hn : ∀ z, R = .inr z → nest < 10) (h0 : 0 < N.2.1.length) : mZ xs (d + 1) T (nest + 1) (N.1, N.2.1 ++ [(sort, 0, 0, (i : Int), (j : Int), y, -1, w, -1)], N.2.2) (G ++ [(15, (N.2.1.length : Int))]) s R Q := by
  rcases R with e | ⟨st1, o1⟩
  · exact h
  · intro s1 g1 g2
    exact m15s xs d (parent := parent) g1 (hn _ rfl) h0 (fun s2 w1 w2 => h s2 w1 (mE_t g2 w2))
end MZ
/-- where no expression can begin -/
theorem pp0_bad {T : List lxT} {k : Nat} {ctx : pC} {nest : Nat} {x : Int} {st : pS} (hF : pF (pp T k 0 ctx nest x st)) (h : ¬ (tc T st.1 = 0 ∨ tc T st.1 = 1 ∨ tc T st.1 = 40 ∨ tc T st.1 = 91 ∨ tc T st.1 = 25)) : pp T k 0 ctx nest x st = .inl (20, tb T st.1) := by
  cases k with
  | zero => exact absurd rfl hF
  | succ k =>
    rw [pp, if_neg (by omega)] at hF ⊢
    cases k with
    | zero => exact absurd rfl hF
    | succ k =>
      rw [show pp T (k + 1) 1 ctx nest 0 st = pBd (pp T k 3 ctx nest 0 st) (fun s1 => pBd (pX (tb T st.1) s1) (fun s2 => pp T k 4 ctx nest (tb T st.1) s2)) by rw [pp]] at hF ⊢
      cases k with
      | zero => exact absurd rfl hF
      | succ k =>
        have e : pp T (k + 1) 3 ctx nest 0 st = .inl (20, tb T st.1) := by
          rw [pp, if_neg (by omega), if_neg (by omega), if_neg (by omega), if_neg (by omega)]
        rw [e]
        rfl
def r9s (xs : Option (List Int32)) (d : Nat) (T : List lxT) (pl : Nat → Int) (Q : zS → Prop) (k : Nat) : Prop := ∀ (ctx : pC) (nest : Nat) (x : Int) (st : pS) (N : mM) (G : List (Int × Int)) (s : zS), G.length ≤ 10 * nest + 6 → pF (pp T k 9 ctx nest x st) → mG T pl 0 0 nest st N (G ++ [(16, 1024)] ++ [(4, 0)]) s → mZ xs (d + 3) T nest N G s (pp T k 9 ctx nest x st) Q → mW xs (d + 3) Q s
def r11 (xs : Option (List Int32)) (d : Nat) (T : List lxT) (pl : Nat → Int) (Q : zS → Prop) (k : Nat) : Prop := ∀ (ctx : pC) (nest : Nat) (x xg : Int) (st : pS) (N : mM) (G : List (Int × Int)) (s : zS), G.length ≤ 10 * nest + 5 → pF (pp T k 11 ctx nest x st) → mG T pl 0 1 nest st N (G ++ [(12, xg)]) s → mZ xs (d + 3) T (nest + 1) N (G ++ [(15, xg)]) s (pp T k 11 ctx nest x st) Q → mW xs (d + 3) Q s
def r12 (xs : Option (List Int32)) (d : Nat) (T : List lxT) (pl : Nat → Int) (Q : zS → Prop) (k : Nat) : Prop := ∀ (ctx : pC) (nest : Nat) (x : Int) (st : pS) (N : mM) (G : List (Int × Int)) (s : zS), G.length ≤ 10 * nest + 1 → pF (pp T k 12 ctx nest x st) → mG T pl 0 0 nest st N (G ++ [(14, 0)]) s → mZ xs (d + 3) T nest N G s (pp T k 12 ctx nest x st) Q → mW xs (d + 3) Q s
def r2 (xs : Option (List Int32)) (d : Nat) (T : List lxT) (pl : Nat → Int) (Q : zS → Prop) (k : Nat) : Prop := ∀ (ctx : pC) (nest : Nat) (x : Int) (st : pS) (N : mM) (G : List (Int × Int)) (s : zS), G.length ≤ 10 * nest + 2 → pF (pp T k 10 ctx nest x st) → mG T pl 0 0 nest st N (G ++ [(2, 0)]) s → mZ xs (d + 3) T nest N G s (pp T k 10 ctx nest x st) Q → mW xs (d + 3) Q s
section MX
variable (xs : Option (List Int32)) (d : Nat) {T : List lxT} {pl : Nat → Int} {Q : zS → Prop}
theorem e9s (hT : tkW T pl) (hl : T.length ≤ 272) (hpl : ∀ i, pl i ≤ 201) (k : Nat) : r9s xs d T pl Q k := by
  intro ctx nest x st N G s hg hF hG hZ
  cases k with
  | zero => exact absurd rfl hF
  | succ k =>
  obtain ⟨hI, hB, hi, hn⟩ := hG
  obtain ⟨h5, _⟩ := eAll xs d hT hl hpl (Q := Q) k
  rw [pp_9] at hF hZ
  unfold pSm at hF hZ
  have tnl : ∀ {st1 : pS} {N1 : mM} {s1 : zS}, st1.1 < T.length → mI T nest st1 N1 (G ++ [(16, 1024)]) s1 → mZ xs (d + 3) T nest N1 G s1 (pTk T 4 st1) Q → mW xs (d + 3) Q s1 := fun hi1 hI1 hZ1 => t16 xs (d + 3) hI1 hi1 (by decide) (dec_k (l := 1024) (by decide) (by decide) (by decide) (by decide) (by decide)) hZ1
  refine mg_4 xs (d + 3) hI (fun s0 g1 g2 => m156 xs d hT g1 hi (by rw [List.length_append]; show G.length + 1 + 6 ≤ 240; omega) _ (fun h s1 q1 q2 => ?_) (fun h s1 q1 q2 => ?_) (fun h s1 q1 q2 => ?_) (fun h s1 q1 q2 => ?_) (fun h s1 q2 => ⟨fun hb q1 => ?_, fun hb q1 => ?_⟩) (fun h s1 q1 q2 => ?_) (fun n27 n21 n26 n18 n23 n28 nw s1 q1 q2 => ?_))
  · rw [if_pos h] at hZ
    have e1 : pTk T 27 st = .inr (pAv T st, pO0) := by unfold pTk; rw [if_pos h]; rfl
    rw [e1] at hZ
    have hZ1 := mZ_in hZ (mE_t g2 q2)
    rw [mMo_0] at hZ1
    exact tnl (tk_nx hT hi h (by decide)).1 q1 hZ1
  · rw [if_neg (by omega), if_pos h] at hF hZ
    have e1 : pTk T 21 st = pOk (pAv T st) := by unfold pTk; rw [if_pos h]
    rw [e1, pBd_ok] at hF hZ
    have hi1 : (pAv T st).1 < T.length := (tk_nx hT hi h (by decide)).1
    refine t7 xs (d + 2) hT ctx 4 (pF_bd1 hF) q1 rfl hi1 (by rw [List.length_append]; show G.length + 1 + 2 ≤ 240; omega) (mZ_bd (mZ_m hZ (mE_t g2 q2)) (fun st2 o2 s2 hr2 w1 w2 hZ2 => ?_))
    exact tnl (pH_i (pQ_pp hT k 7 _ _ _ _ hi1) hr2).2.1 w1 hZ2
  · rw [if_neg (by omega), if_neg (by omega), if_pos h] at hF hZ
    have e1 : pTk T 26 st = pOk (pAv T st) := by unfold pTk; rw [if_pos h]
    rw [e1, pBd_ok] at hF hZ
    have hi1 : (pAv T st).1 < T.length := (tk_nx hT hi h (by decide)).1
    refine t7 xs (d + 2) hT ctx 8 (pF_bd1 hF) q1 rfl hi1 (by rw [List.length_append]; show G.length + 1 + 2 ≤ 240; omega) (mZ_bd (mZ_m hZ (mE_t g2 q2)) (fun st2 o2 s2 hr2 w1 w2 hZ2 => ?_))
    exact tnl (pH_i (pQ_pp hT k 7 _ _ _ _ hi1) hr2).2.1 w1 hZ2
  · rcases h with h | h
    · rw [if_neg (by omega), if_neg (by omega), if_neg (by omega), if_pos h] at hF hZ
      have e1 : pTk T 18 st = pOk (pAv T st) := by unfold pTk; rw [if_pos h]
      rw [e1, pBd_ok] at hF hZ
      have hi1 : (pAv T st).1 < T.length := (tk_nx hT hi h (by decide)).1
      refine t17 xs (d + 3) q1 rfl hi1 (mZ_bd (mZ_m hZ (mE_t g2 q2)) (fun st2 o2 s2 hr2 w1 w2 hZ2 => ?_))
      exact tnl (pH_i (pQ_nm hT hi1) hr2).2.1 w1 hZ2
    · rw [if_neg (by omega), if_neg (by omega), if_neg (by omega), if_neg (by omega), if_pos h] at hF hZ
      have e1 : pTk T 23 st = pOk (pAv T st) := by unfold pTk; rw [if_pos h]
      rw [e1, pBd_ok] at hF hZ
      have hi1 : (pAv T st).1 < T.length := (tk_nx hT hi h (by decide)).1
      refine t17 xs (d + 3) q1 rfl hi1 (mZ_bd (mZ_m hZ (mE_t g2 q2)) (fun st2 o2 s2 hr2 w1 w2 hZ2 => ?_))
      exact tnl (pH_i (pQ_nm hT hi1) hr2).2.1 w1 hZ2
  · have hi1 : (pAv T st).1 < T.length := (tk_nx hT hi h (by decide)).1
    rw [if_neg (by omega), if_neg (by omega), if_neg (by omega), if_neg (by omega), if_neg (by omega), if_pos h] at hF hZ
    have e1 : pTk T 28 st = pOk (pAv T st) := by unfold pTk; rw [if_pos h]
    rw [pBd_as] at hF hZ
    have hF0 := pF_bd2 hF rfl
    have hZ0 := mZ_in hZ (mE_t g2 q2)
    rw [show mMo N ([], [], [], [], [], if ctx.2.1 = 1 then [] else [st.1]) = N by unfold mMo; simp only [List.append_nil]] at hZ0
    rw [e1, pBd_as, pBd_ok, if_neg (show ¬ tc T (pAv T st).1 = 4 from fun e => by have e4 : tc T (st.1 + 1) = 4 := e; omega)] at hF0 hZ0
    have hB1 := mB_tk hT hB hi h (by decide)
    refine h5 ctx nest 0 (pAv T st) N (G ++ [(16, 1024)]) s1 (al1 (by omega)) (pF_bd1 hF0) ⟨q1, mB_w hB1 (by decide) (by decide), hi1, hn⟩ (mZ_bd hZ0 (fun st2 o2 s2 hr2 w1 w2 hZ2 => ?_))
    exact tnl (pH_i (pQ_pp hT k 0 _ _ _ _ hi1) hr2).2.1 w1 hZ2
  · have hi1 : (pAv T st).1 < T.length := (tk_nx hT hi h (by decide)).1
    rw [if_neg (by omega), if_neg (by omega), if_neg (by omega), if_neg (by omega), if_neg (by omega), if_pos h] at hF hZ
    have e1 : pTk T 28 st = pOk (pAv T st) := by unfold pTk; rw [if_pos h]
    rw [pBd_as] at hF hZ
    have hF0 := pF_bd2 hF rfl
    have hZ0 := mZ_in hZ (mE_t g2 q2)
    rw [show mMo N ([], [], [], [], [], if ctx.2.1 = 1 then [] else [st.1]) = N by unfold mMo; simp only [List.append_nil]] at hZ0
    rw [e1, pBd_as, pBd_ok] at hF0 hZ0
    by_cases h4 : tc T (pAv T st).1 = 4
    · rw [if_pos h4, pBd_ok] at hZ0
      exact tnl hi1 q1 hZ0
    · rw [if_neg h4] at hF0 hZ0
      rw [pp0_bad (pF_bd1 hF0) hb] at hZ0
      refine tnl hi1 q1 ?_
      have e4 : pTk T 4 (pAv T st) = .inl (20, tb T (pAv T st).1) := by unfold pTk; rw [if_neg h4]
      rw [e4]
      exact hZ0
  · rw [if_neg (by omega), if_neg (by omega), if_neg (by omega), if_neg (by omega), if_neg (by omega), if_neg (by omega), if_pos h, pBd_as] at hF hZ
    refine t17 xs (d + 3) q1 rfl hi (mZ_bd (mZ_m hZ (mE_t g2 q2)) (fun st2 o2 s2 hr2 w1 w2 hZ2 => ?_))
    have hq2 := pH_i (pQ_nm hT hi) hr2
    have ho2 : rOc T st st2 o2 := by
      unfold pNm at hr2
      rw [if_pos h.1] at hr2
      cases hr2
      refine ⟨Nat.le_succ _, fun x hx => ?_, List.pairwise_singleton _ _⟩
      have hx2 : x ∈ [(st.1, ctx.1, ctx.1, (2 : Int))] := hx
      rw [List.mem_singleton] at hx2
      subst hx2
      exact ⟨Nat.le_refl _, Nat.lt_succ_self _, h.1⟩
    have hB2 := mB_o hB hq2 ho2
    have hF2 := pF_bd2 hF hr2
    rw [pBd_as] at hF2 hZ2
    refine t16 xs (d + 3) w1 hq2.2.1 (by decide) (dec_s (l := 829) (by decide) (by decide) (by decide) (by decide) (by decide)) (mZ_bd hZ2 (fun st3 o3 s3 hr3 y1 y2 hZ3 => ?_))
    have hq3 := pH_i (pQ_tk hT (c := 61) (by decide) hq2.2.1) hr3
    have hB3 := mB_o hB2 hq3 (pH_i rOc_tk hr3)
    have hF3 := pF_bd2 hF2 hr3
    refine h5 ctx nest 0 st3 _ (G ++ [(16, 1024)]) s3 (al1 (by omega)) (pF_bd1 hF3) ⟨y1, mB_w hB3 (by decide) (by decide), hq3.2.1, hn⟩ (mZ_bd hZ3 (fun st4 o4 s4 hr4 v1 v2 hZ4 => ?_))
    exact tnl (pH_i (pQ_pp hT k 0 _ _ _ _ hq3.2.1) hr4).2.1 v1 hZ4
  · rw [if_neg n27, if_neg n21, if_neg n26, if_neg n18, if_neg n23, if_neg n28, if_neg nw] at hF hZ
    refine h5 ctx nest 0 st N (G ++ [(16, 1024)]) s1 (al1 (by omega)) (pF_bd1 hF) ⟨q1, hB, hi, hn⟩ (mZ_bd (mZ_m hZ (mE_t g2 q2)) (fun st4 o4 s4 hr4 v1 v2 hZ4 => ?_))
    exact tnl (pH_i (pQ_pp hT k 0 _ _ _ _ hi) hr4).2.1 v1 hZ4
theorem e12 (hT : tkW T pl) (hl : T.length ≤ 272) (hpl : ∀ i, pl i ≤ 201) {k : Nat} (h2 : r2 xs d T pl Q k) (h12 : r12 xs d T pl Q k) : r12 xs d T pl Q (k + 1) := by
  intro ctx nest x st N G s hg hF hG hZ
  obtain ⟨hI, hB, hi, hn⟩ := hG
  rw [pp] at hF hZ
  refine mg_14 xs (d + 2) hI hi (by omega) (fun h s1 g1 g2 => ?_) (fun h s1 g1 g2 => ?_)
  · rw [if_pos h] at hZ
    have e1 : pTk T 6 st = .inr (pAv T st, pO0) := by unfold pTk; rw [if_pos h]; rfl
    rw [e1] at hZ
    have hZ2 : ∀ s2, mI T nest (pAv T st) (mMo N pO0) G s2 → mE s s2 → mW xs (d + 3) Q s2 := hZ
    rw [mMo_0] at hZ2
    exact hZ2 s1 g1 g2
  · rw [if_neg h] at hF hZ
    refine h2 ctx nest 0 st N (G ++ [(14, 0)]) s1 (al1 (by omega)) (pF_bd1 hF) ⟨g1, hB, hi, hn⟩ (mZ_bd (mZ_m hZ g2) (fun st2 o2 s2 hr2 w1 w2 hZ2 => ?_))
    have hq2 := pH_i (pQ_pp hT k 10 _ _ _ _ hi) hr2
    have hB2 := mB_o hB hq2 (pH_i (rOc_pp k 10 _ _ _ _) hr2)
    exact h12 ctx nest 0 st2 _ G s2 hg (pF_bd2 hF hr2) ⟨w1, mB_w hB2 (by decide) (by decide), hq2.2.1, hn⟩ hZ2
theorem e11 (hT : tkW T pl) (hl : T.length ≤ 272) (hpl : ∀ i, pl i ≤ 201) {k : Nat} (h2 : r2 xs d T pl Q k) (h12 : r12 xs d T pl Q k) : r11 xs d T pl Q (k + 1) := by
  intro ctx nest x xg st N G s hg hF hG hZ
  obtain ⟨hI, hB, hi, hn⟩ := hG
  rw [pp] at hF hZ
  refine mg_12 xs (d + 2) (by omega) hI hi hn (by omega) (fun h hnn s1 g1 g2 => ?_) (fun h hnn s1 g1 g2 => ?_) (fun h s1 g1 g2 => ?_)
  · have e1 : pTd T 58 nest st = pOk (pAv T st) := by unfold pTd; rw [if_pos h, if_neg hnn]
    rw [e1, pBd_ok] at hF hZ
    have hi1 : (pAv T st).1 < T.length := (tk_nx hT hi h (by decide)).1
    have hB1 := mB_tk hT hB hi h (by decide)
    have hZ1 := mZ_m hZ g2
    refine mg_13 xs (d + 2) (by omega) g1 hi1 (by rw [List.length_append]; show G.length + 1 + 3 ≤ 240; omega) (fun h4 s2 q1 q2 => ?_) (fun h4 s2 q1 q2 => ?_)
    · rw [if_pos h4] at hF hZ1
      have e4 : pTk T 4 (pAv T st) = pOk (pAv T (pAv T st)) := by unfold pTk; rw [if_pos h4]
      rw [e4, pBd_ok] at hF hZ1
      have hi2 : (pAv T (pAv T st)).1 < T.length := (tk_nx hT hi1 h4 (by decide)).1
      have hB2 := mB_tk hT hB1 hi1 h4 (by decide)
      refine t16 xs (d + 3) q1 hi2 (by decide) (dec_k (l := 1280) (by decide) (by decide) (by decide) (by decide) (by decide)) (mZ_bd (mZ_m hZ1 q2) (fun st3 o3 s3 hr3 y1 y2 hZ3 => ?_))
      have hq3 := pH_i (pQ_tk hT (c := 5) (by decide) hi2) hr3
      have hB3 := mB_o hB2 hq3 (pH_i rOc_tk hr3)
      have hF3 := pF_bd2 hF hr3
      refine h2 ctx (nest + 1) 0 st3 _ (G ++ [(15, xg)] ++ [(14, 0)]) s3 (al2 (by omega)) (pF_bd1 hF3) ⟨y1, mB_w hB3 (by decide) (by decide), hq3.2.1, by omega⟩ (mZ_bd hZ3 (fun st4 o4 s4 hr4 v1 v2 hZ4 => ?_))
      have hq4 := pH_i (pQ_pp hT k 10 _ _ _ _ hq3.2.1) hr4
      have hB4 := mB_o hB3 hq4 (pH_i (rOc_pp k 10 _ _ _ _) hr4)
      exact h12 ctx (nest + 1) 0 st4 _ (G ++ [(15, xg)]) s4 (al1 (by omega)) (pF_bd2 hF3 hr4) ⟨v1, mB_w hB4 (by decide) (by decide), hq4.2.1, by omega⟩ hZ4
    · rw [if_neg h4] at hF hZ1
      exact e9s xs d hT hl hpl k ctx (nest + 1) 0 (pAv T st) N (G ++ [(15, xg)]) s2 (al1 (by omega)) hF ⟨q1, mB_w hB1 (by decide) (by decide), hi1, by omega⟩ (mZ_m hZ1 q2)
  · have e1 : pTd T 58 nest st = .inl (21, tb T st.1) := by unfold pTd; rw [if_pos h, if_pos hnn]
    rw [e1] at hZ
    exact hZ s1 g1 g2
  · have e1 : pTd T 58 nest st = .inl (20, tb T st.1) := by unfold pTd; rw [if_neg h]
    rw [e1] at hZ
    exact hZ s1 g1 g2
theorem e2 (hT : tkW T pl) (hl : T.length ≤ 272) (hpl : ∀ i, pl i ≤ 201) {k : Nat} (h11 : r11 xs d T pl Q k) : r2 xs d T pl Q (k + 1) := by
  intro ctx nest x st N G s hg hF hG hZ
  obtain ⟨hI, hB, hi, hn⟩ := hG
  obtain ⟨h5, _⟩ := eAll xs d hT hl hpl (Q := Q) k
  have hrm := mB_r hB (by decide) (by decide) hi hl hpl
  have hb10 : ∀ st1 o1, pCd T k ctx nest st = .inr (st1, o1) → (mMo N o1).1.length < 1000 := by
    intro st1 o1 hr
    have hq := pH_i (pQ_pp hT (k + 1) 10 ctx nest 0 st hi) (show pp T (k + 1) 10 ctx nest 0 st = .inr (st1, pAp o1 ([(tb T st.1, st1.2.1)], [(tb T st.1, st1.2.1)], [], [], [], [])) by rw [pp_10, hr]; rfl)
    have a2 := hq.2.1
    have a6 := hq.2.2.2.2.2.1
    rw [pAp_l4] at a6
    simp only [p_e, List.length_singleton] at a6
    have b1 := hB.1
    show (N.1 ++ o1.2.1).length < 1000
    rw [List.length_append]
    omega
  rw [pp_10] at hF hZ
  have hFc := pF_bd1 hF
  have hZ0 : mZ xs (d + 3) T nest N (G ++ [(3, tb T st.1)]) s (pCd T k ctx nest st) Q := mZ_bd hZ (fun st1 o1 s1 hr y1 y2 hZ1 => mg_3 xs (d + 3) [(tb T st.1, st1.2.1)] y1 (hb10 st1 o1 hr) hZ1)
  clear hZ hF hb10
  have hG3 : (G ++ [(3, tb T st.1)]).length = G.length + 1 := List.length_append
  refine mg_2 xs (d + 3) hI hi (by omega) (fun s0 g1 g2 => m155 xs d g1 hi (by omega) hrm.2 _ (fun h s1 q1 q2 => ?_) (fun h s1 q1 q2 => ?_) (fun h s1 q1 q2 => ?_) (fun h s1 q1 q2 => ?_) (fun h s1 q1 q2 => ?_) (fun n17 n16 n22 n29 n20 s1 q1 q2 => ?_))
  all_goals
    have hZ := mZ_m hZ0 (mE_t g2 q2)
    unfold pCd at hFc hZ
    clear hZ0 g1 g2 q2 s0
    generalize G ++ [(3, tb T st.1)] = G3 at q1 hZ hG3
  · rw [if_pos h] at hFc hZ
    have e1 : pTk T 17 st = pOk (pAv T st) := by unfold pTk; rw [if_pos h]
    rw [e1, pBd_ok] at hFc hZ
    have hi1 : (pAv T st).1 < T.length := (tk_nx hT hi h (by decide)).1
    have hB1 := mB_s (row := (1, 0, 0, (st.1 : Int), ((st.1 + 2 : Nat) : Int), (st.1 : Int) + 1, -1, -1, -1)) (mB_tk hT hB hi h (by decide))
    refine t17 xs (d + 3) (r := 2) (c := ctx.1) (b := ctx.1) q1 rfl hi1 (mZ_mk (fun e hr s2 w1 w2 => by rw [hr] at hZ; exact hZ s2 w1 w2) (fun st2 o2 hr s2 w1 w2 => ?_))
    have hF2 := pF_bd2 hFc hr
    rw [hr] at hZ
    have hZ2 := mZ_in hZ w2
    have hq2 := pH_i (pQ_nm hT hi1) hr
    have e2 := pH_i pNm_o hr
    have hB2 := mB_o hB1 hq2 (pH_i rOc_nm hr)
    refine t16 xs (d + 3) (c := 40) w1 hq2.2.1 (by decide) (dec_s (l := 808) (by decide) (by decide) (by decide) (by decide) (by decide)) (mZ_mk (fun e hr3 s3 y1 y2 => by rw [hr3] at hZ2; exact hZ2 s3 y1 y2) (fun st3 o3 hr3 s3 y1 y2 => ?_))
    have hF3 := pF_wr2 (pF_bd2 hF2 hr3)
    rw [hr3] at hZ2
    have hZ3 := mZ_in hZ2 y2
    have hq3 := pH_i (pQ_tk hT (c := 40) (by decide) hq2.2.1) hr3
    have e3 := pH_i pTk_o hr3
    have hB3 := mB_o hB2 hq3 (pH_i rOc_tk hr3)
    have hi3 : (pNw st3).1 < T.length := hq3.2.1
    have eN : mMo (mMo (N.1, N.2.1 ++ [(1, 0, 0, (st.1 : Int), ((st.1 + 2 : Nat) : Int), (st.1 : Int) + 1, -1, -1, -1)], N.2.2) o2) o3 = ((mMo (mMo N o2) o3).1, (mMo (mMo N o2) o3).2.1 ++ [(1, 0, 0, (st.1 : Int), ((st.1 + 2 : Nat) : Int), (st.1 : Int) + 1, -1, -1, -1)], (mMo (mMo N o2) o3).2.2) := by
      rw [e2, e3, mMo_0, mMo_0]
      unfold mMo
      simp only [List.append_nil]
    have eL : (mMo (mMo N o2) o3).2.1.length = N.2.1.length := by
      rw [e2, e3, mMo_0]
      unfold mMo
      simp only [List.append_nil]
    rw [eN] at y1 hB3
    have hZ4 := mZ_sd xs (d + 2) (y := (st.1 : Int) + 1) (w := -1) hZ3 (fun z hz => by
      obtain ⟨a1, a2, a3, a4, a5, a6⟩ := pBd_inr hz
      obtain ⟨b1, b2, b3, b4, b5, b6⟩ := pBd_inr a5
      exact pp11_n b5) (by rw [eL]; exact hB.2.2.2)
    rw [eL] at hZ4
    refine t11 xs (d + 2) hT _ nest (pF_bd1 hF3) (st := pNw st3) y1 hi3 (by simp only [List.length_append, List.length_singleton]; omega) (mZ_bd hZ4 (fun st4 o4 s4 hr4 v1 v2 hZ5 => ?_))
    have hq4 := pH_i (pQ_par hT (st := pNw st3) hi3) hr4
    have ho4 : rOc T (pNw st3) st4 o4 := by
      split at hr4
      · exact pH_i (rOc_pp k 7 _ _ _ (pNw st3)) hr4
      · cases hr4
        exact ⟨Nat.le_refl _, fun x hx => absurd hx List.not_mem_nil, List.Pairwise.nil⟩
    have hB4 := mB_o (st := pNw st3) hB3 hq4 ho4
    have hF4 := pF_bd2 hF3 hr4
    refine t16 xs (d + 3) v1 hq4.2.1 (by decide) (dec_s (l := 809) (by decide) (by decide) (by decide) (by decide) (by decide)) (mZ_bd hZ5 (fun st5 o5 s5 hr5 p1 p2 hZ6 => ?_))
    have hq5 := pH_i (pQ_tk hT (c := 41) (by decide) hq4.2.1) hr5
    have hB5 := mB_o hB4 hq5 (pH_i rOc_tk hr5)
    exact h11 _ nest 0 _ st5 _ G3 s5 (by omega) (pF_bd2 hF4 hr5) ⟨p1, mB_w hB5 (by decide) (by decide), hq5.2.1, hn⟩ hZ6
  · rw [if_neg (by omega), if_pos h] at hFc hZ
    have e1 : pTk T 16 st = pOk (pAv T st) := by unfold pTk; rw [if_pos h]
    rw [e1, pBd_ok] at hFc hZ
    have hi1 : (pAv T st).1 < T.length := (tk_nx hT hi h (by decide)).1
    have hB1 := mB_s (row := (2, 0, 0, (st.1 : Int), ((st.1 + 2 : Nat) : Int), (st.1 : Int) + 1, -1, -1, -1)) (mB_tk hT hB hi h (by decide))
    refine t17 xs (d + 3) (r := 2) (c := ctx.1) (b := ctx.1) q1 rfl hi1 (mZ_mk (fun e hr s2 w1 w2 => by rw [hr] at hZ; exact hZ s2 w1 w2) (fun st2 o2 hr s2 w1 w2 => ?_))
    have hF2 := pF_wr2 (pF_bd2 hFc hr)
    rw [hr] at hZ
    have hZ2 := mZ_in hZ w2
    have hq2 := pH_i (pQ_nm hT hi1) hr
    have e2 := pH_i pNm_o hr
    have hB2 := mB_o hB1 hq2 (pH_i rOc_nm hr)
    have eN : mMo (N.1, N.2.1 ++ [(2, 0, 0, (st.1 : Int), ((st.1 + 2 : Nat) : Int), (st.1 : Int) + 1, -1, -1, -1)], N.2.2) o2 = ((mMo N o2).1, (mMo N o2).2.1 ++ [(2, 0, 0, (st.1 : Int), ((st.1 + 2 : Nat) : Int), (st.1 : Int) + 1, -1, -1, -1)], (mMo N o2).2.2) := by
      rw [e2]
      unfold mMo
      simp only [List.append_nil]
    have eL : (mMo N o2).2.1.length = N.2.1.length := by
      rw [e2]
      unfold mMo
      simp only [List.append_nil]
    rw [eN] at w1 hB2
    have hZ4 := mZ_sd xs (d + 2) (y := (st.1 : Int) + 1) (w := -1) hZ2 (fun z hz => pp11_n hz) (by rw [eL]; exact hB.2.2.2)
    rw [eL] at hZ4
    exact h11 _ nest 0 _ (pNw st2) _ G3 s2 (by omega) hF2 ⟨w1, mB_w hB2 (by decide) (by decide), hq2.2.1, hn⟩ hZ4
  · rw [if_neg (by omega), if_neg (by omega), if_pos h] at hFc hZ
    have e1 : pTk T 22 st = pOk (pAv T st) := by unfold pTk; rw [if_pos h]
    rw [e1, pBd_ok] at hFc hZ
    have hi1 : (pAv T st).1 < T.length := (tk_nx hT hi h (by decide)).1
    have hB1 := mB_tk hT hB hi h (by decide)
    refine h5 ctx nest 0 (pAv T st) N (G3 ++ [(19, 7)] ++ [(12, 0)]) s1 (al2 (by omega)) (pF_bd1 hFc) ⟨q1, mB_w hB1 (by decide) (by decide), hi1, hn⟩ (mZ_bd hZ (fun st2 o2 s2 hr2 w1 w2 hZ2 => ?_))
    have hq2 := pH_i (pQ_pp hT k 0 _ _ _ _ hi1) hr2
    have hB2 := mB_o hB1 hq2 (pH_i (rOc_pp k 0 _ _ _ _) hr2)
    have hF2 := pF_bd2 hFc hr2
    refine h11 ctx nest 0 0 st2 _ (G3 ++ [(19, 7)]) s2 (al1 (by omega)) (pF_bd1 hF2) ⟨w1, mB_w hB2 (by decide) (by decide), hq2.2.1, hn⟩ (mZ_bd hZ2 (fun st3 o3 s3 hr3 y1 y2 hZ3 => ?_))
    have hq3 := pH_i (pQ_pp hT k 11 _ _ _ _ hq2.2.1) hr3
    have hB3 := mB_o hB2 hq3 (pH_i (rOc_pp k 11 _ _ _ _) hr3)
    have hF3 := pF_bd2 hF2 hr3
    refine mg_15z xs (d + 2) y1 (pp11_n hr3) (fun s4 v1 v2 => mg_19 xs (d + 2) v1 hq3.2.1 (by omega) (fun _ h19 s5 p1 p2 => ?_) (fun hno s5 p1 p2 => ?_))
    · have hZ4 := mZ_m hZ3 (mE_t v2 p2)
      rw [if_pos h19] at hF3 hZ4
      have e19 : pTk T 19 st3 = pOk (pAv T st3) := by unfold pTk; rw [if_pos h19]
      rw [e19, pBd_ok] at hF3 hZ4
      have hB4 := mB_tk hT hB3 hq3.2.1 h19 (by decide)
      exact h11 ctx nest 0 0 (pAv T st3) _ G3 s5 (by omega) hF3 ⟨p1, mB_w hB4 (by decide) (by decide), (tk_nx hT hq3.2.1 h19 (by decide)).1, hn⟩ (mZ_e xs (d + 2) hZ4 (fun z hz => pp11_n hz))
    · have hZ4 := mZ_m hZ3 (mE_t v2 p2)
      rw [if_neg (hno rfl)] at hZ4
      have hZ5 : ∀ s6, mI T nest st3 (mMo (mMo (mMo N o2) o3) pO0) G3 s6 → mE s5 s6 → mW xs (d + 3) Q s6 := hZ4
      rw [mMo_0] at hZ5
      exact hZ5 s5 p1 (mE_r s5)
  · rw [if_neg (by omega), if_neg (by omega), if_neg (by omega), if_pos h] at hFc hZ
    have e1 : pTk T 29 st = pOk (pAv T st) := by unfold pTk; rw [if_pos h]
    rw [e1, pBd_ok] at hFc hZ
    have hi1 : (pAv T st).1 < T.length := (tk_nx hT hi h (by decide)).1
    have hB1 := mB_tk hT hB hi h (by decide)
    refine h5 ctx nest 0 (pAv T st) N (G3 ++ [(19, 14)] ++ [(12, 0)]) s1 (al2 (by omega)) (pF_bd1 hFc) ⟨q1, mB_w hB1 (by decide) (by decide), hi1, hn⟩ (mZ_bd hZ (fun st2 o2 s2 hr2 w1 w2 hZ2 => ?_))
    have hq2 := pH_i (pQ_pp hT k 0 _ _ _ _ hi1) hr2
    have hB2 := mB_o hB1 hq2 (pH_i (rOc_pp k 0 _ _ _ _) hr2)
    have hF2 := pF_bd2 hFc hr2
    refine h11 ctx nest 0 0 st2 _ (G3 ++ [(19, 14)]) s2 (al1 (by omega)) hF2 ⟨w1, mB_w hB2 (by decide) (by decide), hq2.2.1, hn⟩ (mZ_mk (fun e hr3 s3 y1 y2 => by rw [hr3] at hZ2; exact hZ2 s3 y1 y2) (fun st3 o3 hr3 s3 y1 y2 => ?_))
    have hq3 := pH_i (pQ_pp hT k 11 _ _ _ _ hq2.2.1) hr3
    rw [hr3] at hZ2
    exact mg_15z xs (d + 2) y1 (pp11_n hr3) (fun s4 v1 v2 => mg_19 xs (d + 2) v1 hq3.2.1 (by omega) (fun hx _ s5 p1 p2 => absurd hx (by decide)) (fun hno s5 p1 p2 => hZ2 s5 p1 (mE_t y2 (mE_t v2 p2))))
  · rw [if_neg (by omega), if_neg (by omega), if_neg (by omega), if_neg (by omega), if_pos h] at hFc hZ
    have e1 : pTk T 20 st = pOk (pAv T st) := by unfold pTk; rw [if_pos h]
    rw [e1, pBd_ok] at hFc hZ
    have hi1 : (pAv T st).1 < T.length := (tk_nx hT hi h (by decide)).1
    have hB1 := mB_tk hT hB hi h (by decide)
    refine t17 xs (d + 3) (r := 2) q1 rfl hi1 (mZ_bd hZ (fun st2 o2 s2 hr w1 w2 hZ2 => ?_))
    have hF2 := pF_bd2 hFc hr
    have hq2 := pH_i (pQ_nm hT hi1) hr
    have hB2 := mB_o hB1 hq2 (pH_i rOc_nm hr)
    refine t16 xs (d + 3) w1 hq2.2.1 (by decide) dec_in (mZ_bd hZ2 (fun st3 o3 s3 hr3 y1 y2 hZ3 => ?_))
    have hF3 := pF_bd2 hF2 hr3
    have hq3 := pH_i (pQ_tk hT (c := 24) (by decide) hq2.2.1) hr3
    have hB3 := mB_o hB2 hq3 (pH_i rOc_tk hr3)
    refine h5 ctx nest 0 st3 _ (G3 ++ [(12, 0)]) s3 (al1 (by omega)) (pF_bd1 hF3) ⟨y1, mB_w hB3 (by decide) (by decide), hq3.2.1, hn⟩ (mZ_bd hZ3 (fun st4 o4 s4 hr4 v1 v2 hZ4 => ?_))
    have hq4 := pH_i (pQ_pp hT k 0 _ _ _ _ hq3.2.1) hr4
    have hB4 := mB_o hB3 hq4 (pH_i (rOc_pp k 0 _ _ _ _) hr4)
    exact h11 ctx nest 0 0 st4 _ G3 s4 (by omega) (pF_bd2 hF3 hr4) ⟨v1, mB_w hB4 (by decide) (by decide), hq4.2.1, hn⟩ (mZ_e xs (d + 2) hZ4 (fun z hz => pp11_n hz))
  · rw [if_neg n17, if_neg n16, if_neg n22, if_neg n29, if_neg n20] at hFc hZ
    exact e9s xs d hT hl hpl k ctx nest 0 st N G3 s1 (by omega) hFc ⟨q1, hB, hi, hn⟩ hZ
theorem eSt (hT : tkW T pl) (hl : T.length ≤ 272) (hpl : ∀ i, pl i ≤ 201) : ∀ k, r2 xs d T pl Q k ∧ r11 xs d T pl Q k ∧ r12 xs d T pl Q k := by
  intro k
  induction k with
  | zero =>
    refine ⟨?_, ?_, ?_⟩
    · intro ctx nest x st N G s hg hF; exact absurd rfl hF
    · intro ctx nest x xg st N G s hg hF; exact absurd rfl hF
    · intro ctx nest x st N G s hg hF; exact absurd rfl hF
  | succ k ih =>
    obtain ⟨h2, h11, h12⟩ := ih
    exact ⟨e2 xs d hT hl hpl h11, e11 xs d hT hl hpl h2 h12, e12 xs d hT hl hpl h2 h12⟩
/-- the file -/
theorem e1 (hT : tkW T pl) (hl : T.length ≤ 272) (hpl : ∀ i, pl i ≤ 201) : ∀ (k : Nat) (ctx : pC) (x : Int) (st : pS) (N : mM) (s : zS), pF (pp T k 13 ctx 0 x st) → mG T pl 0 0 0 st N ([] ++ [(1, 0)]) s → mZ xs (d + 3) T 0 N [] s (pp T k 13 ctx 0 x st) Q → mW xs (d + 3) Q s := by
  intro k
  induction k with
  | zero => intro ctx x st N s hF; exact absurd rfl hF
  | succ k ih =>
    intro ctx x st N s hF hG hZ
    obtain ⟨hI, hB, hi, hn⟩ := hG
    rw [pp] at hF hZ
    refine mg_1 xs (d + 3) hI hi (by decide) (fun h s1 g1 g2 => ?_) (fun h s1 g1 g2 => ?_)
    · rw [if_pos h] at hZ
      have hZ2 : ∀ s2, mI T 0 st (mMo N pO0) [] s2 → mE s s2 → mW xs (d + 3) Q s2 := hZ
      rw [mMo_0] at hZ2
      exact hZ2 s1 g1 g2
    · rw [if_neg h] at hF hZ
      refine (eSt xs d hT hl hpl k).1 ctx 0 0 st N ([] ++ [(1, 0)]) s1 (by decide) (pF_bd1 hF) ⟨g1, hB, hi, hn⟩ (mZ_bd (mZ_m hZ g2) (fun st2 o2 s2 hr2 w1 w2 hZ2 => ?_))
      have hq2 := pH_i (pQ_pp hT k 10 _ _ _ _ hi) hr2
      have hB2 := mB_o hB hq2 (pH_i (rOc_pp k 10 _ _ _ _) hr2)
      exact ih ctx 0 st2 _ s2 (pF_bd2 hF hr2) ⟨w1, mB_w hB2 (by decide) (by decide), hq2.2.1, hn⟩ hZ2
end MX
