/-! Spans, scopes opened and closed, how a piece is followed by another. -/
theorem pF_wr2 {r : pR} {f : pS → pO → pO} (h : pF (pWr f r)) : pF r := by
  match r, h with
  | .inl e, h => exact h
  | .inr _, _ => exact trivial
theorem pBd_as (r : pR) (f g : pS → pR) : pBd (pBd r f) g = pBd r (fun s => pBd (f s) g) := by
  unfold pBd
  rcases r with e | ⟨s1, o1⟩
  · rfl
  · simp only
    rcases f s1 with e | ⟨s2, o2⟩
    · rfl
    · simp only
      rcases g s2 with e | ⟨s3, o3⟩
      · rfl
      · simp only [pAp, List.append_assoc]
theorem pBd_ok (st : pS) (g : pS → pR) : pBd (pOk st) g = g st := by
  show (match g st with | .inl e => .inl e | .inr (st2, o2) => .inr (st2, pAp pO0 o2)) = g st
  rcases g st with e | ⟨s2, o2⟩
  · rfl
  · rfl
theorem pTd_n {T : List lxT} {c : Int} {nest : Nat} {st : pS} {z : pS × pO} (h : pTd T c nest st = .inr z) : nest < 10 := by
  unfold pTd at h
  split at h
  · split at h
    · cases h
    · omega
  · cases h
section PZ
variable {T : List lxT} {ctx : pC} {M : pM} {s : zS} {r : pR} {f : pS → pR} {Q K : Int32 → zS → Prop} {F : zS → Prop} {A : Int32 → zS → Prop}
theorem pZ_an (h : pZ T ctx M s (pBd r f) K) (hF : ∀ s1, K 0 s1 → F s1) (k1 : ∀ st1 o1 s1, r = .inr (st1, o1) → pI T ctx st1 (pMo M o1) s1 → pE s s1 → pZ T ctx (pMo M o1) s1 (f st1) K → A 1 s1) : pZ T ctx M s r (fun v s1 => (v.toInt = 0 → F s1) ∧ (¬ v.toInt = 0 → A v s1)) :=
  pZ_bd h (fun st1 o1 s1 hr g1 g2 hz => ⟨fun h0 => absurd h0 (by decide), fun _ => k1 st1 o1 s1 hr g1 g2 hz⟩) (fun _ s1 _ g1 g2 hq => ⟨fun _ => hF s1 (hq s1 g1 g2), fun h0 => absurd rfl h0⟩)
theorem pZ_mk (h0 : ∀ e, r = .inl e → ∀ s1, pFl T e s1 → pE s s1 → K 0 s1) (h1 : ∀ st o, r = .inr (st, o) → ∀ s1, pI T ctx st (pMo M o) s1 → pE s s1 → K 1 s1) : pZ T ctx M s r K := by
  match r, h0, h1 with
  | .inl e, h0, _ => exact h0 e rfl
  | .inr (st, o), _, h1 => exact h1 st o rfl
theorem pZ_b (h : pZ T ctx M s r Q) : pZ T ctx M s r (fun v s1 => (v = 0 ∨ v = 1) ∧ Q v s1) := by
  match r, h with
  | .inl e, h => exact fun s1 g1 g2 => ⟨Or.inl rfl, h s1 g1 g2⟩
  | .inr (st, o), h => exact fun s1 g1 g2 => ⟨Or.inr rfl, h s1 g1 g2⟩
theorem pZ_fin (h : pZ T ctx M s r K) (hF : ∀ s1, K 0 s1 → F s1) (hS : ∀ s1, K 1 s1 → A 1 s1) : pZ T ctx M s r (fun v s1 => (v.toInt = 0 → F s1) ∧ (¬ v.toInt = 0 → A v s1)) := by
  match r, h with
  | .inl e, h => exact fun s1 g1 g2 => ⟨fun _ => hF s1 (h s1 g1 g2), fun h0 => absurd rfl h0⟩
  | .inr (st, o), h => exact fun s1 g1 g2 => ⟨fun h0 => absurd h0 (by decide), fun _ => hS s1 (h s1 g1 g2)⟩
theorem pZ_in {st1 : pS} {o1 : pO} {s2 : zS} (h : pZ T ctx M s (pBd (.inr (st1, o1)) f) Q) (hE : pE s s2) : pZ T ctx (pMo M o1) s2 (f st1) Q := by
  have h2 : pZ T ctx M s (match f st1 with | .inl e => .inl e | .inr (st2, o2) => .inr (st2, pAp o1 o2)) Q := h
  rcases hf : f st1 with e | ⟨st2, o2⟩
  · rw [hf] at h2
    exact fun s1 q1 q2 => h2 s1 q1 (pE_t hE q2)
  · rw [hf] at h2
    exact fun s1 q1 q2 => h2 s1 (by rw [pMo_a] at q1; exact q1) (pE_t hE q2)
theorem pZ_xm {b : Int} {st : pS} (h : pZ T ctx M s (pBd (pXm b st) f) Q) : pZ T ctx M s (f st) Q := by
  have h2 := pZ_in (o1 := ([], [(b, st.2.1)], [], [], [], [])) (st1 := st) h (pE_r s)
  have e : pMo M ([], [(b, st.2.1)], [], [], [], []) = M := by
    unfold pMo
    simp only [List.append_nil, List.map_nil]
  rw [e] at h2
  exact h2
theorem pZ_mx {b : Int} (h : pZ T ctx M s (pBd r (fun s3 => pXm b s3)) Q) : pZ T ctx M s r Q := by
  match r, h with
  | .inl e, h => exact h
  | .inr (st, o), h =>
    have h3 : ∀ s1, pI T ctx st (pMo M (pAp o ([], [(b, st.2.1)], [], [], [], []))) s1 → pE s s1 → Q 1 s1 := h
    have e : pMo M (pAp o ([], [(b, st.2.1)], [], [], [], [])) = pMo M o := by
      unfold pMo pAp
      simp only [List.append_nil]
    rw [e] at h3
    exact h3
end PZ
/-- all that a piece of the class's parser starts from -/
def pG (T : List lxT) (ctx : pC) (nest : Nat) (st : pS) (M : pM) (s : zS) (a : Int32) : Prop := pI T ctx st M s ∧ pcx M ctx ∧ (st.2.2.1 = M.2.1.length ∧ st.2.2.2 = M.2.2.2.2.1.length) ∧ ctx.2.2.2 ≤ nest ∧ nest ≤ 10 ∧ a.toInt = nest ∧ st.1 < T.length
def pMp (M : pM) (sort parent : Int) : pM := (M.1, M.2.1 ++ [sort], M.2.2.1 ++ [parent], M.2.2.2.1 ++ [-1], M.2.2.2.2.1, M.2.2.2.2.2)
theorem pMp_o (M : pM) (sort parent : Int) (i j : Nat) (st : pS) (o : pO) : pMo (pMp M sort parent) o = pMo M (pSd sort parent i j st o) := by
  unfold pMo pMp pSd
  simp only [List.append_assoc, List.map_cons, List.cons_append, List.nil_append]
section PG
variable {T : List lxT} {pl : Nat → Int} {ctx : pC} {nest : Nat} {st st1 : pS} {M : pM} {s s1 : zS} {a : Int32} {o1 : pO}
theorem pG_o {e f w : Int} {q : Nat} (h : pG T ctx nest st M s a) (hq : pQ T pl e f q w st st1 o1) (hI : pI T ctx st1 (pMo M o1) s1) : pG T ctx nest st1 (pMo M o1) s1 a := by
  obtain ⟨h1, h2, ⟨h3, h4⟩, h5, h6, h7, h8⟩ := h
  obtain ⟨q1, q2, q3, q4, _⟩ := hq
  refine ⟨hI, pcx_o o1 h2, ⟨?_, ?_⟩, h5, h6, h7, q2⟩
  · show st1.2.2.1 = (M.2.1 ++ o1.2.2.1.map (fun x => x.1)).length
    rw [List.length_append, List.length_map]; omega
  · show st1.2.2.2 = (M.2.2.2.2.1 ++ o1.2.2.2.2.1).length
    rw [List.length_append]; omega
theorem pG_x {X m : List (Int × Int)} (h : pG T ctx nest st M s a) (hI : pI T ctx st (pMo M (X, m, [], [], [], [])) s1) : pG T ctx nest st (pMo M (X, m, [], [], [], [])) s1 a := by
  obtain ⟨h1, h2, ⟨h3, h4⟩, h5, h6, h7, h8⟩ := h
  refine ⟨hI, pcx_o _ h2, ⟨?_, ?_⟩, h5, h6, h7, h8⟩
  · show st.2.2.1 = (M.2.1 ++ []).length
    rw [List.append_nil]; exact h3
  · show st.2.2.2 = (M.2.2.2.2.1 ++ []).length
    rw [List.append_nil]; exact h4
theorem pG_n (h : pG T ctx nest st M s a) (hn : nest < 10) : pG T ctx (nest + 1) st M s (a + 1) := ⟨h.1, h.2.1, h.2.2.1, by have := h.2.2.2.1; omega, by omega, ti_inc h.2.2.2.2.2.1 (by omega), h.2.2.2.2.2.2⟩
theorem pcx_p {sort : Int} {n : Nat} (hn : st.2.2.1 = M.2.1.length) (h : pcx M ctx) (h4 : sort ≠ 4) : pcx (pMp M sort ctx.1) ((st.2.2.1 : Int), sort, (st.2.2.1 : Int), n) := by
  obtain ⟨h1, h2, h3, h5, k, h6, h7⟩ := h
  have g : (M.2.1 ++ [sort]).getD ((st.2.2.1 : Int)).toNat 0 = sort := by
    rw [show ((st.2.2.1 : Int)).toNat = M.2.1.length by omega, getD_app, if_neg (by omega), Nat.sub_self]; rfl
  have hl : ((M.2.1 ++ [sort]).length : Int) = (M.2.1.length : Int) + 1 := by rw [List.length_append]; rfl
  refine ⟨?_, ?_, ?_, g, 0, ?_, ?_, ?_, ?_, rfl⟩
  · show (M.2.2.1 ++ [ctx.1]).length = (M.2.1 ++ [sort]).length
    rw [List.length_append, List.length_append, h1]; rfl
  · show (0 : Int) ≤ (st.2.2.1 : Int); omega
  · show (st.2.2.1 : Int) < ((M.2.1 ++ [sort]).length : Int); omega
  · show 0 < (M.2.1 ++ [sort]).length; omega
  · show (0 : Int) ≤ (st.2.2.1 : Int); omega
  · show (st.2.2.1 : Int) < ((M.2.1 ++ [sort]).length : Int); omega
  · show (M.2.1 ++ [sort]).getD ((st.2.2.1 : Int)).toNat 0 ≠ 4
    rw [g]; exact h4
theorem pcx_c {n : Nat} (hn : st.2.2.1 = M.2.1.length) (h : pcx M ctx) : pcx (pMp M 4 ctx.1) ((st.2.2.1 : Int), 4, ctx.2.2.1, n) := by
  obtain ⟨h1, h2, h3, h5, k, h6, h7⟩ := h
  have g : (M.2.1 ++ [4]).getD ((st.2.2.1 : Int)).toNat 0 = 4 := by
    rw [show ((st.2.2.1 : Int)).toNat = M.2.1.length by omega, getD_app, if_neg (by omega), Nat.sub_self]; rfl
  have g2 : (M.2.2.1 ++ [ctx.1]).getD ((st.2.2.1 : Int)).toNat 0 = ctx.1 := by
    rw [show ((st.2.2.1 : Int)).toNat = M.2.2.1.length by omega, getD_app, if_neg (by omega), Nat.sub_self]; rfl
  have hl : ((M.2.1 ++ [(4 : Int)]).length : Int) = (M.2.1.length : Int) + 1 := by rw [List.length_append]; rfl
  refine ⟨?_, ?_, ?_, g, k + 1, ?_, ?_, ?_, g, ?_⟩
  · show (M.2.2.1 ++ [ctx.1]).length = (M.2.1 ++ [4]).length
    rw [List.length_append, List.length_append, h1]; rfl
  · show (0 : Int) ≤ (st.2.2.1 : Int); omega
  · show (st.2.2.1 : Int) < ((M.2.1 ++ [4]).length : Int); omega
  · show k + 1 < (M.2.1 ++ [4]).length; omega
  · show (0 : Int) ≤ (st.2.2.1 : Int); omega
  · show (st.2.2.1 : Int) < ((M.2.1 ++ [4]).length : Int); omega
  · show pch (M.2.1 ++ [4]) (M.2.2.1 ++ [ctx.1]) k ((M.2.2.1 ++ [ctx.1]).getD ((st.2.2.1 : Int)).toNat 0) ctx.2.2.1
    rw [g2]
    exact pch_app h1 h7
theorem pG_op {v b1 : Int32} {sort : Int} (hG : pG T ctx nest st M s a) (hb : b1.toInt = sort) (ow : Int) (hs : pcx (pMp M sort ctx.1) ((st.2.2.1 : Int), sort, ow, ctx.2.2.2)) (q1 : pK T s1) (q2 : zE [6] [12, 13, 14] s s1) (q3 : ∀ ss ps ts, ss.length < 32 → sR ss ps ts s → v.toInt = (ss.length : Int) ∧ sR (ss ++ [b1.toInt]) (ps ++ [(s.1 12).toInt]) (ts ++ [-1]) s1) : pG T ((st.2.2.1 : Int), sort, ow, ctx.2.2.2) nest (pNw st) (pMp M sort ctx.1) (zf s1 12 v) a := by
  obtain ⟨⟨hK, hU, hV⟩, h2, ⟨h3, h4⟩, h5, h6, h7, h8⟩ := hG
  have hU1 : pU T st s1 := pU_E q2 rfl rfl rfl rfl rfl hU
  refine ⟨⟨q1, hU1, fun hcap => ?_⟩, hs, ⟨?_, h4⟩, h5, h6, h7, h8⟩
  · have hl : M.2.1.length < 32 := by
      have := hcap.1
      have e : (pMp M sort ctx.1).2.1.length = M.2.1.length + 1 := List.length_append
      omega
    obtain ⟨x1, x2, x3, x4, x5⟩ := hV ⟨by omega, hcap.2.1, hcap.2.2⟩
    obtain ⟨y1, y2⟩ := q3 _ _ _ hl x2
    rw [hb, x5.1] at y2
    have hE : zE [6, 12] [12, 13, 14] s (zf s1 12 v) := zE_f (zE_m q2 (fun k hk => by simp at hk ⊢; omega) (fun k hk => hk)) rfl
    refine ⟨xR_E hE rfl rfl rfl x1, y2, oR_E hE rfl rfl rfl rfl rfl rfl x3, rR_E hE rfl x4, ?_, ?_⟩
    · show v.toInt = ((st.2.2.1 : Nat) : Int)
      rw [y1, h3]
    · show (s1.1 13).toInt = (ctx.2.2.2 : Int)
      rw [q2.1 13 rfl]; exact x5.2
  · show st.2.2.1 + 1 = (M.2.1 ++ [sort]).length
    rw [List.length_append, h3]; rfl
theorem pI_cl {c1 sort1 ow1 sort : Int} {i j : Nat} {v0 : Int32} (h : pI T (c1, sort1, ow1, ctx.2.2.2) st1 (pMo (pMp M sort ctx.1) o1) s1) (hv : pCap M → v0.toInt = ctx.1) : pI T ctx st1 (pMo M (pSd sort ctx.1 i j st1 o1)) (zf s1 12 v0) := by
  obtain ⟨hK, hU, hV⟩ := h
  refine ⟨hK, hU, fun hcap => ?_⟩
  have hc0 := pCap_m hcap
  rw [← pMp_o] at hcap ⊢
  obtain ⟨x1, x2, x3, x4, x5⟩ := hV hcap
  exact ⟨x1, x2, x3, x4, hv hc0, x5.2⟩
theorem pZ_sd {c1 sort1 ow1 sort : Int} {i j : Nat} {v0 : Int32} {s0 : zS} {r : pR} {K0 : Int32 → zS → Prop} (h : pZ T ctx M s (pWr (pSd sort ctx.1 i j) r) K0) (hE : pE s s0) (hv : pCap M → v0.toInt = ctx.1) : pZ T (c1, sort1, ow1, ctx.2.2.2) (pMp M sort ctx.1) s0 r (fun v s1 => K0 v (zf s1 12 v0)) := by
  match r, h with
  | .inl e, h => exact fun s1 g1 g2 => h _ g1 (zE_f (pE_t hE g2) rfl)
  | .inr (st1, o1), h => exact fun s1 g1 g2 => h _ (pI_cl g1 hv) (zE_f (pE_t hE g2) rfl)
end PG
section PC
variable (xs : Option (List Int32)) (d : Nat) {T : List lxT} {pl : Nat → Int} {ctx : pC} {M : pM} {st : pS} {s : zS}
theorem ct_24x (hI : pI T ctx st M s) (a b : Int32) (x : Int) (ha : a.toInt = x) (hb : b.toInt = st.2.1) (m : List (Int × Int)) (Q : zS → Prop) (hQ : ∀ s1, pI T ctx st (pMo M ([(x, st.2.1)], m, [], [], [], [])) s1 → pE s s1 → Q s1) : zWv xs d 24 0 [(0, .ref 10), (1, .int a), (2, .int b)] s Q := by
  obtain ⟨hK, hU, hV⟩ := hI
  refine ct_24 xs d hK a b Q (fun s1 g1 g2 g3 => hQ s1 ⟨g1, pU_E g2 rfl rfl rfl rfl rfl hU, fun hcap => ?_⟩ (zE_m g2 (fun k hk => by simp at hk ⊢; omega) (fun k hk => by simp at hk ⊢; omega)))
  obtain ⟨x1, x2, x3, x4, x5⟩ := hV (pCap_m hcap)
  have hl : M.1.length < 204 := by
    have := hcap.2.2
    have e : (pMo M ([(x, st.2.1)], m, [], [], [], [])).1.length = M.1.length + 1 := List.length_append
    omega
  have e0 : pMo M ([(x, st.2.1)], m, [], [], [], []) = (M.1 ++ [(x, st.2.1)], M.2.1, M.2.2.1, M.2.2.2.1, M.2.2.2.2.1, M.2.2.2.2.2) := by
    unfold pMo
    simp only [List.append_nil, List.map_nil]
  rw [e0]
  have h9 := g3 M.1 hl x1
  rw [ha, hb] at h9
  exact ⟨h9, sR_E g2 rfl rfl rfl rfl x2, oR_E g2 rfl rfl rfl rfl rfl rfl x3, rR_E g2 rfl x4, cR_E g2 rfl rfl x5⟩
theorem ct_24f {e : Int × Int} (h : pFl T e s) (a b : Int32) (Q : zS → Prop) (hQ : ∀ s1, pFl T e s1 → pE s s1 → Q s1) : zWv xs d 24 0 [(0, .ref 10), (1, .int a), (2, .int b)] s Q := by
  refine ct_24 xs d h.1 a b Q (fun s1 g1 g2 _ => hQ s1 ⟨g1, ?_, ?_⟩ (zE_m g2 (fun k hk => by simp at hk ⊢; omega) (fun k hk => by simp at hk ⊢; omega)))
  · rw [g2.1 14 rfl]; exact h.2.1
  · rw [g2.1 15 rfl]; exact h.2.2
theorem pI_oc2 {s1 s2 : zS} {t : Nat} {b1 b2 b3 b4 b5 : Int32} {c b r : Int} {st1 : pS} (hK2 : pK T s2) (hU1 : pU T st1 s1) (hV1 : pV T ctx M s1) (hE : zE [7] [16, 17, 18, 19, 20] s1 s2) (h1 : b1.toInt = tb T t) (h2 : b2.toInt = te T t) (hcb : pCap M → b3.toInt = c ∧ b4.toInt = b ∧ b5.toInt = r) (hO : ∀ C (t : Nat), C.length < 100 → oR T C s1 → b1.toInt = tb T t → b2.toInt = te T t → oR T (C ++ [(t, b3.toInt, b4.toInt, b5.toInt)]) s2) (n1 : Nat) : pI T ctx (st1.1, st1.2.1, st1.2.2.1, n1 + 1) (pMo M ([], [], [], [], [(t, c, b, r)], [])) s2 := by
  refine ⟨hK2, pU_E hE rfl rfl rfl rfl rfl hU1, ?_⟩
  intro hcap
  have hc0 := pCap_m hcap
  obtain ⟨x1, x2, x3, x4, x5⟩ := hV1 hc0
  obtain ⟨e3, e4, e5⟩ := hcb hc0
  have hl : M.2.2.2.2.1.length < 100 := by
    have := hcap.2.1
    have e : (pMo M ([], [], [], [], [(t, c, b, r)], [])).2.2.2.2.1.length = M.2.2.2.2.1.length + 1 := List.length_append
    omega
  have e0 : pMo M ([], [], [], [], [(t, c, b, r)], []) = (M.1, M.2.1, M.2.2.1, M.2.2.2.1, M.2.2.2.2.1 ++ [(t, c, b, r)], M.2.2.2.2.2) := by
    unfold pMo
    simp only [List.append_nil, List.map_nil]
  rw [e0]
  refine ⟨xR_E hE rfl rfl rfl x1, sR_E hE rfl rfl rfl rfl x2, ?_, rR_E hE rfl x4, cR_E hE rfl rfl x5⟩
  have h9 := hO M.2.2.2.2.1 t hl x3 h1 h2
  rw [e3, e4, e5] at h9
  exact h9
theorem ct_65 (hd : 1 ≤ d) (hT : tkW T pl) (hI : pI T ctx st M s) (hcx : pcx M ctx) (hi : st.1 < T.length) (h0 : tc T st.1 = 0) (h1 : tc T (st.1 + 1) = 128) (Q : zS → Prop) (hZ : pZ T ctx M s (pBd (pNm T (if 0 < ctx.2.2.2 then 98 else 34) ctx.1 ctx.2.2.1 st) (fun s2 => pTk T 128 s2)) (fun v s1 => v = 1 → Q s1)) : zWv xs d 65 0 [(0, .ref 26)] s Q := by
  obtain ⟨d, rfl⟩ : ∃ e, d = e + 1 := ⟨d - 1, by omega⟩
  obtain ⟨hK, hU, hV⟩ := hI
  have hi1 := (tk_nx hT hi h0 (by decide)).1
  have hi2 := (tk_nx hT hi1 h1 (by decide)).1
  obtain ⟨role, hrole⟩ : ∃ x : Int, x = (if 0 < ctx.2.2.2 then 98 else 34) := ⟨_, rfl⟩
  rw [← hrole] at hZ
  have a1 : pNm T role ctx.1 ctx.2.2.1 st = .inr (((pAv T st).1, (pAv T st).2.1, st.2.2.1, st.2.2.2 + 1), ([], [], [], [], [(st.1, ctx.1, ctx.2.2.1, role)], [])) := by
    unfold pNm
    rw [if_pos h0]
  have a2 : pTk T 128 ((pAv T st).1, (pAv T st).2.1, st.2.2.1, st.2.2.2 + 1) = .inr (pAv T ((pAv T st).1, (pAv T st).2.1, st.2.2.1, st.2.2.2 + 1), pO0) := by
    unfold pTk
    rw [if_pos (show tc T ((pAv T st).1, (pAv T st).2.1, st.2.2.1, st.2.2.2 + 1).1 = 128 from h1)]
    rfl
  rw [a1] at hZ
  refine vc_65_0 xs d s Q ?_
  refine ct_66 xs d hK hU hi1 _ (fun s1 g1 g2 g3 => ?_)
  have hV1 := pV_E g3 hV
  have fin : ∀ (v9 : Int32) (b5 : Int32), (pCap M → b5.toInt = role) → (∀ ss ps ts k ow, sR ss ps ts s1 → k < ss.length → pch ss ps k (s1.1 12).toInt ow → v9.toInt = ow) → zWv xs d 29 0 [(0, .ref 17), (1, .int (s.1 10)), (2, .int (s1.1 11)), (3, .int (s1.1 12)), (4, .int v9), (5, .int b5)] s1 (fun s10 => zWv xs d 66 0 [(0, .ref 26)] s10 (fun s12 => Q s12)) := by
    intro v9 b5 h5 h9
    refine ct_29 xs d g1 _ _ _ _ _ _ (fun s2 q1 q2 q3 => ?_)
    have hI2 : pI T ctx ((pAv T st).1, (pAv T st).2.1, st.2.2.1, st.2.2.2 + 1) (pMo M ([], [], [], [], [(st.1, ctx.1, ctx.2.2.1, role)], [])) s2 := by
      refine pI_oc2 (st1 := pAv T st) q1 g2 hV1 q2 hU.2.2.1 ?_ (fun hcap => ?_) q3 st.2.2.2
      · rw [g2.2.2.2.1]
        unfold pAv
        simp only
        rw [if_pos (by omega)]
      · obtain ⟨x1, x2, x3, x4, x5⟩ := hV1 hcap
        obtain ⟨c1, c2, c3, c4, k, c5, c6⟩ := hcx
        exact ⟨x5.1, h9 _ _ _ k _ x2 c5 (by rw [x5.1]; exact c6), h5 hcap⟩
    have hE2 : pE s s2 := zE_t (zE_m g3 (fun k hk => by simp at hk ⊢; omega) (fun k _ => rfl)) (zE_m q2 (fun k hk => by simp at hk ⊢; omega) (fun k hk => by simp at hk ⊢; omega))
    refine ct_66 xs d hI2.1 hI2.2.1 hi2 _ (fun s3 w1 w2 w3 => ?_)
    have h6 := pZ_in hZ hE2
    rw [a2] at h6
    have h7 : ∀ s1, pI T ctx (pAv T ((pAv T st).1, (pAv T st).2.1, st.2.2.1, st.2.2.2 + 1)) (pMo (pMo M ([], [], [], [], [(st.1, ctx.1, ctx.2.2.1, role)], [])) pO0) s1 → pE s2 s1 → (1 : Int32) = 1 → Q s1 := h6
    exact h7 s3 (by rw [pMo_0]; exact ⟨w1, w2, pV_E w3 hI2.2.2⟩) (zE_m w3 (fun k hk => by simp at hk ⊢; omega) (fun k _ => rfl)) rfl
  refine ⟨fun hp => ct_75 xs d g1 _ _ (fun v hv => fin v 98 (fun hcap => ?_) hv), fun hp => ct_75 xs d g1 _ _ (fun v hv => fin v 34 (fun hcap => ?_) hv)⟩
  · have h9 := (hV1 hcap).2.2.2.2.2
    rw [hrole, if_pos (by omega)]; rfl
  · have h9 := (hV1 hcap).2.2.2.2.2
    rw [hrole, if_neg (by omega)]; rfl
end PC
