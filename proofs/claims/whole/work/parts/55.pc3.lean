section FR
variable {F A : List Nat} {s s1 : zS} (h : zE F A s s1)
theorem xR_E {X : List (Int × Int)} (h : zE F A s s1) (h5 : F.contains 5 = false) (h9 : A.contains 9 = false) (h10 : A.contains 10 = false) (hx : xR X s) : xR X s1 := by
  unfold xR; rw [h.1 5 h5, h.2 9 h9, h.2 10 h10]; exact hx
theorem sR_E {ss ps ts : List Int} (h : zE F A s s1) (h6 : F.contains 6 = false) (h12 : A.contains 12 = false) (h13 : A.contains 13 = false) (h14 : A.contains 14 = false) (hx : sR ss ps ts s) : sR ss ps ts s1 := by
  unfold sR; rw [h.1 6 h6, h.2 12 h12, h.2 13 h13, h.2 14 h14]; exact hx
theorem oR_E {T : List lxT} {C : List pOc} (h : zE F A s s1) (h7 : F.contains 7 = false) (h16 : A.contains 16 = false) (h17 : A.contains 17 = false) (h18 : A.contains 18 = false) (h19 : A.contains 19 = false) (h20 : A.contains 20 = false) (hx : oR T C s) : oR T C s1 := by
  unfold oR; rw [h.1 7 h7, h.2 16 h16, h.2 17 h17, h.2 18 h18, h.2 19 h19, h.2 20 h20]; exact hx
theorem rR_E {T : List lxT} {R : List Nat} (h : zE F A s s1) (h16 : F.contains 16 = false) (hx : rR T R s) : rR T R s1 := by
  unfold rR; rw [h.1 16 h16]; exact hx
theorem cR_E {ctx : pC} (h : zE F A s s1) (h12 : F.contains 12 = false) (h13 : F.contains 13 = false) (hx : cR ctx s) : cR ctx s1 := by
  unfold cR; rw [h.1 12 h12, h.1 13 h13]; exact hx
end FR
theorem pV_E {s s1 : zS} {T : List lxT} {ctx : pC} {M : pM} (h : zE [8, 9, 10, 11] [] s s1) (hv : pV T ctx M s) : pV T ctx M s1 := by
  intro hc
  obtain ⟨h1, h2, h3, h4, h5⟩ := hv hc
  exact ⟨xR_E h rfl rfl rfl h1, sR_E h rfl rfl rfl rfl h2, oR_E h rfl rfl rfl rfl rfl rfl h3, rR_E h rfl h4, cR_E h rfl rfl h5⟩
theorem pU_E {F A : List Nat} {s s1 : zS} {T : List lxT} {st : pS} (h : zE F A s s1) (h8 : F.contains 8 = false) (h9 : F.contains 9 = false) (h10 : F.contains 10 = false) (h11 : F.contains 11 = false) (h14 : F.contains 14 = false) (hu : pU T st s) : pU T st s1 := by
  unfold pU; rw [h.1 8 h8, h.1 9 h9, h.1 10 h10, h.1 11 h11, h.1 14 h14]; exact hu
/-- what a method's caller must meet: by what the piece gives -/
def pZ (T : List lxT) (ctx : pC) (M : pM) (s : zS) (r : pR) (Q : Int32 → zS → Prop) : Prop := match r with
  | .inl e => ∀ s1, pFl T e s1 → pE s s1 → Q 0 s1
  | .inr (st, o) => ∀ s1, pI T ctx st (pMo M o) s1 → pE s s1 → Q 1 s1
/-- a piece, then another -/
theorem pZ_bd {T : List lxT} {ctx : pC} {M : pM} {s : zS} {r : pR} {f : pS → pR} {Q K : Int32 → zS → Prop} (h : pZ T ctx M s (pBd r f) Q) (k1 : ∀ st1 o1 s1, r = .inr (st1, o1) → pI T ctx st1 (pMo M o1) s1 → pE s s1 → pZ T ctx (pMo M o1) s1 (f st1) Q → K 1 s1) (k0 : ∀ e s1, r = .inl e → pFl T e s1 → pE s s1 → (∀ s2, pFl T e s2 → pE s s2 → Q 0 s2) → K 0 s1) : pZ T ctx M s r K := by
  match r, h, k1, k0 with
  | .inl e, h, _, k0 => exact fun s1 g1 g2 => k0 e s1 rfl g1 g2 h
  | .inr (st1, o1), h, k1, _ =>
    intro s1 g1 g2
    refine k1 st1 o1 s1 rfl g1 g2 ?_
    have h2 : pZ T ctx M s (match f st1 with | .inl e => .inl e | .inr (st2, o2) => .inr (st2, pAp o1 o2)) Q := h
    match hf : f st1, h2 with
    | .inl e, h2 => exact fun s2 q1 q2 => h2 s2 q1 (pE_t g2 q2)
    | .inr (st2, o2), h2 => exact fun s2 q1 q2 => h2 s2 (by rw [pMo_a] at q1; exact q1) (pE_t g2 q2)
def pcx (M : pM) (ctx : pC) : Prop := M.2.2.1.length = M.2.1.length ∧ 0 ≤ ctx.1 ∧ ctx.1 < (M.2.1.length : Int) ∧ M.2.1.getD ctx.1.toNat 0 = ctx.2.1 ∧ ∃ k, k < M.2.1.length ∧ pch M.2.1 M.2.2.1 k ctx.1 ctx.2.2.1
theorem pcx_o {M : pM} {ctx : pC} (o : pO) (h : pcx M ctx) : pcx (pMo M o) ctx := by
  obtain ⟨h1, h2, h3, h4, k, h5, h6⟩ := h
  have e1 : (pMo M o).2.1 = M.2.1 ++ o.2.2.1.map (fun x => x.1) := rfl
  have e2 : (pMo M o).2.2.1 = M.2.2.1 ++ o.2.2.1.map (fun x => x.2.1) := rfl
  unfold pcx
  rw [e1, e2]
  refine ⟨by simp only [List.length_append, List.length_map]; omega, h2, by rw [List.length_append]; omega, ?_, k, by rw [List.length_append]; omega, pch_app h1 h6⟩
  rw [getD_app, if_pos (by omega)]
  exact h4
section PC
variable (xs : Option (List Int32)) (d : Nat) {T : List lxT} {pl : Nat → Int} {ctx : pC} {M : pM} {st : pS} {s : zS}
theorem ct_62 (hd : 1 ≤ d) (hT : tkW T pl) (hI : pI T ctx st M s) (hi : st.1 < T.length) (a : Int32) (c : Int) (ha : a.toInt = c) (h7 : c ≠ 7) (Q : Int32 → zS → Prop) (hZ : pZ T ctx M s (pTk T c st) Q) : zWi xs d 62 0 [(0, .ref 26), (1, .int a)] s Q := by
  obtain ⟨d, rfl⟩ : ∃ e, d = e + 1 := ⟨d - 1, by omega⟩
  obtain ⟨hK, hU, hV⟩ := hI
  refine vc_62_0 xs d s a Q ?_
  rw [hU.2.1, ha]
  unfold pTk at hZ
  refine ⟨fun hc => ?_, fun hc => ?_⟩
  · rw [if_pos hc] at hZ
    refine ct_66 xs d hK hU (tk_nx hT hi hc h7).1 _ (fun s1 g1 g2 g3 => ?_)
    have hZ : ∀ s1, pI T ctx (pAv T st) (pMo M pO0) s1 → pE s s1 → Q 1 s1 := hZ
    rw [pMo_0] at hZ
    exact hZ s1 ⟨g1, g2, pV_E g3 hV⟩ (zE_m g3 (fun k hk => by simp at hk ⊢; omega) (fun k _ => rfl))
  · rw [if_neg hc] at hZ
    refine ct_67 xs d hK hU 20 _ (fun s1 g1 g2 => ⟨Or.inl rfl, hZ s1 g1 g2⟩)
theorem ct_63 (hd : 1 ≤ d) (hT : tkW T pl) (hI : pI T ctx st M s) (hi : st.1 < T.length) (a b : Int32) (c : Int) (ha : a.toInt = c) (h7 : c ≠ 7) (nest : Nat) (hb : b.toInt = nest) (Q : Int32 → zS → Prop) (hZ : pZ T ctx M s (pTd T c nest st) Q) : zWi xs d 63 0 [(0, .ref 26), (1, .int a), (2, .int b)] s Q := by
  obtain ⟨d, rfl⟩ : ∃ e, d = e + 1 := ⟨d - 1, by omega⟩
  obtain ⟨hK, hU, hV⟩ := hI
  refine vc_63_0 xs d s a b Q ?_
  rw [hU.2.1, ha, hb]
  unfold pTd at hZ
  refine ⟨fun hc => ?_, fun hc => ?_⟩
  · rw [if_pos hc] at hZ
    refine ⟨fun hn => ?_, fun hn => ?_⟩
    · rw [if_neg (by omega)] at hZ
      refine ct_66 xs d hK hU (tk_nx hT hi hc h7).1 _ (fun s1 g1 g2 g3 => ?_)
      have hZ : ∀ s1, pI T ctx (pAv T st) (pMo M pO0) s1 → pE s s1 → Q 1 s1 := hZ
      rw [pMo_0] at hZ
      exact hZ s1 ⟨g1, g2, pV_E g3 hV⟩ (zE_m g3 (fun k hk => by simp at hk ⊢; omega) (fun k _ => rfl))
    · rw [if_pos (by omega)] at hZ
      exact ct_67 xs d hK hU 21 _ (fun s1 g1 g2 => ⟨Or.inl rfl, hZ s1 g1 g2⟩)
  · rw [if_neg hc] at hZ
    exact ct_67 xs d hK hU 20 _ (fun s1 g1 g2 => ⟨Or.inl rfl, hZ s1 g1 g2⟩)
/-- an occurrence, once its token is taken -/
theorem pI_oc {s1 s2 : zS} {t : Nat} {b1 b2 b3 b4 b5 : Int32} {c b r : Int} {st1 : pS} (hK2 : pK T s2) (hU1 : pU T st1 s1) (hV1 : pV T ctx M s1) (hE : zE [7] [16, 17, 18, 19, 20] s1 s2) (h1 : b1.toInt = tb T t) (h2 : b2.toInt = te T t) (hcb : pCap M → b3.toInt = c ∧ b4.toInt = b) (h5 : b5.toInt = r) (hO : ∀ C (t : Nat), C.length < 100 → oR T C s1 → b1.toInt = tb T t → b2.toInt = te T t → oR T (C ++ [(t, b3.toInt, b4.toInt, b5.toInt)]) s2) (n1 : Nat) (e1 : st1.2.2.2 = n1) : pI T ctx (st1.1, st1.2.1, st1.2.2.1, n1 + 1) (pMo M ([], [], [], [], [(t, c, b, r)], [])) s2 := by
  refine ⟨hK2, pU_E hE rfl rfl rfl rfl rfl hU1, ?_⟩
  intro hcap
  have hc0 := pCap_m hcap
  obtain ⟨x1, x2, x3, x4, x5⟩ := hV1 hc0
  obtain ⟨e3, e4⟩ := hcb hc0
  have hl : M.2.2.2.2.1.length < 100 := by
    have := hcap.2.1
    have e : (pMo M ([], [], [], [], [(t, c, b, r)], [])).2.2.2.2.1.length = M.2.2.2.2.1.length + 1 := List.length_append
    omega
  have e0 : pMo M ([], [], [], [], [(t, c, b, r)], []) = (M.1, M.2.1, M.2.2.1, M.2.2.2.1, M.2.2.2.2.1 ++ [(t, c, b, r)], M.2.2.2.2.2) := by
    unfold pMo
    simp only [List.append_nil, List.map_nil]
  rw [e0]
  refine ⟨xR_E hE rfl rfl rfl x1, sR_E hE rfl rfl rfl rfl x2, ?_, rR_E hE rfl x4, cR_E hE rfl rfl x5⟩
  have := hO M.2.2.2.2.1 t hl x3 h1 h2
  rw [e3, e4, h5] at this
  exact this
theorem ct_64 (hd : 1 ≤ d) (hT : tkW T pl) (hI : pI T ctx st M s) (hi : st.1 < T.length) (a : Int32) (r : Int) (ha : a.toInt = r) (Q : Int32 → zS → Prop) (hZ : pZ T ctx M s (pNm T r ctx.1 ctx.1 st) Q) : zWi xs d 64 0 [(0, .ref 26), (1, .int a)] s Q := by
  obtain ⟨d, rfl⟩ : ∃ e, d = e + 1 := ⟨d - 1, by omega⟩
  obtain ⟨hK, hU, hV⟩ := hI
  refine vc_64_0 xs d s a Q ?_
  rw [hU.2.1]
  unfold pNm at hZ
  refine ⟨fun hc => ?_, fun hc => ?_⟩
  · rw [if_pos hc] at hZ
    refine ct_66 xs d hK hU (tk_nx hT hi hc (by decide)).1 _ (fun s1 g1 g2 g3 => ?_)
    have hV1 := pV_E g3 hV
    refine ct_29 xs d g1 _ _ _ _ _ _ (fun s2 q1 q2 q3 => hZ s2 ?_ ?_)
    · refine pI_oc (st1 := pAv T st) q1 g2 hV1 q2 hU.2.2.1 ?_ (fun hcap => ⟨(hV1 hcap).2.2.2.2.1, (hV1 hcap).2.2.2.2.1⟩) ha q3 st.2.2.2 rfl
      rw [g2.2.2.2.1]
      unfold pAv
      simp only
      rw [if_pos (by omega)]
    · exact zE_t (zE_m g3 (fun k hk => by simp at hk ⊢; omega) (fun k _ => rfl)) (zE_m q2 (fun k hk => by simp at hk ⊢; omega) (fun k hk => by simp at hk ⊢; omega))
  · rw [if_neg hc] at hZ
    exact ct_67 xs d hK hU 20 _ (fun s1 g1 g2 => ⟨Or.inl rfl, hZ s1 g1 g2⟩)
end PC
