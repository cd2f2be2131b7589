/-! The reference's scopes. -/
theorem zP_mid {n : Nat} {l r : List Int} {x : Int} {a : List Int32} {i : Int} {v : Int32} (h : zP n (l ++ x :: r) a) (hi : i = l.length) : zP n (l ++ v.toInt :: r) (zu a i v) := by
  obtain ⟨h1, h2, h3⟩ := h
  rw [List.length_append, List.length_cons] at h2
  refine ⟨by rw [zu_len]; exact h1, by rw [List.length_append, List.length_cons]; exact h2, fun j hj => ?_⟩
  rw [List.length_append, List.length_cons] at hj
  unfold zu
  rw [getD_set (by omega)]
  by_cases e : i.toNat = j
  · rw [if_pos e, getD_app, if_neg (by omega), show j - l.length = 0 by omega]
    rfl
  · rw [if_neg e, h3 j (by rw [List.length_append, List.length_cons]; exact hj), getD_app, getD_app]
    split
    · rfl
    · obtain ⟨m, hm⟩ : ∃ m, j - l.length = m + 1 := ⟨j - l.length - 1, by omega⟩
      rw [hm]
      rfl
section WR
variable {F : List Nat} {W1 W2 : List pSc} {r : pSc} {s s1 : zS} {i : Int} {v : Int32}
theorem wR_to (h : wR (W1 ++ r :: W2) s) (hi : i = W1.length) (hE : zE F [47, 49] s s1) (hF : F.contains 31 = false) (h47 : s1.2 47 = zu (s.2 47) i v) (h49 : s1.2 49 = zu (s.2 49) i v) : wR (W1 ++ (r.1, r.2.1, r.2.2.1, r.2.2.2.1, r.2.2.2.2.1, v.toInt, r.2.2.2.2.2.2.1, v.toInt, r.2.2.2.2.2.2.2.2) :: W2) s1 := by
  unfold wR at h ⊢
  rw [h47, h49, hE.1 31 hF, hE.2 44 rfl, hE.2 45 rfl, hE.2 46 rfl, hE.2 48 rfl, hE.2 50 rfl]
  simp only [List.map_append, List.map_cons, List.length_append, List.length_cons] at h ⊢
  obtain ⟨w0, w1, w2, w3, w4, w5, w6, w7⟩ := h
  exact ⟨w0, w1, w2, w3, zP_mid w4 (by rw [List.length_map]; exact hi), w5, zP_mid w6 (by rw [List.length_map]; exact hi), w7⟩
theorem wR_sf (h : wR (W1 ++ r :: W2) s) (hi : i = W1.length) (hE : zE F [48] s s1) (hF : F.contains 31 = false) (h48 : s1.2 48 = zu (s.2 48) i v) : wR (W1 ++ (r.1, r.2.1, r.2.2.1, r.2.2.2.1, r.2.2.2.2.1, r.2.2.2.2.2.1, v.toInt, r.2.2.2.2.2.2.2.1, r.2.2.2.2.2.2.2.2) :: W2) s1 := by
  unfold wR at h ⊢
  rw [h48, hE.1 31 hF, hE.2 44 rfl, hE.2 45 rfl, hE.2 46 rfl, hE.2 47 rfl, hE.2 49 rfl, hE.2 50 rfl]
  simp only [List.map_append, List.map_cons, List.length_append, List.length_cons] at h ⊢
  obtain ⟨w0, w1, w2, w3, w4, w5, w6, w7⟩ := h
  exact ⟨w0, w1, w2, w3, w4, zP_mid w5 (by rw [List.length_map]; exact hi), w6, w7⟩
theorem wR_lp (h : wR (W1 ++ r :: W2) s) (hi : i = W1.length) (hE : zE F [50] s s1) (hF : F.contains 31 = false) (h50 : s1.2 50 = zu (s.2 50) i v) : wR (W1 ++ (r.1, r.2.1, r.2.2.1, r.2.2.2.1, r.2.2.2.2.1, r.2.2.2.2.2.1, r.2.2.2.2.2.2.1, r.2.2.2.2.2.2.2.1, v.toInt) :: W2) s1 := by
  unfold wR at h ⊢
  rw [h50, hE.1 31 hF, hE.2 44 rfl, hE.2 45 rfl, hE.2 46 rfl, hE.2 47 rfl, hE.2 48 rfl, hE.2 49 rfl]
  simp only [List.map_append, List.map_cons, List.length_append, List.length_cons] at h ⊢
  obtain ⟨w0, w1, w2, w3, w4, w5, w6, w7⟩ := h
  exact ⟨w0, w1, w2, w3, w4, w5, w6, zP_mid w7 (by rw [List.length_map]; exact hi)⟩
theorem wR_fr (h : wR (W1 ++ r :: W2) s) (hi : i = W1.length) (hE : zE F [46] s s1) (hF : F.contains 31 = false) (h46 : s1.2 46 = zu (s.2 46) i v) : wR (W1 ++ (r.1, r.2.1, r.2.2.1, r.2.2.2.1, v.toInt, r.2.2.2.2.2.1, r.2.2.2.2.2.2.1, r.2.2.2.2.2.2.2.1, r.2.2.2.2.2.2.2.2) :: W2) s1 := by
  unfold wR at h ⊢
  rw [h46, hE.1 31 hF, hE.2 44 rfl, hE.2 45 rfl, hE.2 47 rfl, hE.2 48 rfl, hE.2 49 rfl, hE.2 50 rfl]
  simp only [List.map_append, List.map_cons, List.length_append, List.length_cons] at h ⊢
  obtain ⟨w0, w1, w2, w3, w4, w5, w6, w7⟩ := h
  exact ⟨w0, w1, w2, zP_mid w3 (by rw [List.length_map]; exact hi), w4, w5, w6, w7⟩
/-- parent and target don't matter -/
theorem wR_q {p q : Int} (h : wR (W1 ++ r :: W2) s) : wR (W1 ++ (r.1, p, q, r.2.2.2) :: W2) s := by
  unfold wR at h ⊢
  simp only [List.map_append, List.map_cons, List.length_append, List.length_cons] at h ⊢
  exact h
end WR
section MC
variable (xs : Option (List Int32)) (d : Nat) {T : List lxT} {nest : Nat} {st : pS} {G : List (Int × Int)} {s : zS} {Q : zS → Prop} {x : Int} {E : List (Int × Int)} {W1 W2 : List pSc} {r : pSc} {C : List pOc} {N : mM}
theorem wR_X {W : List pSc} (h : wR W s) {i : Int} (h0 : 0 ≤ i) (h1 : i < (W.length : Int)) : zX (s.2 46) i ∧ zX (s.2 47) i ∧ zX (s.2 48) i ∧ zX (s.2 49) i ∧ zX (s.2 50) i := by
  obtain ⟨w0, w1, w2, w3, w4, w5, w6, w7⟩ := h
  have hl := w1.2.1
  rw [List.length_map] at hl
  exact ⟨zP_X w3 (by decide) h0 (by omega), zP_X w4 (by decide) h0 (by omega), zP_X w5 (by decide) h0 (by omega), zP_X w6 (by decide) h0 (by omega), zP_X w7 (by decide) h0 (by omega)⟩
/-- a body's or a lambda's end, without a scope -/
theorem mg_15z (hI : mI T (nest + 1) st N (G ++ [(15, 0)]) s) (hn : nest < 10) (h : ∀ s1, mI T nest st N G s1 → mE s s1 → mW xs (d + 1) Q s1) : mW xs (d + 1) Q s := by
  refine m_pop xs (d + 1) hI (fun a1 a2 s0 e1 h2 g1 g2 => vc_154_0 xs (d + 1) s0 a1 a2 _ ?_)
  have e1b := e1
  rw [e1]
  refine ⟨fun h => absurd h (by decide), fun _ => ⟨fun h => absurd h (by decide), fun _ => ⟨fun h => absurd h (by decide), fun _ => ⟨fun h => absurd h (by decide), fun _ => ⟨fun h => absurd h (by decide), fun _ => ⟨fun h => absurd h (by decide), fun _ => ⟨fun h => absurd h (by decide), fun _ => ⟨fun h => absurd h (by decide), fun _ => ⟨fun h => absurd h (by decide), fun _ => ⟨fun _ => ⟨fun h => absurd h (by decide), fun _ => ⟨fun h => absurd h (by decide), fun _ => ?_⟩⟩, fun h => absurd (by decide) h⟩⟩⟩⟩⟩⟩⟩⟩⟩⟩
  refine vc_162_0 xs d s0 a1 a2 _ ?_
  rw [e1b]
  refine ⟨fun h => absurd h (by decide), fun _ => ⟨fun h => absurd h (by decide), fun _ => ⟨fun h => absurd h (by decide), fun _ => ⟨fun h => absurd h (by decide), fun _ => ⟨fun h => absurd h (by decide), fun _ => ⟨fun _ => ?_, fun h => absurd rfl h⟩⟩⟩⟩⟩⟩
  rw [h2]
  refine ⟨fun h => absurd h (by decide), fun _ => h _ ?_ (mE_t g2 (zE_f (zE_r s0) rfl))⟩
  obtain ⟨k1, ⟨u1, u2, u3, u4⟩, k3, k4, k5, k6⟩ := g1
  refine ⟨k1, ⟨u1, ?_, u3, u4⟩, k3, k4, k5, k6⟩
  show ((s0.1 25) - 1).toInt = (nest : Int)
  rw [ti_m1 u2 (by omega) (by omega)]
  omega
/-- the same, with one -/
theorem mg_15 (hI : mI T (nest + 1) st (E, W1 ++ r :: W2, C) (G ++ [(15, x)]) s) (hn : nest < 10) (hx : x = W1.length) (h0 : 0 < x) (h : ∀ s1, mI T nest st (E, W1 ++ (r.1, r.2.1, r.2.2.1, r.2.2.2.1, r.2.2.2.2.1, (st.1 : Int), r.2.2.2.2.2.2.1, (st.1 : Int), r.2.2.2.2.2.2.2.2) :: W2, C) G s1 → mE s s1 → mW xs (d + 1) Q s1) : mW xs (d + 1) Q s := by
  refine m_pop xs (d + 1) hI (fun a1 a2 s0 e1 h2 g1 g2 => vc_154_0 xs (d + 1) s0 a1 a2 _ ?_)
  have e1b := e1
  rw [e1]
  refine ⟨fun h => absurd h (by decide), fun _ => ⟨fun h => absurd h (by decide), fun _ => ⟨fun h => absurd h (by decide), fun _ => ⟨fun h => absurd h (by decide), fun _ => ⟨fun h => absurd h (by decide), fun _ => ⟨fun h => absurd h (by decide), fun _ => ⟨fun h => absurd h (by decide), fun _ => ⟨fun h => absurd h (by decide), fun _ => ⟨fun h => absurd h (by decide), fun _ => ⟨fun _ => ⟨fun h => absurd h (by decide), fun _ => ⟨fun h => absurd h (by decide), fun _ => ?_⟩⟩, fun h => absurd (by decide) h⟩⟩⟩⟩⟩⟩⟩⟩⟩⟩
  refine vc_162_0 xs d s0 a1 a2 _ ?_
  rw [e1b]
  refine ⟨fun h => absurd h (by decide), fun _ => ⟨fun h => absurd h (by decide), fun _ => ⟨fun h => absurd h (by decide), fun _ => ⟨fun h => absurd h (by decide), fun _ => ⟨fun h => absurd h (by decide), fun _ => ⟨fun _ => ?_, fun h => absurd rfl h⟩⟩⟩⟩⟩⟩
  rw [h2]
  obtain ⟨k1, ⟨u1, u2, u3, u4⟩, k3, k4, k5, k6⟩ := g1
  have hlen : (W1 ++ r :: W2).length = W1.length + (W2.length + 1) := by rw [List.length_append, List.length_cons]
  obtain ⟨z1, z2, z3, z4, z5⟩ := wR_X (i := x) k4 (by omega) (by show x < ((W1 ++ r :: W2).length : Int); omega)
  refine ⟨fun _ => ⟨z2, z4, h _ ?_ (mE_t g2 (zE_a (zE_a (zE_f (zE_r s0) rfl) rfl) rfl))⟩, fun h => absurd h0 h⟩
  have hE : zE [25] [47, 49] s0 (za (za (zf s0 25 ((s0.1 25) - 1)) 47 (zu (s0.2 47) x (s0.1 24))) 49 (zu (s0.2 49) x (s0.1 24))) := zE_a (zE_a (zE_f (zE_r s0) rfl) rfl) rfl
  have hw := wR_to k4 hx hE rfl rfl rfl
  rw [u1] at hw
  refine ⟨mkR_E hE rfl rfl rfl rfl rfl k1, ⟨u1, ?_, u3, u4⟩, eR_E hE rfl rfl rfl k3, hw, rlR_E hE rfl k5, gR_E hE rfl rfl rfl k6⟩
  show ((s0.1 25) - 1).toInt = (nest : Int)
  rw [ti_m1 u2 (by omega) (by omega)]
  omega
/-- a source's end -/
theorem mg_23 (hI : mI T nest st (E, W1 ++ r :: W2, C) (G ++ [(23, x)]) s) (hx : x = W1.length) (h0 : 0 < x) (h : ∀ s1, mI T nest st (E, W1 ++ (r.1, r.2.1, r.2.2.1, r.2.2.2.1, r.2.2.2.2.1, (st.1 : Int), r.2.2.2.2.2.2.1, (st.1 : Int), r.2.2.2.2.2.2.2.2) :: W2, C) G s1 → mE s s1 → mW xs (d + 1) Q s1) : mW xs (d + 1) Q s := by
  refine m_pop xs (d + 1) hI (fun a1 a2 s0 e1 h2 g1 g2 => vc_154_0 xs (d + 1) s0 a1 a2 _ ?_)
  have e1b := e1
  rw [e1]
  refine ⟨fun h => absurd h (by decide), fun _ => ⟨fun h => absurd h (by decide), fun _ => ⟨fun h => absurd h (by decide), fun _ => ⟨fun h => absurd h (by decide), fun _ => ⟨fun h => absurd h (by decide), fun _ => ⟨fun h => absurd h (by decide), fun _ => ⟨fun h => absurd h (by decide), fun _ => ⟨fun h => absurd h (by decide), fun _ => ⟨fun h => absurd h (by decide), fun _ => ⟨fun _ => ⟨fun h => absurd h (by decide), fun _ => ⟨fun h => absurd h (by decide), fun _ => ?_⟩⟩, fun h => absurd (by decide) h⟩⟩⟩⟩⟩⟩⟩⟩⟩⟩
  refine vc_162_0 xs d s0 a1 a2 _ ?_
  rw [e1b]
  refine ⟨fun h => absurd h (by decide), fun _ => ⟨fun h => absurd h (by decide), fun _ => ⟨fun h => absurd h (by decide), fun _ => ⟨fun h => absurd h (by decide), fun _ => ⟨fun h => absurd h (by decide), fun _ => ⟨fun h => absurd h (by decide), fun _ => ?_⟩⟩⟩⟩⟩⟩
  rw [h2]
  obtain ⟨k1, ⟨u1, u2, u3, u4⟩, k3, k4, k5, k6⟩ := g1
  have hlen : (W1 ++ r :: W2).length = W1.length + (W2.length + 1) := by rw [List.length_append, List.length_cons]
  obtain ⟨z1, z2, z3, z4, z5⟩ := wR_X (i := x) k4 (by omega) (by show x < ((W1 ++ r :: W2).length : Int); omega)
  refine ⟨fun _ => ⟨z2, z4, h _ ?_ (mE_t g2 (zE_a (zE_a (zE_f (zE_r s0) rfl) rfl) rfl))⟩, fun h => absurd h0 h⟩
  have hE : zE [25] [47, 49] s0 (za (za (zf s0 25 (s0.1 25)) 47 (zu (s0.2 47) x (s0.1 24))) 49 (zu (s0.2 49) x (s0.1 24))) := zE_a (zE_a (zE_f (zE_r s0) rfl) rfl) rfl
  have hw := wR_to k4 hx hE rfl rfl rfl
  rw [u1] at hw
  exact ⟨mkR_E hE rfl rfl rfl rfl rfl k1, ⟨u1, u2, u3, u4⟩, eR_E hE rfl rfl rfl k3, hw, rlR_E hE rfl k5, gR_E hE rfl rfl rfl k6⟩
/-- a source's begin -/
theorem mg_22 (hI : mI T nest st (E, W1 ++ r :: W2, C) (G ++ [(22, x)]) s) (hg : G.length + 2 ≤ 240) (hx : x = W1.length) (h : ∀ s1, mI T nest st (E, W1 ++ (r.1, r.2.1, r.2.2.1, r.2.2.2.1, r.2.2.2.2.1, r.2.2.2.2.2.1, (st.1 : Int), r.2.2.2.2.2.2.2.1, r.2.2.2.2.2.2.2.2) :: W2, C) (G ++ [(23, x)] ++ [(5, 0)]) s1 → mE s s1 → mW xs (d + 1) Q s1) : mW xs (d + 1) Q s := by
  refine m_pop xs (d + 1) hI (fun a1 a2 s0 e1 h2 g1 g2 => vc_154_0 xs (d + 1) s0 a1 a2 _ ?_)
  have e1b := e1
  rw [e1]
  refine ⟨fun h => absurd h (by decide), fun _ => ⟨fun h => absurd h (by decide), fun _ => ⟨fun h => absurd h (by decide), fun _ => ⟨fun h => absurd h (by decide), fun _ => ⟨fun h => absurd h (by decide), fun _ => ⟨fun h => absurd h (by decide), fun _ => ⟨fun h => absurd h (by decide), fun _ => ⟨fun h => absurd h (by decide), fun _ => ⟨fun h => absurd h (by decide), fun _ => ⟨fun _ => ⟨fun h => absurd h (by decide), fun _ => ⟨fun h => absurd h (by decide), fun _ => ?_⟩⟩, fun h => absurd (by decide) h⟩⟩⟩⟩⟩⟩⟩⟩⟩⟩
  refine vc_162_0 xs d s0 a1 a2 _ ?_
  rw [e1b]
  refine ⟨fun h => absurd h (by decide), fun _ => ⟨fun h => absurd h (by decide), fun _ => ⟨fun h => absurd h (by decide), fun _ => ⟨fun _ => ?_, fun h => absurd rfl h⟩⟩⟩⟩
  rw [h2]
  obtain ⟨k1, ⟨u1, u2, u3, u4⟩, k3, k4, k5, k6⟩ := g1
  have hlen : (W1 ++ r :: W2).length = W1.length + (W2.length + 1) := by rw [List.length_append, List.length_cons]
  obtain ⟨z1, z2, z3, z4, z5⟩ := wR_X (i := x) k4 (by omega) (by show x < ((W1 ++ r :: W2).length : Int); omega)
  refine ⟨z3, ?_⟩
  have hE : zE [] [48] s0 (za s0 48 (zu (s0.2 48) x (s0.1 24))) := zE_a (zE_r s0) rfl
  have hw := wR_sf k4 hx hE rfl rfl
  rw [u1] at hw
  have hI1 : mI T nest st (E, W1 ++ (r.1, r.2.1, r.2.2.1, r.2.2.2.1, r.2.2.2.2.1, r.2.2.2.2.2.1, (st.1 : Int), r.2.2.2.2.2.2.2.1, r.2.2.2.2.2.2.2.2) :: W2, C) G (za s0 48 (zu (s0.2 48) x (s0.1 24))) := ⟨mkR_E hE rfl rfl rfl rfl rfl k1, ⟨u1, u2, u3, u4⟩, eR_E hE rfl rfl rfl k3, hw, rlR_E hE rfl k5, gR_E hE rfl rfl rfl k6⟩
  refine ct_145 xs d hI1 (by omega) _ _ _ (fun s3 y1 y2 => ct_145 xs d y1 (by rw [List.length_append]; show G.length + 1 < 240; omega) _ _ _ (fun s4 v1 v2 => h s4 ?_ (mE_t g2 (mE_t (zE_a (zE_r s0) rfl) (mE_t y2 v2)))))
  rw [h2] at v1
  exact v1
/-- what stands behind a list's first expression -/
theorem mg_20 (hd : 1 ≤ d) {t : Nat} (hI : mI T nest st N (G ++ [(20, (t : Int))]) s) (hi : st.1 < T.length) (ht : t < 1000) (hn : N.2.1.length < 40) (hg : G.length + 3 ≤ 240) (h1 : tc T st.1 = 20 → ∀ s1, mI T nest (pAv T st) (N.1, N.2.1 ++ [(4, 0, 0, (t : Int), (t : Int) + 1, (t : Int) + 1, -1, -1, ((st.1 + 1 : Nat) : Int))], N.2.2) (G ++ [(22, (N.2.1.length : Int))] ++ [(16, 521)] ++ [(17, 1)]) s1 → mE s s1 → mW xs (d + 1) Q s1) (h0 : ¬ tc T st.1 = 20 → ∀ s1, mI T nest st N G s1 → mE s s1 → mW xs (d + 1) Q s1) : mW xs (d + 1) Q s := by
  refine m_pop xs (d + 1) hI (fun a1 a2 s0 e1 h2 g1 g2 => vc_154_0 xs (d + 1) s0 a1 a2 _ ?_)
  have e1b := e1
  rw [e1]
  refine ⟨fun h => absurd h (by decide), fun _ => ⟨fun h => absurd h (by decide), fun _ => ⟨fun h => absurd h (by decide), fun _ => ⟨fun h => absurd h (by decide), fun _ => ⟨fun h => absurd h (by decide), fun _ => ⟨fun h => absurd h (by decide), fun _ => ⟨fun h => absurd h (by decide), fun _ => ⟨fun h => absurd h (by decide), fun _ => ⟨fun h => absurd h (by decide), fun _ => ⟨fun _ => ⟨fun h => absurd h (by decide), fun _ => ⟨fun h => absurd h (by decide), fun _ => ?_⟩⟩, fun h => absurd (by decide) h⟩⟩⟩⟩⟩⟩⟩⟩⟩⟩
  refine vc_162_0 xs d s0 a1 a2 _ ?_
  rw [e1b]
  refine ⟨fun h => absurd h (by decide), fun _ => ⟨fun h => absurd h (by decide), fun _ => ⟨fun _ => ?_, fun h => absurd rfl h⟩⟩⟩
  refine ct_147 xs d g1 hi 2 5 20 (isC_w (by decide) (by decide)) (by decide) _ (fun h => ⟨fun h => absurd h (by decide), fun _ => ?_⟩) (fun h => ⟨fun _ => h0 h s0 g1 g2, fun h => absurd rfl h⟩)
  refine ct_151 xs d g1 hn 4 a2 4 t rfl h2 (by omega) (by omega) _ (fun v s1 q0 q1 q2 => ct_149 xs d q1 hi _ (fun s2 w1 w2 => ?_))
  obtain ⟨k1, ⟨u1, u2, u3, u4⟩, k3, k4, k5, k6⟩ := w1
  have k4 : wR (N.2.1 ++ (4, 0, 0, (t : Int), (t : Int) + 1, (t : Int) + 1, -1, -1, -1) :: []) s2 := k4
  have hlen : (N.2.1 ++ (4, 0, 0, (t : Int), (t : Int) + 1, (t : Int) + 1, -1, -1, -1) :: [] : List pSc).length = N.2.1.length + 1 := List.length_append
  obtain ⟨z1, z2, z3, z4, z5⟩ := wR_X (i := v.toInt) k4 (by omega) (by omega)
  refine ⟨z5, ?_⟩
  have hE : zE [] [50] s2 (za s2 50 (zu (s2.2 50) v.toInt (s2.1 24))) := zE_a (zE_r s2) rfl
  have hw := wR_lp k4 q0 hE rfl rfl
  rw [u1] at hw
  have hI1 : mI T nest (pAv T st) (N.1, N.2.1 ++ [(4, 0, 0, (t : Int), (t : Int) + 1, (t : Int) + 1, -1, -1, ((st.1 + 1 : Nat) : Int))], N.2.2) G (za s2 50 (zu (s2.2 50) v.toInt (s2.1 24))) := ⟨mkR_E hE rfl rfl rfl rfl rfl k1, ⟨u1, u2, u3, u4⟩, eR_E hE rfl rfl rfl k3, hw, rlR_E hE rfl k5, gR_E hE rfl rfl rfl k6⟩
  refine ct_145 xs d hI1 (by omega) _ _ _ (fun s3 y1 y2 => ?_)
  rw [q0] at y1
  refine ct_146 xs d hd y1 (by rw [List.length_append]; show G.length + 1 < 240; omega) 2 9 521 (by decide) _ (fun s4 v1 v2 => ct_145 xs d v1 (by rw [List.length_append, List.length_append]; show G.length + 1 + 1 < 240; omega) _ _ _ (fun s5 p1 p2 => h1 h s5 p1 (mE_t g2 (mE_t q2 (mE_t w2 (mE_t (zE_a (zE_r s2) rfl) (mE_t y2 (mE_t v2 p2))))))))
end MC
