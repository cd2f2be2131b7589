/-! The reference's loop, goal by goal. -/
theorem fl20 {x : Int} : ((Int32.toInt 20, x) : Int × Int).1 ≠ 0 := by
  show Int32.toInt 20 ≠ 0
  decide
theorem fl21 {x : Int} : ((21, x) : Int × Int).1 ≠ 0 := by
  show (21 : Int) ≠ 0
  decide
def mW (xs : Option (List Int32)) (d : Nat) (Q : zS → Prop) (s : zS) : Prop := zWv xs (d + 2) 153 58 [(0, .ref 32)] s Q
section MC
variable (xs : Option (List Int32)) (d : Nat) {T : List lxT} {nest : Nat} {N : mM} {st : pS} {G : List (Int × Int)} {s : zS} {Q : zS → Prop} {x : Int}
theorem m_pop {g : Int} (hI : mI T nest st N (G ++ [(g, x)]) s) (h : ∀ (a1 a2 : Int32) (s0 : zS), a1.toInt = g → a2.toInt = x → mI T nest st N G s0 → mE s s0 → zWv xs (d + 1) 154 0 [(0, .ref 32), (1, .int a1), (2, .int a2)] s0 (mW xs d Q)) : mW xs d Q s := by
  obtain ⟨k1, ⟨u1, u2, u3, u4⟩, k3, k4, k5, ⟨g1, g2, g3⟩⟩ := hI
  have l0 : (G ++ [(g, x)]).length = G.length + 1 := List.length_append
  have l1 : ((G ++ [(g, x)]).map (fun e => e.1)).length = G.length + 1 := by rw [List.length_map]; exact l0
  have l2 : ((G ++ [(g, x)]).map (fun e => e.2)).length = G.length + 1 := by rw [List.length_map]; exact l0
  have b1 := g2.2.1
  have em : ((s.1 26) - 1).toInt = (G.length : Int) := by
    rw [ti_m1 g1 (by omega) (by omega)]; omega
  refine vc_153_58 xs (d + 1) s Q ⟨fun _ => ⟨fun _ => ⟨zP_X g2 (by decide) (by omega) (by omega), zP_X g3 (by decide) (by omega) (by omega), h _ _ _ ?_ ?_ ?_ (zE_f (zE_r s) rfl)⟩, fun hf => absurd u4 hf⟩, fun hh => by omega⟩
  · rw [zP_get g2 (by omega) (by omega), show ((s.1 26).toInt - 1).toNat = (G.map (fun e => e.1)).length by rw [List.length_map]; omega, List.map_append, getD_app, if_neg (by omega), Nat.sub_self]
    rfl
  · rw [zP_get g3 (by omega) (by omega), show ((s.1 26).toInt - 1).toNat = (G.map (fun e => e.2)).length by rw [List.length_map]; omega, List.map_append, getD_app, if_neg (by omega), Nat.sub_self]
    rfl
  · rw [List.map_append] at g2 g3
    exact ⟨k1, ⟨u1, u2, u3, u4⟩, k3, k4, k5, ⟨em, zP_tk g2, zP_tk g3⟩⟩
theorem m_fl {e : Int × Int} (h : mFl T e s) (he : e.1 ≠ 0) (hQ : Q s) : mW xs d Q s :=
  vc_153_58 xs (d + 1) s Q ⟨fun _ => ⟨fun h0 => absurd (h.2.2.1.symm.trans h0) he, fun _ => hQ⟩, fun _ => hQ⟩
theorem m_end (hI : mI T nest st N [] s) (hQ : Q s) : mW xs d Q s :=
  vc_153_58 xs (d + 1) s Q ⟨fun h => by have := hI.2.2.2.2.2.1; simp at this; omega, fun _ => hQ⟩
theorem mg_4 (hI : mI T nest st N (G ++ [(4, x)]) s) (h : ∀ s0, mI T nest st N G s0 → mE s s0 → zWv xs d 156 0 [(0, .ref 32)] s0 (mW xs d Q)) : mW xs d Q s := by
  refine m_pop xs d hI (fun a1 a2 s0 h1 h2 g1 g2 => vc_154_0 xs d s0 a1 a2 _ ?_)
  rw [h1]
  exact ⟨fun h => absurd h (by decide), fun _ => ⟨fun h => absurd h (by decide), fun _ => ⟨fun h => absurd h (by decide), fun _ => ⟨fun h => absurd h (by decide), fun _ => ⟨fun _ => h s0 g1 g2, fun h => absurd rfl h⟩⟩⟩⟩⟩
theorem mg_5 (hI : mI T nest st N (G ++ [(5, x)]) s) (h : ∀ s0, mI T nest st N G s0 → mE s s0 → zWv xs d 158 0 [(0, .ref 32)] s0 (mW xs d Q)) : mW xs d Q s := by
  refine m_pop xs d hI (fun a1 a2 s0 h1 h2 g1 g2 => vc_154_0 xs d s0 a1 a2 _ ?_)
  rw [h1]
  exact ⟨fun h => absurd h (by decide), fun _ => ⟨fun h => absurd h (by decide), fun _ => ⟨fun h => absurd h (by decide), fun _ => ⟨fun h => absurd h (by decide), fun _ => ⟨fun h => absurd h (by decide), fun _ => ⟨fun _ => h s0 g1 g2, fun h => absurd rfl h⟩⟩⟩⟩⟩⟩
theorem mg_8 (hI : mI T nest st N (G ++ [(8, x)]) s) (h : ∀ s0, mI T nest st N G s0 → mE s s0 → zWv xs d 159 0 [(0, .ref 32)] s0 (mW xs d Q)) : mW xs d Q s := by
  refine m_pop xs d hI (fun a1 a2 s0 h1 h2 g1 g2 => vc_154_0 xs d s0 a1 a2 _ ?_)
  rw [h1]
  exact ⟨fun h => absurd h (by decide), fun _ => ⟨fun h => absurd h (by decide), fun _ => ⟨fun h => absurd h (by decide), fun _ => ⟨fun h => absurd h (by decide), fun _ => ⟨fun h => absurd h (by decide), fun _ => ⟨fun h => absurd h (by decide), fun _ => ⟨fun _ => h s0 g1 g2, fun h => absurd rfl h⟩⟩⟩⟩⟩⟩⟩
theorem mg_9 (hI : mI T nest st N (G ++ [(9, x)]) s) (h : ∀ (a2 : Int32) (s0 : zS), a2.toInt = x → mI T nest st N G s0 → mE s s0 → zWv xs d 160 0 [(0, .ref 32), (1, .int a2)] s0 (mW xs d Q)) : mW xs d Q s := by
  refine m_pop xs d hI (fun a1 a2 s0 h1 h2 g1 g2 => vc_154_0 xs d s0 a1 a2 _ ?_)
  rw [h1]
  exact ⟨fun h => absurd h (by decide), fun _ => ⟨fun h => absurd h (by decide), fun _ => ⟨fun h => absurd h (by decide), fun _ => ⟨fun h => absurd h (by decide), fun _ => ⟨fun h => absurd h (by decide), fun _ => ⟨fun h => absurd h (by decide), fun _ => ⟨fun h => absurd h (by decide), fun _ => ⟨fun h => absurd h (by decide), fun _ => ⟨fun _ => h a2 s0 h2 g1 g2, fun h => absurd rfl h⟩⟩⟩⟩⟩⟩⟩⟩⟩
theorem mg_3 (m : List (Int × Int)) (hI : mI T nest st N (G ++ [(3, x)]) s) (hn : N.1.length < 1000) (h : ∀ s1, mI T nest st (mMo N (m, [(x, st.2.1)], [], [], [], [])) G s1 → mE s s1 → mW xs d Q s1) : mW xs d Q s := by
  refine m_pop xs d hI (fun a1 a2 s0 h1 h2 g1 g2 => vc_154_0 xs d s0 a1 a2 _ ?_)
  rw [h1]
  exact ⟨fun h => absurd h (by decide), fun _ => ⟨fun h => absurd h (by decide), fun _ => ⟨fun _ => ct_150 xs d g1 hn a2 x h2 m _ (fun s1 q1 q2 => h s1 q1 (mE_t g2 q2)), fun h => absurd rfl h⟩⟩⟩
theorem mg_6 (m : List (Int × Int)) (hI : mI T nest st N (G ++ [(6, x)]) s) (hn : N.1.length < 1000) (h : ∀ s1, mI T nest st (mMo N (m, [(x, st.2.1)], [], [], [], [])) G s1 → mE s s1 → mW xs d Q s1) : mW xs d Q s := by
  refine m_pop xs d hI (fun a1 a2 s0 h1 h2 g1 g2 => vc_154_0 xs d s0 a1 a2 _ ?_)
  rw [h1]
  exact ⟨fun h => absurd h (by decide), fun _ => ⟨fun h => absurd h (by decide), fun _ => ⟨fun h => absurd h (by decide), fun _ => ⟨fun _ => ct_150 xs d g1 hn a2 x h2 m _ (fun s1 q1 q2 => h s1 q1 (mE_t g2 q2)), fun h => absurd rfl h⟩⟩⟩⟩
theorem mg_1 (hI : mI T nest st N (G ++ [(1, x)]) s) (hi : st.1 < T.length) (hg : G.length + 2 ≤ 240) (h7 : tc T st.1 = 7 → ∀ s1, mI T nest st N G s1 → mE s s1 → mW xs d Q s1) (h0 : ¬ tc T st.1 = 7 → ∀ s1, mI T nest st N (G ++ [(1, 0)] ++ [(2, 0)]) s1 → mE s s1 → mW xs d Q s1) : mW xs d Q s := by
  refine m_pop xs d hI (fun a1 a2 s0 h1 h2 g1 g2 => vc_154_0 xs d s0 a1 a2 _ ?_)
  rw [h1]
  obtain ⟨c1, c2, c3, c4, c5, c6, c7, c8⟩ := mk_c g1.1 hi
  have hk : lx_kd (tc T st.1) = 7 ↔ tc T st.1 = 7 := by
    unfold lx_kd
    split
    · exact Iff.rfl
    · split <;> omega
  refine ⟨fun _ => ?_, fun h => absurd rfl h⟩
  rw [g1.2.1.1, c5, hk]
  exact ⟨c1, fun h => h7 h s0 g1 g2, fun h => ct_145 xs d g1 (by omega) _ _ _ (fun s1 q1 q2 => ct_145 xs d q1 (by rw [List.length_append]; show G.length + 1 < 240; omega) _ _ _ (fun s2 w1 w2 => h0 h s2 w1 (mE_t g2 (mE_t q2 w2))))⟩
theorem mg_2 (hI : mI T nest st N (G ++ [(2, x)]) s) (hi : st.1 < T.length) (hg : G.length < 240) (h : ∀ s1, mI T nest st N (G ++ [(3, tb T st.1)]) s1 → mE s s1 → zWv xs d 155 0 [(0, .ref 32)] s1 (mW xs d Q)) : mW xs d Q s := by
  refine m_pop xs d hI (fun a1 a2 s0 h1 h2 g1 g2 => vc_154_0 xs d s0 a1 a2 _ ?_)
  rw [h1]
  obtain ⟨c1, c2, c3, c4, c5, c6, c7, c8⟩ := mk_c g1.1 hi
  refine ⟨fun h => absurd h (by decide), fun _ => ⟨fun _ => ?_, fun h => absurd rfl h⟩⟩
  rw [g1.2.1.1]
  refine ⟨c2, ct_145 xs d g1 hg _ _ _ (fun s1 q1 q2 => h s1 ?_ (mE_t g2 q2))⟩
  rw [c6] at q1
  exact q1
theorem mg_7 (m : List (Int × Int)) (hI : mI T nest st N (G ++ [(7, x)]) s) (hi : st.1 < T.length) (hn : N.1.length < 1000) (hg : G.length + 2 ≤ 240) (h1 : tc T st.1 = 43 → ∀ s1, mI T nest (pAv T st) (mMo N (m, [(x, st.2.1)], [], [], [], [])) (G ++ [(7, x)] ++ [(8, 0)]) s1 → mE s s1 → mW xs d Q s1) (h0 : ¬ tc T st.1 = 43 → ∀ s1, mI T nest st (mMo N (m, [(x, st.2.1)], [], [], [], [])) G s1 → mE s s1 → mW xs d Q s1) : mW xs d Q s := by
  refine m_pop xs d hI (fun a1 a2 s0 e1 h2 g1 g2 => vc_154_0 xs d s0 a1 a2 _ ?_)
  rw [e1]
  refine ⟨fun h => absurd h (by decide), fun _ => ⟨fun h => absurd h (by decide), fun _ => ⟨fun h => absurd h (by decide), fun _ => ⟨fun h => absurd h (by decide), fun _ => ⟨fun h => absurd h (by decide), fun _ => ⟨fun h => absurd h (by decide), fun _ => ⟨fun h => absurd h (by decide), fun _ => ⟨fun _ => ?_, fun h => absurd rfl h⟩⟩⟩⟩⟩⟩⟩⟩
  refine ct_150 xs d g1 hn a2 x h2 m _ (fun s1 q1 q2 => ct_147 xs d q1 hi 3 43 43 (isC_s (by decide) (by decide)) (by decide) _ (fun h => ⟨fun h => absurd h (by decide), fun _ => ?_⟩) (fun h => ⟨fun _ => h0 h s1 q1 (mE_t g2 q2), fun h => absurd rfl h⟩))
  refine ct_149 xs d q1 hi _ (fun s2 w1 w2 => ct_145 xs d w1 (by omega) _ _ _ (fun s3 y1 y2 => ct_145 xs d y1 (by rw [List.length_append]; show G.length + 1 < 240; omega) _ _ _ (fun s4 v1 v2 => h1 h s4 ?_ (mE_t g2 (mE_t q2 (mE_t w2 (mE_t y2 v2)))))))
  rw [h2] at v1
  exact v1
theorem mg_16 {c : Int} (hI : mI T nest st N (G ++ [(16, x)]) s) (hi : st.1 < T.length) (h8 : c ≠ 8) (hx : ∀ a2 : Int32, a2.toInt = x → isC (a2 / 256).toInt (a2 - a2 / 256 * 256).toInt c) (h1 : tc T st.1 = c → ∀ s1, mI T nest (pAv T st) N G s1 → mE s s1 → mW xs d Q s1) (h0 : ¬ tc T st.1 = c → ∀ s1, mFl T (20, tb T st.1) s1 → mE s s1 → Q s1) : mW xs d Q s := by
  refine m_pop xs d hI (fun a1 a2 s0 e1 h2 g1 g2 => vc_154_0 xs d s0 a1 a2 _ ?_)
  rw [e1]
  refine ⟨fun h => absurd h (by decide), fun _ => ⟨fun h => absurd h (by decide), fun _ => ⟨fun h => absurd h (by decide), fun _ => ⟨fun h => absurd h (by decide), fun _ => ⟨fun h => absurd h (by decide), fun _ => ⟨fun h => absurd h (by decide), fun _ => ⟨fun h => absurd h (by decide), fun _ => ⟨fun h => absurd h (by decide), fun _ => ⟨fun h => absurd h (by decide), fun _ => ⟨fun _ => ⟨fun _ => ?_, fun h => absurd rfl h⟩, fun h => absurd (by decide) h⟩⟩⟩⟩⟩⟩⟩⟩⟩⟩
  refine ct_147 xs d g1 hi _ _ c (hx a2 h2) h8 _ (fun h => ⟨fun h => absurd h (by decide), fun _ => ct_149 xs d g1 hi _ (fun s1 q1 q2 => h1 h s1 q1 (mE_t g2 q2))⟩) (fun h => ⟨fun _ => ct_148 xs d g1 hi 20 _ (fun s1 q1 q2 => m_fl xs d q1 fl20 (h0 h s1 q1 (mE_t g2 q2))), fun h => absurd rfl h⟩)
theorem mg_17 {r c b : Int} (hI : mI T nest st N (G ++ [(17, pmr r)]) s) (hi : st.1 < T.length) (h1 : tc T st.1 = 0 → ∀ s1, mI T nest ((pAv T st).1, (pAv T st).2.1, st.2.2.1, st.2.2.2 + 1) (mMo N ([], [], [], [], [(st.1, c, b, r)], [])) G s1 → mE s s1 → mW xs d Q s1) (h0 : ¬ tc T st.1 = 0 → ∀ s1, mFl T (20, tb T st.1) s1 → mE s s1 → Q s1) : mW xs d Q s := by
  refine m_pop xs d hI (fun a1 a2 s0 e1 h2 g1 g2 => vc_154_0 xs d s0 a1 a2 _ ?_)
  rw [e1]
  obtain ⟨c1, c2, c3, c4, c5, c6, c7, c8⟩ := mk_c g1.1 hi
  have hk : lx_kd (tc T st.1) = 0 ↔ tc T st.1 = 0 := by
    unfold lx_kd
    split
    · exact Iff.rfl
    · split <;> omega
  have hl : T.length ≤ 420 := by have := g1.1.2.1.2.1; rw [List.length_map] at this; exact this
  refine ⟨fun h => absurd h (by decide), fun _ => ⟨fun h => absurd h (by decide), fun _ => ⟨fun h => absurd h (by decide), fun _ => ⟨fun h => absurd h (by decide), fun _ => ⟨fun h => absurd h (by decide), fun _ => ⟨fun h => absurd h (by decide), fun _ => ⟨fun h => absurd h (by decide), fun _ => ⟨fun h => absurd h (by decide), fun _ => ⟨fun h => absurd h (by decide), fun _ => ⟨fun _ => ⟨fun h => absurd h (by decide), fun _ => ⟨fun _ => ?_, fun h => absurd rfl h⟩⟩, fun h => absurd (by decide) h⟩⟩⟩⟩⟩⟩⟩⟩⟩⟩
  rw [g1.2.1.1, c5, hk]
  refine ⟨c1, fun h => ⟨zP_X g1.2.2.2.2.1 (by decide) (by omega) (by omega), ?_⟩, fun h => ct_148 xs d g1 hi 20 _ (fun s1 q1 q2 => m_fl xs d q1 fl20 (h0 h s1 q1 (mE_t g2 q2)))⟩
  have hI1 : mI T nest st (mMo N ([], [], [], [], [(st.1, c, b, r)], [])) G (za s0 38 (zu (s0.2 38) (st.1 : Int) a2)) := by
    obtain ⟨k1, k2, k3, k4, k5, k6⟩ := g1
    have e0 : mMo N ([], [], [], [], [(st.1, c, b, r)], []) = (N.1, N.2.1, N.2.2 ++ [(st.1, c, b, r)]) := by
      unfold mMo
      simp only [List.append_nil]
    rw [e0]
    refine ⟨k1, k2, k3, k4, ?_, k6⟩
    show zP 420 (rrl T.length (N.2.2 ++ [(st.1, c, b, r)])) (zu (s0.2 38) (st.1 : Int) a2)
    rw [rrl_s]
    obtain ⟨p1, p2, p3⟩ := k5
    have rl := rrl_len T.length N.2.2
    refine ⟨by rw [zu_len]; exact p1, by rw [List.length_set]; exact p2, ?_⟩
    intro i hi2
    rw [List.length_set] at hi2
    unfold zu
    rw [show ((st.1 : Int)).toNat = st.1 by omega, getD_set (by omega)]
    by_cases e : st.1 = i
    · rw [if_pos e]
      subst e
      rw [List.getD_eq_getElem?_getD, List.getElem?_set_self hi2]
      exact h2
    · rw [if_neg e, p3 i hi2, List.getD_eq_getElem?_getD, List.getD_eq_getElem?_getD, List.getElem?_set_ne e]
  exact ct_149 xs d hI1 hi _ (fun s1 q1 q2 => h1 h s1 q1 (mE_t g2 (mE_t (zE_a (zE_r s0) rfl) q2)))
theorem mg_10 (hI : mI T nest st N (G ++ [(10, x)]) s) (hi : st.1 < T.length) (hg : G.length + 2 ≤ 240) (h1 : tc T st.1 = 44 → ∀ s1, mI T nest (pAv T st) N (G ++ [(10, 0)] ++ [(5, 0)]) s1 → mE s s1 → mW xs (d + 1) Q s1) (h0 : ¬ tc T st.1 = 44 → ∀ s1, mI T nest st N G s1 → mE s s1 → mW xs (d + 1) Q s1) : mW xs (d + 1) Q s := by
  refine m_pop xs (d + 1) hI (fun a1 a2 s0 e1 h2 g1 g2 => vc_154_0 xs (d + 1) s0 a1 a2 _ ?_)
  have e1b := e1
  rw [e1]
  refine ⟨fun h => absurd h (by decide), fun _ => ⟨fun h => absurd h (by decide), fun _ => ⟨fun h => absurd h (by decide), fun _ => ⟨fun h => absurd h (by decide), fun _ => ⟨fun h => absurd h (by decide), fun _ => ⟨fun h => absurd h (by decide), fun _ => ⟨fun h => absurd h (by decide), fun _ => ⟨fun h => absurd h (by decide), fun _ => ⟨fun h => absurd h (by decide), fun _ => ⟨fun h => absurd h (by decide), fun _ => ?_⟩⟩⟩⟩⟩⟩⟩⟩⟩⟩
  refine vc_161_0 xs d s0 a1 a2 _ ?_
  rw [e1b]
  refine ⟨fun _ => ?_, fun h => absurd rfl h⟩
  refine ct_147 xs d g1 hi 3 44 44 (isC_s (by decide) (by decide)) (by decide) _ (fun h => ⟨fun h => absurd h (by decide), fun _ => ?_⟩) (fun h => ⟨fun _ => h0 h s0 g1 g2, fun h => absurd rfl h⟩)
  exact ct_149 xs d g1 hi _ (fun s2 w1 w2 => ct_145 xs d w1 (by omega) _ _ _ (fun s3 y1 y2 => ct_145 xs d y1 (by rw [List.length_append]; show G.length + 1 < 240; omega) _ _ _ (fun s4 v1 v2 => h1 h s4 v1 (mE_t g2 (mE_t w2 (mE_t y2 v2))))))
theorem mg_11 (hI : mI T nest st N (G ++ [(11, x)]) s) (hi : st.1 < T.length) (hg : G.length + 2 ≤ 240) (h1 : tc T st.1 = 0 → ∀ s1, mI T nest st N (G ++ [(18, 2)] ++ [(17, 2)]) s1 → mE s s1 → mW xs (d + 1) Q s1) (h0 : ¬ tc T st.1 = 0 → ∀ s1, mI T nest st N G s1 → mE s s1 → mW xs (d + 1) Q s1) : mW xs (d + 1) Q s := by
  refine m_pop xs (d + 1) hI (fun a1 a2 s0 e1 h2 g1 g2 => vc_154_0 xs (d + 1) s0 a1 a2 _ ?_)
  have e1b := e1
  rw [e1]
  refine ⟨fun h => absurd h (by decide), fun _ => ⟨fun h => absurd h (by decide), fun _ => ⟨fun h => absurd h (by decide), fun _ => ⟨fun h => absurd h (by decide), fun _ => ⟨fun h => absurd h (by decide), fun _ => ⟨fun h => absurd h (by decide), fun _ => ⟨fun h => absurd h (by decide), fun _ => ⟨fun h => absurd h (by decide), fun _ => ⟨fun h => absurd h (by decide), fun _ => ⟨fun h => absurd h (by decide), fun _ => ?_⟩⟩⟩⟩⟩⟩⟩⟩⟩⟩
  refine vc_161_0 xs d s0 a1 a2 _ ?_
  rw [e1b]
  refine ⟨fun h => absurd h (by decide), fun _ => ⟨fun _ => ?_, fun h => absurd rfl h⟩⟩
  obtain ⟨c1, c2, c3, c4, c5, c6, c7, c8⟩ := mk_c g1.1 hi
  have hk : ∀ z : Int, z < 8 → z ≠ 2 → z ≠ 3 → (lx_kd (tc T st.1) = z ↔ tc T st.1 = z) := by
    intro z z1 z2 z3
    unfold lx_kd
    split
    · exact Iff.rfl
    · split <;> omega
  rw [g1.2.1.1, c5, hk 0 (by decide) (by decide) (by decide)]
  exact ⟨c1, fun h => ct_145 xs d g1 (by omega) _ _ _ (fun s3 y1 y2 => ct_145 xs d y1 (by rw [List.length_append]; show G.length + 1 < 240; omega) _ _ _ (fun s4 v1 v2 => h1 h s4 v1 (mE_t g2 (mE_t y2 v2)))), fun h => h0 h s0 g1 g2⟩
theorem mg_12 (hd : 1 ≤ d) (hI : mI T nest st N (G ++ [(12, x)]) s) (hi : st.1 < T.length) (hn : nest ≤ 10) (hg : G.length + 2 ≤ 240) (h1 : tc T st.1 = 58 → ¬ 10 ≤ nest → ∀ s1, mI T (nest + 1) (pAv T st) N (G ++ [(15, x)] ++ [(13, 0)]) s1 → mE s s1 → mW xs (d + 1) Q s1) (h21 : tc T st.1 = 58 → 10 ≤ nest → ∀ s1, mFl T (21, tb T st.1) s1 → mE s s1 → Q s1) (h0 : ¬ tc T st.1 = 58 → ∀ s1, mFl T (20, tb T st.1) s1 → mE s s1 → Q s1) : mW xs (d + 1) Q s := by
  refine m_pop xs (d + 1) hI (fun a1 a2 s0 e1 h2 g1 g2 => vc_154_0 xs (d + 1) s0 a1 a2 _ ?_)
  have e1b := e1
  rw [e1]
  refine ⟨fun h => absurd h (by decide), fun _ => ⟨fun h => absurd h (by decide), fun _ => ⟨fun h => absurd h (by decide), fun _ => ⟨fun h => absurd h (by decide), fun _ => ⟨fun h => absurd h (by decide), fun _ => ⟨fun h => absurd h (by decide), fun _ => ⟨fun h => absurd h (by decide), fun _ => ⟨fun h => absurd h (by decide), fun _ => ⟨fun h => absurd h (by decide), fun _ => ⟨fun h => absurd h (by decide), fun _ => ?_⟩⟩⟩⟩⟩⟩⟩⟩⟩⟩
  refine vc_161_0 xs d s0 a1 a2 _ ?_
  rw [e1b]
  refine ⟨fun h => absurd h (by decide), fun _ => ⟨fun h => absurd h (by decide), fun _ => ⟨fun _ => ?_, fun h => absurd rfl h⟩⟩⟩
  refine ct_147 xs d g1 hi 3 58 58 (isC_s (by decide) (by decide)) (by decide) _ (fun h => ⟨fun h => absurd h (by decide), fun _ => ?_⟩) (fun h => ⟨fun _ => ct_148 xs d g1 hi 20 _ (fun s1 q1 q2 => m_fl xs (d + 1) q1 fl20 (h0 h s1 q1 (mE_t g2 q2))), fun h => absurd rfl h⟩)
  refine ct_152 xs d hd g1 hi hn _ (fun hnn s1 q1 q2 => ⟨fun _ => m_fl xs (d + 1) q1 fl21 (h21 h hnn s1 q1 (mE_t g2 q2)), fun h => absurd rfl h⟩) (fun hnn s1 q1 q2 => ⟨fun h => absurd h (by decide), fun _ => ?_⟩)
  refine ct_145 xs d q1 (by omega) _ _ _ (fun s3 y1 y2 => ct_145 xs d y1 (by rw [List.length_append]; show G.length + 1 < 240; omega) _ _ _ (fun s4 v1 v2 => h1 h hnn s4 ?_ (mE_t g2 (mE_t q2 (mE_t y2 v2)))))
  rw [h2] at v1
  exact v1
theorem mg_13 (hd : 1 ≤ d) (hI : mI T nest st N (G ++ [(13, x)]) s) (hi : st.1 < T.length) (hg : G.length + 3 ≤ 240) (h1 : tc T st.1 = 4 → ∀ s1, mI T nest (pAv T st) N (G ++ [(14, 0)] ++ [(2, 0)] ++ [(16, 1280)]) s1 → mE s s1 → mW xs (d + 1) Q s1) (h0 : ¬ tc T st.1 = 4 → ∀ s1, mI T nest st N (G ++ [(16, 1024)] ++ [(4, 0)]) s1 → mE s s1 → mW xs (d + 1) Q s1) : mW xs (d + 1) Q s := by
  refine m_pop xs (d + 1) hI (fun a1 a2 s0 e1 h2 g1 g2 => vc_154_0 xs (d + 1) s0 a1 a2 _ ?_)
  have e1b := e1
  rw [e1]
  refine ⟨fun h => absurd h (by decide), fun _ => ⟨fun h => absurd h (by decide), fun _ => ⟨fun h => absurd h (by decide), fun _ => ⟨fun h => absurd h (by decide), fun _ => ⟨fun h => absurd h (by decide), fun _ => ⟨fun h => absurd h (by decide), fun _ => ⟨fun h => absurd h (by decide), fun _ => ⟨fun h => absurd h (by decide), fun _ => ⟨fun h => absurd h (by decide), fun _ => ⟨fun h => absurd h (by decide), fun _ => ?_⟩⟩⟩⟩⟩⟩⟩⟩⟩⟩
  refine vc_161_0 xs d s0 a1 a2 _ ?_
  rw [e1b]
  refine ⟨fun h => absurd h (by decide), fun _ => ⟨fun h => absurd h (by decide), fun _ => ⟨fun h => absurd h (by decide), fun _ => ⟨fun _ => ?_, fun h => absurd rfl h⟩⟩⟩⟩
  obtain ⟨c1, c2, c3, c4, c5, c6, c7, c8⟩ := mk_c g1.1 hi
  have hk : ∀ z : Int, z < 8 → z ≠ 2 → z ≠ 3 → (lx_kd (tc T st.1) = z ↔ tc T st.1 = z) := by
    intro z z1 z2 z3
    unfold lx_kd
    split
    · exact Iff.rfl
    · split <;> omega
  rw [g1.2.1.1, c5, hk 4 (by decide) (by decide) (by decide)]
  exact ⟨c1, fun h => ct_149 xs d g1 hi _ (fun s2 w1 w2 => ct_145 xs d w1 (by omega) _ _ _ (fun s3 y1 y2 => ct_145 xs d y1 (by rw [List.length_append]; show G.length + 1 < 240; omega) _ _ _ (fun s4 v1 v2 => ct_146 xs d hd v1 (by rw [List.length_append, List.length_append]; show G.length + 1 + 1 < 240; omega) 5 0 1280 (by decide) _ (fun s5 p1 p2 => h1 h s5 p1 (mE_t g2 (mE_t w2 (mE_t y2 (mE_t v2 p2)))))))), fun h => ct_146 xs d hd g1 (by omega) 4 0 1024 (by decide) _ (fun s3 y1 y2 => ct_145 xs d y1 (by rw [List.length_append]; show G.length + 1 < 240; omega) _ _ _ (fun s4 v1 v2 => h0 h s4 v1 (mE_t g2 (mE_t y2 v2))))⟩
theorem mg_14 (hI : mI T nest st N (G ++ [(14, x)]) s) (hi : st.1 < T.length) (hg : G.length + 2 ≤ 240) (h1 : tc T st.1 = 6 → ∀ s1, mI T nest (pAv T st) N G s1 → mE s s1 → mW xs (d + 1) Q s1) (h0 : ¬ tc T st.1 = 6 → ∀ s1, mI T nest st N (G ++ [(14, 0)] ++ [(2, 0)]) s1 → mE s s1 → mW xs (d + 1) Q s1) : mW xs (d + 1) Q s := by
  refine m_pop xs (d + 1) hI (fun a1 a2 s0 e1 h2 g1 g2 => vc_154_0 xs (d + 1) s0 a1 a2 _ ?_)
  have e1b := e1
  rw [e1]
  refine ⟨fun h => absurd h (by decide), fun _ => ⟨fun h => absurd h (by decide), fun _ => ⟨fun h => absurd h (by decide), fun _ => ⟨fun h => absurd h (by decide), fun _ => ⟨fun h => absurd h (by decide), fun _ => ⟨fun h => absurd h (by decide), fun _ => ⟨fun h => absurd h (by decide), fun _ => ⟨fun h => absurd h (by decide), fun _ => ⟨fun h => absurd h (by decide), fun _ => ⟨fun h => absurd h (by decide), fun _ => ?_⟩⟩⟩⟩⟩⟩⟩⟩⟩⟩
  refine vc_161_0 xs d s0 a1 a2 _ ?_
  rw [e1b]
  refine ⟨fun h => absurd h (by decide), fun _ => ⟨fun h => absurd h (by decide), fun _ => ⟨fun h => absurd h (by decide), fun _ => ⟨fun h => absurd h (by decide), fun _ => ?_⟩⟩⟩⟩
  obtain ⟨c1, c2, c3, c4, c5, c6, c7, c8⟩ := mk_c g1.1 hi
  have hk : ∀ z : Int, z < 8 → z ≠ 2 → z ≠ 3 → (lx_kd (tc T st.1) = z ↔ tc T st.1 = z) := by
    intro z z1 z2 z3
    unfold lx_kd
    split
    · exact Iff.rfl
    · split <;> omega
  rw [g1.2.1.1, c5, hk 6 (by decide) (by decide) (by decide)]
  exact ⟨c1, fun h => ct_149 xs d g1 hi _ (fun s2 w1 w2 => h1 h s2 w1 (mE_t g2 w2)), fun h => ct_145 xs d g1 (by omega) _ _ _ (fun s3 y1 y2 => ct_145 xs d y1 (by rw [List.length_append]; show G.length + 1 < 240; omega) _ _ _ (fun s4 v1 v2 => h0 h s4 v1 (mE_t g2 (mE_t y2 v2))))⟩
theorem mg_18 (hI : mI T nest st N (G ++ [(18, x)]) s) (hi : st.1 < T.length) (hg : G.length + 2 ≤ 240) (h1 : tc T st.1 = 44 → ∀ s1, mI T nest (pAv T st) N (G ++ [(18, x)] ++ [(17, x)]) s1 → mE s s1 → mW xs (d + 1) Q s1) (h0 : ¬ tc T st.1 = 44 → ∀ s1, mI T nest st N G s1 → mE s s1 → mW xs (d + 1) Q s1) : mW xs (d + 1) Q s := by
  refine m_pop xs (d + 1) hI (fun a1 a2 s0 e1 h2 g1 g2 => vc_154_0 xs (d + 1) s0 a1 a2 _ ?_)
  have e1b := e1
  rw [e1]
  refine ⟨fun h => absurd h (by decide), fun _ => ⟨fun h => absurd h (by decide), fun _ => ⟨fun h => absurd h (by decide), fun _ => ⟨fun h => absurd h (by decide), fun _ => ⟨fun h => absurd h (by decide), fun _ => ⟨fun h => absurd h (by decide), fun _ => ⟨fun h => absurd h (by decide), fun _ => ⟨fun h => absurd h (by decide), fun _ => ⟨fun h => absurd h (by decide), fun _ => ⟨fun _ => ⟨fun h => absurd h (by decide), fun _ => ⟨fun h => absurd h (by decide), fun _ => ?_⟩⟩, fun h => absurd (by decide) h⟩⟩⟩⟩⟩⟩⟩⟩⟩⟩
  refine vc_162_0 xs d s0 a1 a2 _ ?_
  rw [e1b]
  refine ⟨fun _ => ?_, fun h => absurd rfl h⟩
  refine ct_147 xs d g1 hi 3 44 44 (isC_s (by decide) (by decide)) (by decide) _ (fun h => ⟨fun h => absurd h (by decide), fun _ => ?_⟩) (fun h => ⟨fun _ => h0 h s0 g1 g2, fun h => absurd rfl h⟩)
  refine ct_149 xs d g1 hi _ (fun s2 w1 w2 => ct_145 xs d w1 (by omega) _ _ _ (fun s3 y1 y2 => ct_145 xs d y1 (by rw [List.length_append]; show G.length + 1 < 240; omega) _ _ _ (fun s4 v1 v2 => h1 h s4 ?_ (mE_t g2 (mE_t w2 (mE_t y2 v2))))))
  rw [h2] at v1
  exact v1
theorem mg_19 (hI : mI T nest st N (G ++ [(19, x)]) s) (hi : st.1 < T.length) (hg : G.length + 2 ≤ 240) (h1 : x = 7 → tc T st.1 = 19 → ∀ s1, mI T nest (pAv T st) N (G ++ [(12, 0)]) s1 → mE s s1 → mW xs (d + 1) Q s1) (h0 : (x = 7 → ¬ tc T st.1 = 19) → ∀ s1, mI T nest st N G s1 → mE s s1 → mW xs (d + 1) Q s1) : mW xs (d + 1) Q s := by
  refine m_pop xs (d + 1) hI (fun a1 a2 s0 e1 h2 g1 g2 => vc_154_0 xs (d + 1) s0 a1 a2 _ ?_)
  have e1b := e1
  rw [e1]
  refine ⟨fun h => absurd h (by decide), fun _ => ⟨fun h => absurd h (by decide), fun _ => ⟨fun h => absurd h (by decide), fun _ => ⟨fun h => absurd h (by decide), fun _ => ⟨fun h => absurd h (by decide), fun _ => ⟨fun h => absurd h (by decide), fun _ => ⟨fun h => absurd h (by decide), fun _ => ⟨fun h => absurd h (by decide), fun _ => ⟨fun h => absurd h (by decide), fun _ => ⟨fun _ => ⟨fun h => absurd h (by decide), fun _ => ⟨fun h => absurd h (by decide), fun _ => ?_⟩⟩, fun h => absurd (by decide) h⟩⟩⟩⟩⟩⟩⟩⟩⟩⟩
  refine vc_162_0 xs d s0 a1 a2 _ ?_
  rw [e1b]
  refine ⟨fun h => absurd h (by decide), fun _ => ⟨fun _ => ?_, fun h => absurd rfl h⟩⟩
  rw [h2]
  refine ⟨fun hx => ct_147 xs d g1 hi 2 4 19 (isC_w (by decide) (by decide)) (by decide) _ (fun h => ⟨fun h => absurd h (by decide), fun _ => ?_⟩) (fun h => ⟨fun _ => h0 (fun _ => h) s0 g1 g2, fun h => absurd rfl h⟩), fun hx => h0 (fun e => absurd e hx) s0 g1 g2⟩
  exact ct_149 xs d g1 hi _ (fun s2 w1 w2 => ct_145 xs d w1 (by omega) _ _ _ (fun s3 y1 y2 => h1 hx h s3 y1 (mE_t g2 (mE_t w2 y2))))
theorem mg_21 {c : Int} (hI : mI T (nest + 1) st N (G ++ [(21, c)]) s) (hi : st.1 < T.length) (hn : nest < 10) (hc : 29 < c) (hc2 : c ≠ 128) (h1 : tc T st.1 = c → ∀ s1, mI T nest (pAv T st) N G s1 → mE s s1 → mW xs (d + 1) Q s1) (h0 : ¬ tc T st.1 = c → ∀ s1, mFl T (20, tb T st.1) s1 → mE s s1 → Q s1) : mW xs (d + 1) Q s := by
  refine m_pop xs (d + 1) hI (fun a1 a2 s0 e1 h2 g1 g2 => vc_154_0 xs (d + 1) s0 a1 a2 _ ?_)
  have e1b := e1
  rw [e1]
  refine ⟨fun h => absurd h (by decide), fun _ => ⟨fun h => absurd h (by decide), fun _ => ⟨fun h => absurd h (by decide), fun _ => ⟨fun h => absurd h (by decide), fun _ => ⟨fun h => absurd h (by decide), fun _ => ⟨fun h => absurd h (by decide), fun _ => ⟨fun h => absurd h (by decide), fun _ => ⟨fun h => absurd h (by decide), fun _ => ⟨fun h => absurd h (by decide), fun _ => ⟨fun _ => ⟨fun h => absurd h (by decide), fun _ => ⟨fun h => absurd h (by decide), fun _ => ?_⟩⟩, fun h => absurd (by decide) h⟩⟩⟩⟩⟩⟩⟩⟩⟩⟩
  refine vc_162_0 xs d s0 a1 a2 _ ?_
  rw [e1b]
  refine ⟨fun h => absurd h (by decide), fun _ => ⟨fun h => absurd h (by decide), fun _ => ⟨fun h => absurd h (by decide), fun _ => ⟨fun h => absurd h (by decide), fun _ => ⟨fun _ => ?_, fun h => absurd rfl h⟩⟩⟩⟩⟩
  refine ct_147 xs d g1 hi 3 a2 c (by rw [h2]; exact isC_s hc hc2) (by omega) _ (fun h => ⟨fun h => absurd h (by decide), fun _ => ?_⟩) (fun h => ⟨fun _ => ct_148 xs d g1 hi 20 _ (fun s1 q1 q2 => m_fl xs (d + 1) q1 fl20 (h0 h s1 q1 (mE_t g2 q2))), fun h => absurd rfl h⟩)
  refine ct_149 xs d g1 hi _ (fun s2 w1 w2 => h1 h _ ?_ (mE_t g2 (mE_t w2 (zE_f (zE_r s2) rfl))))
  obtain ⟨k1, ⟨u1, u2, u3, u4⟩, k3, k4, k5, k6⟩ := w1
  refine ⟨k1, ⟨u1, ?_, u3, u4⟩, k3, k4, k5, k6⟩
  show ((s2.1 25) - 1).toInt = (nest : Int)
  rw [ti_m1 u2 (by omega) (by omega)]
  omega
end MC
