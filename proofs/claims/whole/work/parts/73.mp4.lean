/-! The reference's steps for expressions and statements. -/
theorem ap1 {G : List (Int × Int)} {a : Int × Int} {n : Nat} (h : G.length + 1 < n) : (G ++ [a]).length < n := by rw [List.length_append]; exact h
theorem ap2 {G : List (Int × Int)} {a b : Int × Int} {n : Nat} (h : G.length + 2 < n) : (G ++ [a] ++ [b]).length < n := by rw [List.length_append, List.length_append]; exact h
theorem ap3 {G : List (Int × Int)} {a b c : Int × Int} {n : Nat} (h : G.length + 3 < n) : (G ++ [a] ++ [b] ++ [c]).length < n := by rw [List.length_append, List.length_append, List.length_append]; exact h
theorem ap4 {G : List (Int × Int)} {a b c e : Int × Int} {n : Nat} (h : G.length + 4 < n) : (G ++ [a] ++ [b] ++ [c] ++ [e]).length < n := by rw [List.length_append, List.length_append, List.length_append, List.length_append]; exact h
section MC
variable (xs : Option (List Int32)) (d : Nat) {T : List lxT} {pl : Nat → Int} {nest : Nat} {N : mM} {st : pS} {G : List (Int × Int)} {s : zS} {Q : zS → Prop} {x : Int}
theorem m5s (hI : mI T nest st N (G ++ [(5, x)]) s) (hi : st.1 < T.length) (hn : nest ≤ 10) (hg : G.length + 6 ≤ 240) (hw : N.2.1.length < 40) (h0 : ¬ tc T st.1 = 25 → ∀ s1, mI T nest st N (G ++ [(6, tb T st.1)] ++ [(7, tb T st.1)] ++ [(8, 0)]) s1 → mE s s1 → mW xs (d + 3) Q s1) (h1 : tc T st.1 = 25 → 10 ≤ nest → ∀ s1, mFl T (21, tb T st.1) s1 → mE s s1 → Q s1) (h2 : tc T st.1 = 25 → ¬ 10 ≤ nest → ∀ s1, mI T (nest + 1) (pAv T st) (N.1, N.2.1 ++ [(3, 0, 0, (st.1 : Int), (st.1 : Int) + 1, (st.1 : Int) + 1, -1, -1, -1)], N.2.2) (G ++ [(6, tb T st.1)] ++ [(15, (N.2.1.length : Int))] ++ [(5, 0)] ++ [(16, 826)] ++ [(11, 0)]) s1 → mE s s1 → mW xs (d + 3) Q s1) : mW xs (d + 3) Q s := by
  refine mg_5 xs (d + 3) hI (fun s0 g1 g2 => vc_158_0 xs (d + 2) s0 _ ?_)
  obtain ⟨c1, c2, c3, c4, c5, c6, c7, c8⟩ := mk_c g1.1 hi
  have hl : T.length ≤ 420 := by have := g1.1.2.1.2.1; rw [List.length_map] at this; exact this
  rw [g1.2.1.1]
  refine ⟨c2, ct_145 xs (d + 2) g1 (by omega) _ _ _ (fun s1 q1 q2 => ?_)⟩
  rw [c6] at q1
  have q3 := mE_t g2 q2
  refine ct_147 xs (d + 2) q1 hi 2 10 25 (isC_w (by decide) (by decide)) (by decide) _ (fun h => ⟨fun h => absurd h (by decide), fun _ => ?_⟩) (fun h => ⟨fun _ => ?_, fun h => absurd rfl h⟩)
  · refine ct_152 xs (d + 2) (by omega) q1 hi hn _ (fun hnn s2 w1 w2 => ⟨fun _ => m_fl xs (d + 3) w1 fl21 (h1 h hnn s2 w1 (mE_t q3 w2)), fun h => absurd rfl h⟩) (fun hnn s2 w1 w2 => ⟨fun h => absurd h (by decide), fun _ => ?_⟩)
    refine ct_151 xs (d + 2) w1 hw 3 _ 3 st.1 rfl q1.2.1.1 (by omega) (by omega) _ (fun v s3 y0 y1 y2 => ?_)
    refine ct_145 xs (d + 2) y1 (ap1 (by omega)) _ _ _ (fun s4 v1 v2 => ?_)
    rw [y0] at v1
    refine ct_145 xs (d + 2) v1 (ap2 (by omega)) _ _ _ (fun s5 p1 p2 => ct_146 xs (d + 2) (by omega) p1 (ap3 (by omega)) 3 58 826 (by decide) _ (fun s6 u1 u2 => ct_145 xs (d + 2) u1 (ap4 (by omega)) _ _ _ (fun s7 t1 t2 => h2 h hnn s7 t1 (mE_t q3 (mE_t w2 (mE_t y2 (mE_t v2 (mE_t p2 (mE_t u2 t2)))))))))
  · refine ct_145 xs (d + 2) q1 (ap1 (by omega)) _ _ _ (fun s4 v1 v2 => ?_)
    rw [c6] at v1
    exact ct_145 xs (d + 2) v1 (ap2 (by omega)) _ _ _ (fun s5 p1 p2 => h0 h s5 p1 (mE_t q3 (mE_t v2 p2)))
theorem m8s (hT : tkW T pl) (hI : mI T nest st N (G ++ [(8, x)]) s) (hi : st.1 < T.length) (hn : nest ≤ 10) (hg : G.length + 6 ≤ 240) (hnm : tc T st.1 = 0 ∨ tc T st.1 = 1 → ∀ s1, mI T nest (pAv T st) N (G ++ [(9, tb T st.1)]) s1 → mE s s1 → mW xs (d + 3) Q s1) (h21 : tc T st.1 = 40 ∨ tc T st.1 = 91 → 10 ≤ nest → ∀ s1, mFl T (21, tb T st.1) s1 → mE s s1 → Q s1) (h40 : tc T st.1 = 40 → ¬ 10 ≤ nest → (tc T (st.1 + 1) = 0 ∧ tc T (st.1 + 2) = 128 → ∀ s1, mI T (nest + 1) (pAv T st) N (G ++ [(9, tb T st.1)] ++ [(21, 41)] ++ [(5, 0)] ++ [(16, 769)] ++ [(17, 3)]) s1 → mE s s1 → mW xs (d + 3) Q s1) ∧ (¬ (tc T (st.1 + 1) = 0 ∧ tc T (st.1 + 2) = 128) → ∀ s1, mI T (nest + 1) (pAv T st) N (G ++ [(9, tb T st.1)] ++ [(21, 41)] ++ [(5, 0)]) s1 → mE s s1 → mW xs (d + 3) Q s1)) (h91 : tc T st.1 = 91 → ¬ 10 ≤ nest → ∀ s1, mI T (nest + 1) (pAv T st) N (G ++ [(9, tb T st.1)] ++ [(21, 93)] ++ [(20, (st.1 : Int))] ++ [(5, 0)]) s1 → mE s s1 → mW xs (d + 3) Q s1) (h20 : ¬ tc T st.1 = 0 → ¬ tc T st.1 = 1 → ¬ tc T st.1 = 40 → ¬ tc T st.1 = 91 → ∀ s1, mFl T (20, tb T st.1) s1 → mE s s1 → Q s1) : mW xs (d + 3) Q s := by
  refine mg_8 xs (d + 3) hI (fun s0 g1 g2 => vc_159_0 xs (d + 2) s0 _ ?_)
  obtain ⟨c1, c2, c3, c4, c5, c6, c7, c8⟩ := mk_c g1.1 hi
  have hk : ∀ z : Int, z < 8 → z ≠ 2 → z ≠ 3 → (lx_kd (tc T st.1) = z ↔ tc T st.1 = z) := by
    intro z z1 z2 z3
    unfold lx_kd
    split
    · exact Iff.rfl
    · split <;> omega
  rw [g1.2.1.1, c5, hk 0 (by decide) (by decide) (by decide), hk 1 (by decide) (by decide) (by decide)]
  have sfx : ∀ (hh : tc T st.1 = 0 ∨ tc T st.1 = 1), zWv xs (d + 2) 149 0 [(0, .ref 32)] s0 (fun s9 => zWv xs (d + 2) 145 0 [(0, .ref 32), (1, .int 9), (2, .int (zg (s0.2 35) (st.1 : Int)))] s9 (fun s11 => mW xs (d + 3) Q s11)) := by
    intro hh
    refine ct_149 xs (d + 2) g1 hi _ (fun s1 q1 q2 => ct_145 xs (d + 2) q1 (by omega) _ _ _ (fun s2 w1 w2 => hnm hh s2 ?_ (mE_t g2 (mE_t q2 w2))))
    rw [c6] at w1
    exact w1
  refine ⟨c2, c1, fun h0 => sfx (Or.inl h0), fun h0 => ⟨fun h1 => sfx (Or.inr h1), fun h1 => ?_⟩⟩
  refine ct_147 xs (d + 2) g1 hi 3 40 40 (isC_s (by decide) (by decide)) (by decide) _ (fun h => ⟨fun h => absurd h (by decide), fun _ => ?_⟩) (fun h => ⟨fun _ => ?_, fun h => absurd rfl h⟩)
  · refine ct_152 xs (d + 2) (by omega) g1 hi hn _ (fun hnn s2 w1 w2 => ⟨fun _ => m_fl xs (d + 3) w1 fl21 (h21 (Or.inl h) hnn s2 w1 (mE_t g2 w2)), fun h => absurd rfl h⟩) (fun hnn s2 w1 w2 => ⟨fun h => absurd h (by decide), fun _ => ?_⟩)
    obtain ⟨hw, hnw⟩ := h40 h hnn
    refine ct_145 xs (d + 2) w1 (by omega) _ _ _ (fun s3 y1 y2 => ?_)
    rw [c6] at y1
    refine ct_145 xs (d + 2) y1 (ap1 (by omega)) _ _ _ (fun s4 v1 v2 => ct_145 xs (d + 2) v1 (ap2 (by omega)) _ _ _ (fun s5 p1 p2 => ?_))
    have hE5 := mE_t g2 (mE_t w2 (mE_t y2 (mE_t v2 p2)))
    have hi1 := (tk_nx hT hi h (by decide)).1
    have e1 : (pAv T st).1 = st.1 + 1 := rfl
    obtain ⟨b1, b2, b3, b4, b5, b6, b7, b8⟩ := mk_c p1.1 (i := st.1 + 1) hi1
    have hk2 : lx_kd (tc T (st.1 + 1)) = 0 ↔ tc T (st.1 + 1) = 0 := by
      unfold lx_kd
      split
      · exact Iff.rfl
      · split <;> omega
    rw [p1.2.1.1, e1, b5, hk2]
    refine ⟨b1, fun hz => ?_, fun hz => hnw (fun e => hz e.1) s5 p1 hE5⟩
    have hi2 := (tk_nx hT hi1 hz (by decide)).1
    obtain ⟨f1, f2, f3, f4, f5, f6, f7, f8⟩ := mk_c p1.1 (i := st.1 + 2) hi2
    have ei : ((st.1 + 1 : Nat) : Int) + 1 = ((st.1 + 2 : Nat) : Int) := by omega
    rw [ei, f5]
    refine ⟨f1, fun h3 => ⟨f4, fun hw1 => ?_, fun hw1 => hnw (fun e => hw1 ?_) s5 p1 hE5⟩, fun h3 => hnw (fun e => h3 ?_) s5 p1 hE5⟩
    · have h8 : tc T (st.1 + 2) ≠ 8 := fun e => by rw [e] at h3; exact absurd h3 (by decide)
      rw [f8 h8] at hw1
      have hc := (isC_1.2 _ h8).mp ⟨h3, hw1⟩
      exact ct_146 xs (d + 2) (by omega) p1 (ap3 (by omega)) 3 1 769 (by decide) _ (fun s6 u1 u2 => ct_145 xs (d + 2) u1 (ap4 (by omega)) _ _ _ (fun s7 t1 t2 => hw ⟨hz, hc⟩ s7 t1 (mE_t hE5 (mE_t u2 t2))))
    · rw [f8 (by rw [e.2]; decide), e.2]; decide
    · rw [e.2]; decide
  · refine ct_147 xs (d + 2) g1 hi 3 91 91 (isC_s (by decide) (by decide)) (by decide) _ (fun h9 => ⟨fun h => absurd h (by decide), fun _ => ?_⟩) (fun h9 => ⟨fun _ => ct_148 xs (d + 2) g1 hi 20 _ (fun s1 q1 q2 => m_fl xs (d + 3) q1 fl20 (h20 h0 h1 h h9 s1 q1 (mE_t g2 q2))), fun h => absurd rfl h⟩)
    refine ct_152 xs (d + 2) (by omega) g1 hi hn _ (fun hnn s2 w1 w2 => ⟨fun _ => m_fl xs (d + 3) w1 fl21 (h21 (Or.inr h9) hnn s2 w1 (mE_t g2 w2)), fun h => absurd rfl h⟩) (fun hnn s2 w1 w2 => ⟨fun h => absurd h (by decide), fun _ => ?_⟩)
    refine ct_145 xs (d + 2) w1 (by omega) _ _ _ (fun s3 y1 y2 => ?_)
    rw [c6] at y1
    refine ct_145 xs (d + 2) y1 (ap1 (by omega)) _ _ _ (fun s4 v1 v2 => ct_145 xs (d + 2) v1 (ap2 (by omega)) _ _ _ (fun s5 p1 p2 => ?_))
    rw [g1.2.1.1] at p1
    exact ct_145 xs (d + 2) p1 (ap3 (by omega)) _ _ _ (fun s6 u1 u2 => h91 h9 hnn s6 u1 (mE_t g2 (mE_t w2 (mE_t y2 (mE_t v2 (mE_t p2 u2))))))
theorem m9s (hT : tkW T pl) (m : List (Int × Int)) (hI : mI T nest st N (G ++ [(9, x)]) s) (hi : st.1 < T.length) (hn : nest ≤ 10) (hg : G.length + 6 ≤ 240) (hs : N.1.length < 1000) (h0 : ¬ tc T st.1 = 40 → ∀ s1, mI T nest st (mMo N (m, [(x, st.2.1)], [], [], [], [])) G s1 → mE s s1 → mW xs (d + 3) Q s1) (h21 : tc T st.1 = 40 → 10 ≤ nest → ∀ s1, mFl T (21, tb T st.1) s1 → mE s s1 → Q s1) (h1 : tc T st.1 = 40 → ¬ 10 ≤ nest → (tc T (st.1 + 1) = 41 → ∀ s1, mI T (nest + 1) (pAv T st) (mMo N (m, [(x, st.2.1)], [], [], [], [])) (G ++ [(9, x)] ++ [(21, 41)]) s1 → mE s s1 → mW xs (d + 3) Q s1) ∧ (¬ tc T (st.1 + 1) = 41 → ∀ s1, mI T (nest + 1) (pAv T st) (mMo N (m, [(x, st.2.1)], [], [], [], [])) (G ++ [(9, x)] ++ [(21, 41)] ++ [(10, 0)] ++ [(5, 0)]) s1 → mE s s1 → mW xs (d + 3) Q s1)) : mW xs (d + 3) Q s := by
  refine mg_9 xs (d + 3) hI (fun a2 s0 h2 g1 g2 => vc_160_0 xs (d + 2) s0 a2 _ ?_)
  refine ct_150 xs (d + 2) g1 hs a2 x h2 m _ (fun s1 q1 q2 => ?_)
  have q3 := mE_t g2 q2
  refine ct_147 xs (d + 2) q1 hi 3 40 40 (isC_s (by decide) (by decide)) (by decide) _ (fun h => ⟨fun h => absurd h (by decide), fun _ => ?_⟩) (fun h => ⟨fun _ => h0 h s1 q1 q3, fun h => absurd rfl h⟩)
  refine ct_152 xs (d + 2) (by omega) q1 hi hn _ (fun hnn s2 w1 w2 => ⟨fun _ => m_fl xs (d + 3) w1 fl21 (h21 h hnn s2 w1 (mE_t q3 w2)), fun h => absurd rfl h⟩) (fun hnn s2 w1 w2 => ⟨fun h => absurd h (by decide), fun _ => ?_⟩)
  obtain ⟨ha, hb⟩ := h1 h hnn
  refine ct_145 xs (d + 2) w1 (by omega) _ _ _ (fun s3 y1 y2 => ?_)
  rw [h2] at y1
  refine ct_145 xs (d + 2) y1 (ap1 (by omega)) _ _ _ (fun s4 v1 v2 => ?_)
  have hE := mE_t q3 (mE_t w2 (mE_t y2 v2))
  have hi1 := (tk_nx hT hi h (by decide)).1
  refine ct_147 xs (d + 2) v1 hi1 3 41 41 (isC_s (by decide) (by decide)) (by decide) _ (fun h => ⟨fun h => absurd h (by decide), fun _ => ha h s4 v1 hE⟩) (fun h => ⟨fun _ => ?_, fun h => absurd rfl h⟩)
  exact ct_145 xs (d + 2) v1 (ap2 (by omega)) _ _ _ (fun s5 p1 p2 => ct_145 xs (d + 2) p1 (ap3 (by omega)) _ _ _ (fun s6 u1 u2 => hb h s6 u1 (mE_t hE (mE_t p2 u2))))
end MC
