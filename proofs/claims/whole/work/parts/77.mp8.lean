/-! The reference's statements, a step each. -/
theorem kw_w {c w : Int} (h8 : c ≠ 8) (h : 0 < w) (h2 : w < 15) (hk : lx_kd c = 2) (hw : lx_wh c = w) : c = w + 15 := ((isC_w h h2).2 c h8).mp ⟨hk, hw⟩
section MC
variable (xs : Option (List Int32)) (d : Nat) {T : List lxT} {pl : Nat → Int} {nest : Nat} {N : mM} {st : pS} {G : List (Int × Int)} {s : zS} {Q : zS → Prop}
theorem m155 (hI : mI T nest st N G s) (hi : st.1 < T.length) (hg : G.length + 6 ≤ 240) (hw : N.2.1.length < 40) (K : zS → Prop)
  (h17 : tc T st.1 = 17 → ∀ s1, mI T nest (pAv T st) (N.1, N.2.1 ++ [(1, 0, 0, (st.1 : Int), ((st.1 + 2 : Nat) : Int), (st.1 : Int) + 1, -1, -1, -1)], N.2.2) (G ++ [(12, (N.2.1.length : Int))] ++ [(16, 809)] ++ [(11, 0)] ++ [(16, 808)] ++ [(17, 1)]) s1 → mE s s1 → K s1)
  (h16 : tc T st.1 = 16 → ∀ s1, mI T nest (pAv T st) (N.1, N.2.1 ++ [(2, 0, 0, (st.1 : Int), ((st.1 + 2 : Nat) : Int), (st.1 : Int) + 1, -1, -1, -1)], N.2.2) (G ++ [(12, (N.2.1.length : Int))] ++ [(17, 1)]) s1 → mE s s1 → K s1)
  (h22 : tc T st.1 = 22 → ∀ s1, mI T nest (pAv T st) N (G ++ [(19, 7)] ++ [(12, 0)] ++ [(5, 0)]) s1 → mE s s1 → K s1)
  (h29 : tc T st.1 = 29 → ∀ s1, mI T nest (pAv T st) N (G ++ [(19, 14)] ++ [(12, 0)] ++ [(5, 0)]) s1 → mE s s1 → K s1)
  (h20 : tc T st.1 = 20 → ∀ s1, mI T nest (pAv T st) N (G ++ [(12, 0)] ++ [(5, 0)] ++ [(16, 521)] ++ [(17, 1)]) s1 → mE s s1 → K s1)
  (h0 : ¬ tc T st.1 = 17 → ¬ tc T st.1 = 16 → ¬ tc T st.1 = 22 → ¬ tc T st.1 = 29 → ¬ tc T st.1 = 20 → ∀ s1, mI T nest st N (G ++ [(16, 1024)] ++ [(4, 0)]) s1 → mE s s1 → K s1) : zWv xs (d + 3) 155 0 [(0, .ref 32)] s K := by
  obtain ⟨c1, c2, c3, c4, c5, c6, c7, c8⟩ := mk_c hI.1 hi
  have hl : T.length ≤ 420 := by have := hI.1.2.1.2.1; rw [List.length_map] at this; exact this
  have hu := hI.2.1.1
  refine vc_155_0 xs (d + 2) s K ?_
  rw [hu]
  have fin : ∀ (x : Int) (s9 : zS) (G2 : List (Int × Int)) (v : Int32), v.toInt = (N.2.1.length : Int) → mI T nest (pAv T st) (N.1, N.2.1 ++ [(x, 0, 0, (st.1 : Int), (st.1 : Int) + 1, (st.1 : Int) + 1, -1, -1, -1)], N.2.2) G2 s9 → zX (s9.2 46) v.toInt ∧ mI T nest (pAv T st) (N.1, N.2.1 ++ [(x, 0, 0, (st.1 : Int), ((st.1 + 2 : Nat) : Int), (st.1 : Int) + 1, -1, -1, -1)], N.2.2) G2 (za s9 46 (zu (s9.2 46) v.toInt ((s9.1 24) + 1))) := by
    intro x s9 G2 v hv hI9
    obtain ⟨k1, ⟨u1, u2, u3, u4⟩, k3, k4, k5, k6⟩ := hI9
    have k4 : wR (N.2.1 ++ (x, 0, 0, (st.1 : Int), (st.1 : Int) + 1, (st.1 : Int) + 1, -1, -1, -1) :: []) s9 := k4
    have hlen : (N.2.1 ++ (x, 0, 0, (st.1 : Int), (st.1 : Int) + 1, (st.1 : Int) + 1, -1, -1, -1) :: [] : List pSc).length = N.2.1.length + 1 := List.length_append
    obtain ⟨z1, z2, z3, z4, z5⟩ := wR_X (i := v.toInt) k4 (by omega) (by omega)
    have hE : zE [] [46] s9 (za s9 46 (zu (s9.2 46) v.toInt ((s9.1 24) + 1))) := zE_a (zE_r s9) rfl
    have hw := wR_fr k4 hv hE rfl rfl
    have e24 : ((s9.1 24) + 1).toInt = ((st.1 + 2 : Nat) : Int) := ti_inc u1 (by show st.1 + 1 < _; omega)
    rw [e24] at hw
    exact ⟨z1, mkR_E hE rfl rfl rfl rfl rfl k1, ⟨u1, u2, u3, u4⟩, eR_E hE rfl rfl rfl k3, hw, rlR_E hE rfl k5, gR_E hE rfl rfl rfl k6⟩
  by_cases n17 : tc T st.1 = 17
  · rw [c5, c8 (by rw [n17]; decide), n17]
    refine ⟨c1, fun _ => ⟨c4, fun _ => ?_, fun h => absurd (by decide) h⟩, fun h => absurd (by decide) h⟩
    refine ct_151 xs (d + 2) hI hw 1 _ 1 st.1 rfl hu (by omega) (by omega) _ (fun v s1 q0 q1 q2 => ct_149 xs (d + 2) q1 hi _ (fun s2 w1 w2 => ?_))
    refine ct_145 xs (d + 2) w1 (by omega) _ _ _ (fun s3 y1 y2 => ?_)
    rw [q0] at y1
    refine ct_146 xs (d + 2) (by omega) y1 (ap1 (by omega)) 3 41 809 (by decide) _ (fun s4 v1 v2 => ct_145 xs (d + 2) v1 (ap2 (by omega)) _ _ _ (fun s5 p1 p2 => ct_146 xs (d + 2) (by omega) p1 (ap3 (by omega)) 3 40 808 (by decide) _ (fun s6 u1 u2 => ct_145 xs (d + 2) u1 (ap4 (by omega)) _ _ _ (fun s7 t1 t2 => ?_))))
    obtain ⟨f1, f2⟩ := fin 1 s7 _ v q0 t1
    exact ⟨f1, h17 n17 _ f2 (mE_t q2 (mE_t w2 (mE_t y2 (mE_t v2 (mE_t p2 (mE_t u2 (mE_t t2 (zE_a (zE_r s7) rfl))))))))⟩
  by_cases n16 : tc T st.1 = 16
  · rw [c5, c8 (by rw [n16]; decide), n16]
    refine ⟨c1, fun _ => ⟨c4, fun h => absurd h (by decide), fun _ => ⟨fun _ => ?_, fun h => absurd (by decide) h⟩⟩, fun h => absurd (by decide) h⟩
    refine ct_151 xs (d + 2) hI hw 2 _ 2 st.1 rfl hu (by omega) (by omega) _ (fun v s1 q0 q1 q2 => ct_149 xs (d + 2) q1 hi _ (fun s2 w1 w2 => ?_))
    refine ct_145 xs (d + 2) w1 (by omega) _ _ _ (fun s3 y1 y2 => ?_)
    rw [q0] at y1
    refine ct_145 xs (d + 2) y1 (ap1 (by omega)) _ _ _ (fun s4 v1 v2 => ?_)
    obtain ⟨f1, f2⟩ := fin 2 s4 _ v q0 v1
    exact ⟨f1, h16 n16 _ f2 (mE_t q2 (mE_t w2 (mE_t y2 (mE_t v2 (zE_a (zE_r s4) rfl)))))⟩
  by_cases n22 : tc T st.1 = 22
  · have hwv : (zg (s.2 37) (st.1 : Int)).toInt = 7 := by rw [c8 (by rw [n22]; decide), n22]; decide
    rw [c5, n22, hwv]
    refine ⟨c1, fun _ => ⟨c4, fun h => absurd h (by decide), fun _ => ⟨fun h => absurd h (by decide), fun _ => ⟨fun _ => ?_, fun h => absurd (by decide) h⟩⟩⟩, fun h => absurd (by decide) h⟩
    refine ct_149 xs (d + 2) hI hi _ (fun s2 w1 w2 => ct_145 xs (d + 2) w1 (by omega) _ _ _ (fun s3 y1 y2 => ?_))
    rw [hwv] at y1
    exact ct_145 xs (d + 2) y1 (ap1 (by omega)) _ _ _ (fun s4 v1 v2 => ct_145 xs (d + 2) v1 (ap2 (by omega)) _ _ _ (fun s5 p1 p2 => h22 n22 s5 p1 (mE_t w2 (mE_t y2 (mE_t v2 p2)))))
  by_cases n29 : tc T st.1 = 29
  · have hwv : (zg (s.2 37) (st.1 : Int)).toInt = 14 := by rw [c8 (by rw [n29]; decide), n29]; decide
    rw [c5, n29, hwv]
    refine ⟨c1, fun _ => ⟨c4, fun h => absurd h (by decide), fun _ => ⟨fun h => absurd h (by decide), fun _ => ⟨fun h => absurd h (by decide), fun _ => ⟨fun _ => ?_, fun h => absurd (by decide) h⟩⟩⟩⟩, fun h => absurd (by decide) h⟩
    refine ct_149 xs (d + 2) hI hi _ (fun s2 w1 w2 => ct_145 xs (d + 2) w1 (by omega) _ _ _ (fun s3 y1 y2 => ?_))
    rw [hwv] at y1
    exact ct_145 xs (d + 2) y1 (ap1 (by omega)) _ _ _ (fun s4 v1 v2 => ct_145 xs (d + 2) v1 (ap2 (by omega)) _ _ _ (fun s5 p1 p2 => h29 n29 s5 p1 (mE_t w2 (mE_t y2 (mE_t v2 p2)))))
  by_cases n20 : tc T st.1 = 20
  · rw [c5, c8 (by rw [n20]; decide), n20]
    refine ⟨c1, fun _ => ⟨c4, fun h => absurd h (by decide), fun _ => ⟨fun h => absurd h (by decide), fun _ => ⟨fun h => absurd h (by decide), fun _ => ⟨fun h => absurd h (by decide), fun _ => ⟨fun _ => ?_, fun h => absurd (by decide) h⟩⟩⟩⟩⟩, fun h => absurd (by decide) h⟩
    exact ct_149 xs (d + 2) hI hi _ (fun s2 w1 w2 => ct_145 xs (d + 2) w1 (by omega) _ _ _ (fun s3 y1 y2 => ct_145 xs (d + 2) y1 (ap1 (by omega)) _ _ _ (fun s4 v1 v2 => ct_146 xs (d + 2) (by omega) v1 (ap2 (by omega)) 2 9 521 (by decide) _ (fun s5 p1 p2 => ct_145 xs (d + 2) p1 (ap3 (by omega)) _ _ _ (fun s6 u1 u2 => h20 n20 s6 u1 (mE_t w2 (mE_t y2 (mE_t v2 (mE_t p2 u2)))))))))
  have tgt : zWv xs (d + 2) 146 0 [(0, .ref 32), (1, .int 4), (2, .int 0)] s (fun s88 => zWv xs (d + 2) 145 0 [(0, .ref 32), (1, .int 4), (2, .int 0)] s88 (fun s90 => K s90)) := ct_146 xs (d + 2) (by omega) hI (by omega) 4 0 1024 (by decide) _ (fun s3 y1 y2 => ct_145 xs (d + 2) y1 (ap1 (by omega)) _ _ _ (fun s4 v1 v2 => h0 n17 n16 n22 n29 n20 s4 v1 (mE_t y2 v2)))
  rw [c5]
  refine ⟨c1, fun hk => ?_, fun _ => tgt⟩
  have h8 : tc T st.1 ≠ 8 := fun e => by rw [e] at hk; exact absurd hk (by decide)
  rw [c8 h8]
  exact ⟨c4, fun hw => absurd (kw_w h8 (by decide) (by decide) hk hw) n17, fun _ => ⟨fun hw => absurd (kw_w h8 (by decide) (by decide) hk hw) n16, fun _ => ⟨fun hw => absurd (kw_w h8 (by decide) (by decide) hk hw) n22, fun _ => ⟨fun hw => absurd (kw_w h8 (by decide) (by decide) hk hw) n29, fun _ => ⟨fun hw => absurd (kw_w h8 (by decide) (by decide) hk hw) n20, fun _ => tgt⟩⟩⟩⟩⟩
theorem m156 (hT : tkW T pl) (hI : mI T nest st N G s) (hi : st.1 < T.length) (hg : G.length + 6 ≤ 240) (K : zS → Prop)
  (h27 : tc T st.1 = 27 → ∀ s1, mI T nest (pAv T st) N G s1 → mE s s1 → K s1)
  (h21 : tc T st.1 = 21 → ∀ s1, mI T nest (pAv T st) N (G ++ [(18, 4)] ++ [(17, 4)]) s1 → mE s s1 → K s1)
  (h26 : tc T st.1 = 26 → ∀ s1, mI T nest (pAv T st) N (G ++ [(18, 5)] ++ [(17, 5)]) s1 → mE s s1 → K s1)
  (h18 : tc T st.1 = 18 ∨ tc T st.1 = 23 → ∀ s1, mI T nest (pAv T st) N (G ++ [(17, 1)]) s1 → mE s s1 → K s1)
  (h28 : tc T st.1 = 28 → ∀ s1, mE s s1 → ((tc T (st.1 + 1) = 0 ∨ tc T (st.1 + 1) = 1 ∨ tc T (st.1 + 1) = 40 ∨ tc T (st.1 + 1) = 91 ∨ tc T (st.1 + 1) = 25) → mI T nest (pAv T st) N (G ++ [(5, 0)]) s1 → K s1) ∧ (¬ (tc T (st.1 + 1) = 0 ∨ tc T (st.1 + 1) = 1 ∨ tc T (st.1 + 1) = 40 ∨ tc T (st.1 + 1) = 91 ∨ tc T (st.1 + 1) = 25) → mI T nest (pAv T st) N G s1 → K s1))
  (h61 : tc T st.1 = 0 ∧ tc T (st.1 + 1) = 61 → ∀ s1, mI T nest st N (G ++ [(5, 0)] ++ [(16, 829)] ++ [(17, 1)]) s1 → mE s s1 → K s1)
  (h0 : ¬ tc T st.1 = 27 → ¬ tc T st.1 = 21 → ¬ tc T st.1 = 26 → ¬ tc T st.1 = 18 → ¬ tc T st.1 = 23 → ¬ tc T st.1 = 28 → ¬ (tc T st.1 = 0 ∧ tc T (st.1 + 1) = 61) → ∀ s1, mI T nest st N (G ++ [(5, 0)]) s1 → mE s s1 → K s1) : zWv xs (d + 3) 156 0 [(0, .ref 32)] s K := by
  obtain ⟨c1, c2, c3, c4, c5, c6, c7, c8⟩ := mk_c hI.1 hi
  have hu := hI.2.1.1
  refine vc_156_0 xs (d + 2) s K ?_
  rw [hu]
  by_cases n27 : tc T st.1 = 27
  · rw [c5, c8 (by rw [n27]; decide), n27]
    refine ⟨c1, fun _ => ⟨c4, fun _ => ?_, fun h => absurd (by decide) h⟩, fun h => absurd (by decide) h⟩
    exact ct_149 xs (d + 2) hI hi _ (fun s2 w1 w2 => h27 n27 s2 w1 w2)
  by_cases n21 : tc T st.1 = 21
  · rw [c5, c8 (by rw [n21]; decide), n21]
    refine ⟨c1, fun _ => ⟨c4, fun h => absurd h (by decide), fun _ => ⟨fun _ => ?_, fun h => absurd (by decide) h⟩⟩, fun h => absurd (by decide) h⟩
    exact ct_149 xs (d + 2) hI hi _ (fun s2 w1 w2 => ct_145 xs (d + 2) w1 (by omega) _ _ _ (fun s3 y1 y2 => ct_145 xs (d + 2) y1 (ap1 (by omega)) _ _ _ (fun s4 v1 v2 => h21 n21 s4 v1 (mE_t w2 (mE_t y2 v2)))))
  by_cases n26 : tc T st.1 = 26
  · rw [c5, c8 (by rw [n26]; decide), n26]
    refine ⟨c1, fun _ => ⟨c4, fun h => absurd h (by decide), fun _ => ⟨fun h => absurd h (by decide), fun _ => ⟨fun _ => ?_, fun h => absurd (by decide) h⟩⟩⟩, fun h => absurd (by decide) h⟩
    exact ct_149 xs (d + 2) hI hi _ (fun s2 w1 w2 => ct_145 xs (d + 2) w1 (by omega) _ _ _ (fun s3 y1 y2 => ct_145 xs (d + 2) y1 (ap1 (by omega)) _ _ _ (fun s4 v1 v2 => h26 n26 s4 v1 (mE_t w2 (mE_t y2 v2)))))
  by_cases n18 : tc T st.1 = 18
  · rw [c5, c8 (by rw [n18]; decide), n18]
    refine ⟨c1, fun _ => ⟨c4, fun h => absurd h (by decide), fun _ => ⟨fun h => absurd h (by decide), fun _ => ⟨fun h => absurd h (by decide), fun _ => ⟨fun _ => ?_, fun h => absurd (by decide) h⟩⟩⟩⟩, fun h => absurd (by decide) h⟩
    exact ct_149 xs (d + 2) hI hi _ (fun s2 w1 w2 => ct_145 xs (d + 2) w1 (by omega) _ _ _ (fun s3 y1 y2 => h18 (Or.inl n18) s3 y1 (mE_t w2 y2)))
  by_cases n23 : tc T st.1 = 23
  · rw [c5, c8 (by rw [n23]; decide), n23]
    refine ⟨c1, fun _ => ⟨c4, fun h => absurd h (by decide), fun _ => ⟨fun h => absurd h (by decide), fun _ => ⟨fun h => absurd h (by decide), fun _ => ⟨fun h => absurd h (by decide), fun _ => ⟨fun _ => ?_, fun h => absurd (by decide) h⟩⟩⟩⟩⟩, fun h => absurd (by decide) h⟩
    exact ct_149 xs (d + 2) hI hi _ (fun s2 w1 w2 => ct_145 xs (d + 2) w1 (by omega) _ _ _ (fun s3 y1 y2 => h18 (Or.inr n23) s3 y1 (mE_t w2 y2)))
  by_cases n28 : tc T st.1 = 28
  · rw [c5, c8 (by rw [n28]; decide), n28]
    refine ⟨c1, fun _ => ⟨c4, fun h => absurd h (by decide), fun _ => ⟨fun h => absurd h (by decide), fun _ => ⟨fun h => absurd h (by decide), fun _ => ⟨fun h => absurd h (by decide), fun _ => ⟨fun h => absurd h (by decide), fun _ => ⟨fun _ => ?_, fun h => absurd (by decide) h⟩⟩⟩⟩⟩⟩, fun h => absurd (by decide) h⟩
    refine ct_149 xs (d + 2) hI hi _ (fun s2 w1 w2 => ?_)
    have hi1 : (pAv T st).1 < T.length := (tk_nx hT hi n28 (by decide)).1
    obtain ⟨b1, b2, b3, b4, b5, b6, b7, b8⟩ := mk_c w1.1 hi1
    have hk2 : ∀ z : Int, z < 8 → z ≠ 2 → z ≠ 3 → (lx_kd (tc T (st.1 + 1)) = z ↔ tc T (st.1 + 1) = z) := by
      intro z z1 z2 z3
      unfold lx_kd
      split
      · exact Iff.rfl
      · split <;> omega
    have e1 : (pAv T st).1 = st.1 + 1 := rfl
    rw [e1] at b1 b5
    have yes : (tc T (st.1 + 1) = 0 ∨ tc T (st.1 + 1) = 1 ∨ tc T (st.1 + 1) = 40 ∨ tc T (st.1 + 1) = 91 ∨ tc T (st.1 + 1) = 25) → zWv xs (d + 2) 145 0 [(0, .ref 32), (1, .int 5), (2, .int 0)] s2 (fun s70 => K s70) := fun hy => ct_145 xs (d + 2) w1 (by omega) _ _ _ (fun s3 y1 y2 => (h28 n28 s3 (mE_t w2 y2)).1 hy y1)
    refine vc_157_0 xs (d + 1) s2 _ ?_
    rw [w1.2.1.1, e1, b5, hk2 0 (by decide) (by decide) (by decide), hk2 1 (by decide) (by decide) (by decide)]
    refine ⟨b1, fun hz => ⟨fun h => absurd h (by decide), fun _ => yes (Or.inl hz)⟩, fun hz => ⟨fun hz1 => ⟨fun h => absurd h (by decide), fun _ => yes (Or.inr (Or.inl hz1))⟩, fun hz1 => ?_⟩⟩
    refine ct_147 xs (d + 1) w1 hi1 3 40 40 (isC_s (by decide) (by decide)) (by decide) _ (fun h => ⟨fun h => absurd h (by decide), fun _ => ⟨fun h => absurd h (by decide), fun _ => yes (Or.inr (Or.inr (Or.inl h)))⟩⟩) (fun h40 => ⟨fun _ => ?_, fun h => absurd rfl h⟩)
    refine ct_147 xs (d + 1) w1 hi1 3 91 91 (isC_s (by decide) (by decide)) (by decide) _ (fun h => ⟨fun h => absurd h (by decide), fun _ => ⟨fun h => absurd h (by decide), fun _ => yes (Or.inr (Or.inr (Or.inr (Or.inl h))))⟩⟩) (fun h91 => ⟨fun _ => ?_, fun h => absurd rfl h⟩)
    exact ct_147 xs (d + 1) w1 hi1 2 10 25 (isC_w (by decide) (by decide)) (by decide) _ (fun h => ⟨fun h => absurd h (by decide), fun _ => ⟨fun h => absurd h (by decide), fun _ => yes (Or.inr (Or.inr (Or.inr (Or.inr h))))⟩⟩) (fun h25 => ⟨fun _ => ⟨fun _ => (h28 n28 s2 w2).2 (fun hh => by rcases hh with h | h | h | h | h; exact hz h; exact hz1 h; exact h40 h; exact h91 h; exact h25 h) w1, fun h => absurd rfl h⟩, fun h => absurd rfl h⟩)
  have nil : ¬ (tc T st.1 = 0 ∧ tc T (st.1 + 1) = 61) → zWv xs (d + 2) 145 0 [(0, .ref 32), (1, .int 5), (2, .int 0)] s (fun s96 => K s96) := fun hn => ct_145 xs (d + 2) hI (by omega) _ _ _ (fun s3 y1 y2 => h0 n27 n21 n26 n18 n23 n28 hn s3 y1 y2)
  have hk0 : lx_kd (tc T st.1) = 0 ↔ tc T st.1 = 0 := by
    unfold lx_kd
    split
    · exact Iff.rfl
    · split <;> omega
  rw [c5]
  have tail : (lx_kd (tc T st.1) = 0 → (zX (s.2 34) ((st.1 : Int) + 1) ∧ ((zg (s.2 34) ((st.1 : Int) + 1)).toInt = 3 → (zX (s.2 37) ((st.1 : Int) + 1) ∧ ((zg (s.2 37) ((st.1 : Int) + 1)).toInt = 61 → (zWv xs (d + 2) 145 0 [(0, .ref 32), (1, .int 5), (2, .int 0)] s (fun s121 => zWv xs (d + 2) 146 0 [(0, .ref 32), (1, .int 3), (2, .int 61)] s121 (fun s123 => zWv xs (d + 2) 145 0 [(0, .ref 32), (1, .int 17), (2, .int 1)] s123 (fun s125 => K s125))))) ∧ (¬ (zg (s.2 37) ((st.1 : Int) + 1)).toInt = 61 → (zWv xs (d + 2) 145 0 [(0, .ref 32), (1, .int 5), (2, .int 0)] s (fun s128 => K s128))))) ∧ (¬ (zg (s.2 34) ((st.1 : Int) + 1)).toInt = 3 → (zWv xs (d + 2) 145 0 [(0, .ref 32), (1, .int 5), (2, .int 0)] s (fun s131 => K s131))))) ∧ (¬ lx_kd (tc T st.1) = 0 → (zWv xs (d + 2) 145 0 [(0, .ref 32), (1, .int 5), (2, .int 0)] s (fun s134 => K s134))) := by
    rw [hk0]
    refine ⟨fun hz => ?_, fun hz => nil (fun e => hz e.1)⟩
    have hi1 := (tk_nx hT hi hz (by decide)).1
    obtain ⟨f1, f2, f3, f4, f5, f6, f7, f8⟩ := mk_c hI.1 (i := st.1 + 1) hi1
    have ei : (st.1 : Int) + 1 = ((st.1 + 1 : Nat) : Int) := by omega
    rw [ei, f5]
    refine ⟨f1, fun h3 => ⟨f4, fun hw1 => ?_, fun hw1 => nil (fun e => hw1 ?_)⟩, fun h3 => nil (fun e => h3 ?_)⟩
    · have h8 : tc T (st.1 + 1) ≠ 8 := fun e => by rw [e] at h3; exact absurd h3 (by decide)
      rw [f8 h8] at hw1
      have hc := ((isC_s (c := 61) (by decide) (by decide)).2 _ h8).mp ⟨h3, hw1⟩
      exact ct_145 xs (d + 2) hI (by omega) _ _ _ (fun s3 y1 y2 => ct_146 xs (d + 2) (by omega) y1 (ap1 (by omega)) 3 61 829 (by decide) _ (fun s6 u1 u2 => ct_145 xs (d + 2) u1 (ap2 (by omega)) _ _ _ (fun s7 t1 t2 => h61 ⟨hz, hc⟩ s7 t1 (mE_t y2 (mE_t u2 t2)))))
    · rw [f8 (by rw [e.2]; decide), e.2]; decide
    · rw [e.2]; decide
  refine ⟨c1, fun hk => ?_, fun _ => tail⟩
  have h8 : tc T st.1 ≠ 8 := fun e => by rw [e] at hk; exact absurd hk (by decide)
  rw [c8 h8]
  exact ⟨c4, fun hw => absurd (kw_w h8 (by decide) (by decide) hk hw) n27, fun _ => ⟨fun hw => absurd (kw_w h8 (by decide) (by decide) hk hw) n21, fun _ => ⟨fun hw => absurd (kw_w h8 (by decide) (by decide) hk hw) n26, fun _ => ⟨fun hw => absurd (kw_w h8 (by decide) (by decide) hk hw) n18, fun _ => ⟨fun hw => absurd (kw_w h8 (by decide) (by decide) hk hw) n23, fun _ => ⟨fun hw => absurd (kw_w h8 (by decide) (by decide) hk hw) n28, fun _ => tail⟩⟩⟩⟩⟩⟩
end MC
