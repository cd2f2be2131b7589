/-! The reference's rename, whole. -/
/-- omega must not see what stands behind this -/
def fvE (a : Int32) (t : List Int32) (o : pO) (x : pOc) : Prop := a.toInt = fov t (lx t) o.2.2.1 o.2.2.2.2.1 x
theorem fvE_i {a : Int32} {t : List Int32} {o : pO} {x : pOc} (h : fvE a t o x) : a.toInt = fov t (lx t) o.2.2.1 o.2.2.2.2.1 x := h
section RO
variable (xs : Option (List Int32)) (d : Nat) {t : List Int32} {s : zS}
theorem ct_201b (ht : tOk t) {o : pO} (hA : Acc t o) {x : pOc} {e : Int64} (hx : x ∈ o.2.2.2.2.1) (hm : ¬ 200 < rnL t o x e) (a2 a3 a6 a7 a8 : Int32) (h2 : a2.toInt = te (lx t) x.1 - tb (lx t) x.1) (h3 : a3.toInt = (ed_n e 8 : Int)) (h8 : fvE a8 t o x) (Q : Int32 → zS → Prop) : ∀ (j : Nat) (a9 : Int32) (s : zS), j ≤ o.2.2.2.2.1.length → a9.toInt = (j : Int) - 1 → mJ (rnT t (lx t) (sV t (lx t) o.2.2.1 o.2.2.2.2.1 x) e (o.2.2.2.2.1.drop j)) s → nR (lx t) o.2.2.1 o.2.2.2.2.1 s → zP 200 (fsL t o) (s.2 53) → (s.2 32).length = 200 → (∀ (s1 : zS) (b9 : Int32), b9.toInt < 0 → mJ (rnU t o x e) s1 → (s1.2 32).length = 200 → zE [21, 22] [31, 32] s s1 → zWi xs (d + 1) 201 58 [(0, .ref 32), (2, .int a2), (3, .int a3), (4, .long e), (6, .int a6), (7, .int a7), (8, .int a8), (9, .int b9)] s1 Q) → zWi xs (d + 1) 201 58 [(0, .ref 32), (2, .int a2), (3, .int a3), (4, .long e), (6, .int a6), (7, .int a7), (8, .int a8), (9, .int a9)] s Q := by
  have hC := hA.2.2.2.2.1
  intro j
  induction j with
  | zero =>
    intro a9 s hj h9 hI hN p53 l32 hend
    rw [List.drop_zero] at hI
    exact hend s a9 (by omega) hI l32 (zE_r s)
  | succ j ih =>
    intro a9 s hj h9 hI hN p53 l32 hend
    obtain ⟨y, hy, hdr⟩ := dr_j (C := o.2.2.2.2.1) (j := j) (by omega)
    have hym : y ∈ o.2.2.2.2.1 := List.mem_of_getElem? hy
    have h9j : a9.toInt = (j : Int) := by omega
    have e9 : (a9 + (-1)).toInt = (j : Int) - 1 := zm_1 h9j ⟨by omega, by omega⟩
    have hjl : j < (fsL t o).length := by unfold fsL; rw [List.length_map]; exact hj
    have hj1 : j ≤ o.2.2.2.2.1.length := Nat.le_of_succ_le hj
    have hnn : ¬ a9.toInt < 0 := by rw [h9j]; exact Int.not_lt.mpr (Int.natCast_nonneg j)
    obtain ⟨x1, x2⟩ := li_g2 p53 (j := j) hjl
    have x3 : (fsL t o).getD j 0 = fov t (lx t) o.2.2.1 o.2.2.2.2.1 y := mp_g hy
    rw [x3] at x2
    refine vc_201_58 xs d s a2 a3 e a6 a7 a8 a9 Q ⟨fun h => absurd h hnn, fun _ => ?_⟩
    rw [h9j, x2, fvE_i h8]
    refine ⟨x1, fun hs => ?_, fun hs => ?_⟩
    · have hs' := (fov_i hx hym).mp hs
      obtain ⟨c1, c2, _, c6, _⟩ := nm_b hN hA.1 hy (i := (j : Int)) rfl
      obtain ⟨q1, q2⟩ := rn_s ht hA hm hdr hs'
      obtain ⟨b1, b2, b3⟩ := (tkB_lx ht).2 y.1
      have hw := rn_w (x := x) ht y hym hs'
      refine ⟨c1, c2, ct_133 xs d hI.1 l32 q1 q2 _ a2 a3 (by rw [c6]; clear x2 hs x3; omega) (by rw [h2]; clear x2 hs x3; omega) h3 _ (fun s1 k1 k2 k3 z => ?_)⟩
      refine ih _ s1 hj1 e9 ?_ (nR_F z (by decide) (by decide) hN) (by rw [z.2 53 rfl]; exact p53) k3 (fun s2 b9 m1 m2 m3 z2 => hend s2 b9 m1 m2 m3 (zE_t z z2))
      rw [hdr, rnT_p hs']
      exact ⟨k1, mK_1 z hI.2.1, fun h => absurd h (by rw [k2]; decide)⟩
    · have hs' : sV t (lx t) o.2.2.1 o.2.2.2.2.1 x y = false := by
        cases hq : sV t (lx t) o.2.2.1 o.2.2.2.2.1 x y with
        | false => rfl
        | true => exact absurd ((fov_i hx hym).mpr hq) hs
      refine ih _ s hj1 e9 ?_ hN p53 l32 hend
      rw [hdr, rnT_n hs']
      exact hI
/-- renamed -/
theorem ct_201 (hd : 12 ≤ d) (ht : tOk t) {o : pO} (hA : Acc t o) (hI : mJ t s) (hN : nR (lx t) o.2.2.1 o.2.2.2.2.1 s) (l32 : (s.2 32).length = 200) (l33 : (s.2 33).length = 200) (p52 : zP 200 (anL t o) (s.2 52)) (p53 : zP 200 (fsL t o) (s.2 53)) {x : pOc} {e : Int64} {i : Nat} (hx : o.2.2.2.2.1[i]? = some x) (hnm : nmC e 8 0 = true) (hm : ¬ 200 < rnL t o x e) (a1 a2 a3 : Int32) (h1 : a1.toInt = i) (h2 : a2.toInt = te (lx t) x.1 - tb (lx t) x.1) (h3 : a3.toInt = (ed_n e 8 : Int)) (Q : Int32 → zS → Prop) (hy : agr (rnU t o x e) (anL t o) (fsL t o) = true → ∀ s1, mQ (rnU t o x e) s1 → zE mEF2 mEA2 s s1 → Q 1 s1) (hn : agr (rnU t o x e) (anL t o) (fsL t o) = false → ∀ s1, mQ t s1 → zE mEF2 mEA2 s s1 → Q 0 s1) : zWi xs d 201 0 [(0, .ref 32), (1, .int a1), (2, .int a2), (3, .int a3), (4, .long e)] s Q := by
  obtain ⟨d, rfl⟩ : ∃ e, d = e + 1 := ⟨d - 1, by omega⟩
  have h200 := ht.1
  have hC := hA.2.2.2.2.1
  have hi := oi_l hx
  have hxm : x ∈ o.2.2.2.2.1 := List.mem_of_getElem? hx
  have hu : tOk (rnU t o x e) := rn_ok ht hA hnm hm
  have lAn : (anL t o).length = o.2.2.2.2.1.length := List.length_map ..
  have lFs : (fsL t o).length = o.2.2.2.2.1.length := List.length_map ..
  refine vc_201_0 xs d s a1 a2 a3 e Q (ct_201a xs d a1 a2 a3 e (s.1 21) (s.1 32) Q t.length 0 0 s rfl rfl hI.1 l33 (fun k hk => absurd hk (Nat.not_lt_zero k)) (fun s1 b8 k8 ki z1 => ?_))
  have zz1 : zE mEF2 mEA2 s s1 := zE_c z1 (by decide) (by decide)
  have hM1 : tM t s1 := tM_E z1 rfl rfl hI.1
  have hK1 : mK s1 := mK_E z1 (by decide) hI.2.1
  have p531 : zP 200 (fsL t o) (s1.2 53) := by rw [z1.2 53 rfl]; exact p53
  have p521 : zP 200 (anL t o) (s1.2 52) := by rw [z1.2 52 rfl]; exact p52
  have hN1 := nR_F z1 (by decide) (by decide) hN
  obtain ⟨w1, w2⟩ := li_g2 p531 (j := i) (by rw [lFs]; exact hi)
  have w3 : (fsL t o).getD i 0 = fov t (lx t) o.2.2.1 o.2.2.2.2.1 x := mp_g hx
  rw [w3] at w2
  refine vc_201_15 xs d s1 a1 a2 a3 e (s.1 21) (s.1 32) b8 Q ⟨fun h => absurd h k8, fun _ => ?_⟩
  rw [h1]
  have hJ1 : mJ (rnT t (lx t) (sV t (lx t) o.2.2.1 o.2.2.2.2.1 x) e (o.2.2.2.2.1.drop o.2.2.2.2.1.length)) s1 := by
    rw [List.drop_length]
    refine ⟨hM1, hK1, fun h => ?_⟩
    have h' : (s.1 22).toInt = 0 := by rw [← z1.1 22 rfl]; exact h
    obtain ⟨f1, f2, f3⟩ := hI.2.2 h'
    refine ⟨mkR_E z1 rfl rfl rfl rfl rfl f1, fun e2 hr => ?_, fun st2 o2 hr => ?_⟩
    · rw [z1.1 28 rfl, z1.1 29 rfl]; exact f2 e2 hr
    · obtain ⟨g1, g2, g3, g4⟩ := f3 st2 o2 hr
      exact ⟨by rw [z1.1 28 rfl]; exact g1, eR_E z1 rfl rfl rfl g2, nR_F z1 (by decide) (by decide) g3, by unfold eE; rw [z1.1 33 rfl, z1.1 34 rfl]; exact g4⟩
  refine ⟨w1, ct_201b xs d ht hA hxm hm a2 a3 (s.1 21) (s.1 32) _ h2 h3 w2 Q o.2.2.2.2.1.length _ s1 (Nat.le_refl _) (ti_m1 hN.2.2.2.1 (by omega) (by omega)) hJ1 hN1 p531 (by rw [z1.2 32 rfl]; exact l32) (fun s2 b9 k9 hI2 l322 z2 => ?_)⟩
  have zz2 : zE mEF2 mEA2 s s2 := zE_t zz1 (zE_c z2 (by decide) (by decide))
  have i33 : tx_in t (s2.2 33) := by rw [z2.2 33 rfl]; exact ki
  have p522 : zP 200 (anL t o) (s2.2 52) := by rw [z2.2 52 rfl]; exact p521
  have p532 : zP 200 (fsL t o) (s2.2 53) := by rw [z2.2 53 rfl]; exact p531
  -- the text put back
  have back : agr (rnU t o x e) (anL t o) (fsL t o) = false → ∀ s5 : zS, mJ (rnU t o x e) s5 → zE mEF mEA s2 s5 → zWi xs (d + 1) 201 136 [(0, .ref 32), (9, .int 0)] (zf s5 21 (s.1 21)) Q := by
    intro ha s5 hI5 z5
    have i335 : tx_in t (s5.2 33) := by rw [z5.2 33 rfl]; exact i33
    refine ct_201c xs d (t := t) Q t.length 0 0 (zf s5 21 (s.1 21)) rfl rfl hI.1.1 i335 hI5.1.2.1 (fun k hk => absurd hk (Nat.not_lt_zero k)) (fun s6 m1 m2 z6 => hn ha s6 ?_ ?_)
    · have hK5 : mK (zf s5 21 (s.1 21)) := hI5.2.1
      refine ⟨⟨m1, mK_E z6 (by decide) hK5, fun h => absurd h (by rw [m2]; decide)⟩, ?_, ?_, ?_, ?_⟩
      · rw [z6.2 32 rfl]; show (s5.2 32).length = 200; rw [z5.2 32 rfl]; exact l322
      · rw [z6.2 33 rfl]; exact i335.1
      · rw [z6.2 52 rfl]; show (s5.2 52).length = 200; rw [z5.2 52 rfl]; exact p522.1
      · rw [z6.2 53 rfl]; show (s5.2 53).length = 200; rw [z5.2 53 rfl]; exact p532.1
    · have zz5 : zE mEF2 mEA2 s s5 := zE_t zz2 (zE_c z5 (by decide) (by decide))
      have zz55 : zE mEF2 mEA2 s (zf s5 21 (s.1 21)) := zE_f zz5 rfl
      exact zE_t zz55 (zE_c z6 (by decide) (by decide))
  refine vc_201_58 xs d s2 a2 a3 e (s.1 21) (s.1 32) _ b9 Q ⟨fun _ => ct_182 xs d (by omega) hu hI2 _ (fun s5 g5 _ z5 _ hno => ⟨fun _ => back (agr_n hno _ _) s5 g5 z5, fun h => absurd rfl h⟩) (fun s5 st5 o5 g5 _ z5 hr5 hc5 he5 hN5 => ⟨fun h => absurd h (by decide), fun _ => ?_⟩), fun h => absurd k9 h⟩
  have hag := agr_y hr5 he5 (anL t o) (fsL t o)
  rw [hN5.2.2.2.1, hN.2.2.2.1]
  refine ⟨fun hl => ?_, fun hl => back ?_ s5 g5 z5⟩
  · have hL5 : (o5.2.2.1.length : Int) + 1 ≤ 40 := by have := hc5.2.2.2.1; omega
    refine ct_199_1 xs d (by omega) hu g5.1 hN5 hc5.1 hL5 (A := anL t o) (F := fsL t o) (by rw [z5.2 52 rfl]; exact p522) (by rw [z5.2 53 rfl]; exact p532) (by omega) (by omega) _ ?_
    have hzz : decide (o5.2.2.2.2.1.map (rsv (rnU t o x e) (lx (rnU t o x e)) o5.2.2.1 o5.2.2.2.2.1) = anL t o ∧ o5.2.2.2.2.1.map (fov (rnU t o x e) (lx (rnU t o x e)) o5.2.2.1 o5.2.2.2.2.1) = fsL t o) = agr (rnU t o x e) (anL t o) (fsL t o) := hag.symm
    rw [hzz]
    cases hg : agr (rnU t o x e) (anL t o) (fsL t o) with
    | false => exact ⟨fun _ => back hg s5 g5 z5, fun h => absurd rfl h⟩
    | true =>
      refine ⟨fun h => absurd h (by decide), fun _ => hy hg s5 ⟨g5, ?_, ?_, ?_, ?_⟩ (zE_t zz2 (zE_c z5 (by decide) (by decide)))⟩
      · rw [z5.2 32 rfl]; exact l322
      · rw [z5.2 33 rfl]; exact i33.1
      · rw [z5.2 52 rfl]; exact p522.1
      · rw [z5.2 53 rfl]; exact p532.1
  · rw [hag, decide_eq_false]
    intro h
    have := congrArg List.length h.1
    unfold anL at this
    rw [List.length_map, List.length_map] at this
    omega
theorem ct_200l {o : pO} (hA : Acc t o) (h32 : (s.1 32).toInt = (o.2.2.2.2.1.length : Int)) (p53 : zP 200 (fsL t o) (s.2 53)) {x : pOc} {i : Nat} (hx : o.2.2.2.2.1[i]? = some x) (e : Int64) (a4 a5 a7 : Int32) (h4 : a4.toInt = i) (Q : Int32 → zS → Prop) (hend : ∀ b6 b8 : Int32, ¬ b8.toInt < (s.1 32).toInt → b6.toInt = (rnC t o x : Int) → zWi xs (d + 1) 200 81 [(0, .ref 32), (2, .long e), (4, .int a4), (5, .int a5), (6, .int b6), (7, .int a7), (8, .int b8)] s Q) : ∀ (B : List pOc) (j : Nat) (a6 a8 : Int32), o.2.2.2.2.1.drop j = B → a8.toInt = j → 0 ≤ a6.toInt → a6.toInt ≤ j → a6.toInt + (cV (sV t (lx t) o.2.2.1 o.2.2.2.2.1 x) B : Int) = (rnC t o x : Int) → zWi xs (d + 1) 200 81 [(0, .ref 32), (2, .long e), (4, .int a4), (5, .int a5), (6, .int a6), (7, .int a7), (8, .int a8)] s Q := by
  have hC := hA.2.2.2.2.1
  have hi := oi_l hx
  have lFs : (fsL t o).length = o.2.2.2.2.1.length := List.length_map ..
  have hxm : x ∈ o.2.2.2.2.1 := List.mem_of_getElem? hx
  obtain ⟨w1, w2⟩ := li_g2 p53 (j := i) (by omega)
  have w3 : (fsL t o).getD i 0 = fov t (lx t) o.2.2.1 o.2.2.2.2.1 x := mp_g hx
  rw [w3] at w2
  intro B
  induction B with
  | nil =>
    intro j a6 a8 hdr h8 h0 hle hs
    have := dr_0 hdr
    have hs' : a6.toInt + ((0 : Nat) : Int) = (rnC t o x : Int) := hs
    exact hend a6 a8 (by omega) (by omega)
  | cons y B ih =>
    intro j a6 a8 hdr h8 h0 hle hs
    obtain ⟨hy, hd2, hlt⟩ := dr_x hdr
    have hym : y ∈ o.2.2.2.2.1 := List.mem_of_getElem? hy
    have e8 : (a8 + 1).toInt = ((j + 1 : Nat) : Int) := ti_inc h8 (by omega)
    have e6 : (a6 + 1).toInt = a6.toInt + 1 := ti_1 rfl (by omega) (by omega)
    obtain ⟨y1, y2⟩ := li_g2 p53 (j := j) (by omega)
    have y3 : (fsL t o).getD j 0 = fov t (lx t) o.2.2.1 o.2.2.2.2.1 y := mp_g hy
    rw [y3] at y2
    refine vc_200_81 xs d s e a4 a5 a6 a7 a8 Q ⟨fun _ => ?_, fun h => by omega⟩
    rw [h8, h4, w2, y2]
    refine ⟨y1, w1, fun hv => ?_, fun hv => ?_⟩
    · have hs' := (fov_i hxm hym).mp hv
      rw [cV_p hs'] at hs
      exact ih (j + 1) (a6 + 1) (a8 + 1) hd2 e8 (by omega) (by omega) (by omega)
    · have hs' : sV t (lx t) o.2.2.1 o.2.2.2.2.1 x y = false := by
        cases hq : sV t (lx t) o.2.2.1 o.2.2.2.2.1 x y with
        | false => rfl
        | true => exact absurd ((fov_i hxm hym).mpr hq) hv
      rw [cV_n hs'] at hs
      exact ih (j + 1) a6 (a8 + 1) hd2 e8 h0 (by omega) hs
theorem mQ_E {s1 : zS} (z : zE mEF mEA s s1) (hq : mQ t s) (g : mJ t s1) : mQ t s1 := by
  obtain ⟨_, h2, h3, h4, h5⟩ := hq
  exact ⟨g, by rw [z.2 32 rfl]; exact h2, by rw [z.2 33 rfl]; exact h3, by rw [z.2 52 rfl]; exact h4, by rw [z.2 53 rfl]; exact h5⟩
/-- rename -/
theorem mq_200 (hd : 14 ≤ d) (ht : tOk t) (hI : mQ t s) (a : Int32) (e : Int64) (Q : Int32 → zS → Prop) (hQ : ∀ s1, mQ (qRen t a e).2 s1 → zE mEF2 mEA2 s s1 → Q (qRen t a e).1 s1) : zWi xs d 200 0 [(0, .ref 32), (1, .int a), (2, .long e)] s Q := by
  obtain ⟨d, rfl⟩ : ∃ e, d = e + 1 := ⟨d - 1, by omega⟩
  have h200 := ht.1
  refine vc_200_0 xs d s a e Q (ct_183 xs d (by omega) ht hI.1 a _ (fun s1 g1 g2 z1 hn => ct_198 xs d (by omega) e _ (fun v6 h6 => ⟨fun _ => ?_, fun h => absurd (by decide) h⟩)) (fun s1 st o i x v g1 g2 z1 hr hc he hN hv hx hw => ct_198 xs d (by omega) e _ (fun v6 h6 => ⟨fun h => by omega, fun _ => ?_⟩)))
  · rw [qRen_n hn] at hQ
    exact hQ s1 (mQ_E z1 hI g1) (zE_c z1 (by decide) (by decide))
  · rw [qRen_x hr hw] at hQ
    have q1 : mQ t s1 := mQ_E z1 hI g1
    have zz1 : zE mEF2 mEA2 s s1 := zE_c z1 (by decide) (by decide)
    have hm : x ∈ o.2.2.2.2.1 := List.mem_of_getElem? hx
    have hi := oi_l hx
    have hC := hc.2.2.2.2.1
    have hL : (o.2.2.1.length : Int) + 1 ≤ 40 := by have := hc.2.2.2.1; omega
    have hn8 : ed_n e 8 ≤ 8 := ed_n_le e 8
    obtain ⟨b1, b2, b3⟩ := (tkB_lx ht).2 x.1
    cases hnm : nmC e 8 0 with
    | false =>
      rw [hnm, if_neg (by decide)] at h6
      rw [rnX_1 hnm] at hQ
      exact ⟨fun _ => hQ s1 q1 zz1, fun h => absurd (by rw [h6]; rfl) h⟩
    | true =>
      rw [hnm, if_pos rfl] at h6
      have h6t : v6.toInt = (ed_n e 8 : Int) := by rw [h6, ti_nI (by omega)]
      have hpos : 0 < ed_n e 8 := by
        rcases nmC_n e 8 0 hnm with h | h
        · exact absurd rfl h
        · exact h
      refine ⟨fun h => by omega, fun _ => ct_181 xs d (by omega) hN hc.1 g1.1 (tkB_lx ht) hx v hv _ (fun v19 h19 => ?_)⟩
      obtain ⟨kq1, kq2⟩ := kd_b (t := t) hc.1 hL hm
      have hbx := ax_b hc.1 hm
      have hrs := rsv_kd (t := t) hc.1 hL hm
      have h8 : (v19 - v19 / 8 * 8).toInt = kd1 t (lx t) o.2.2.1 o.2.2.2.2.1 x := by
        rw [ti_8 h19 (by omega) (by omega)]
        omega
      rw [h8]
      refine ⟨fun k6 => ?_, fun k6 => ?_⟩
      · rw [rnX_3 hnm k6] at hQ
        exact hQ s1 q1 zz1
      · obtain ⟨c1, c2, c3, c6, c7⟩ := nm_b hN hc.1 hx hv
        refine ⟨c1, c3, c2, ct_199_0 xs d (by omega) ht g1.1 hN hc.1 hL q1.2.2.2.1 q1.2.2.2.2 _ (fun s2 p52 p53 z2 => ?_)⟩
        have zz2 : zE mEF2 mEA2 s s2 := zE_t zz1 (zE_c z2 (by decide) (by decide))
        have hN2 := nR_F z2 (by decide) (by decide) hN
        have hw2 : (zg (s1.2 36) (zg (s1.2 51) v.toInt).toInt - zg (s1.2 35) (zg (s1.2 51) v.toInt).toInt).toInt = te (lx t) x.1 - tb (lx t) x.1 := by
          rw [ti_sub (by rw [c6, c7]; exact ⟨by omega, by omega⟩), c6, c7]
        have hJ2 : mJ t s2 := by
          refine ⟨tM_E z2 rfl rfl g1.1, mK_E z2 (by decide) g1.2.1, fun _ => ?_⟩
          obtain ⟨f1, f2, f3⟩ := g2
          refine ⟨mkR_E z2 rfl rfl rfl rfl rfl f1, fun e2 hr2 => ?_, fun st2 o2 hr2 => ?_⟩
          · rw [z2.1 28 rfl, z2.1 29 rfl]; exact f2 e2 hr2
          · obtain ⟨r1, r2, r3, r4⟩ := f3 st2 o2 hr2
            exact ⟨by rw [z2.1 28 rfl]; exact r1, eR_E z2 rfl rfl rfl r2, nR_F z2 (by decide) (by decide) r3, by unfold eE; rw [z2.1 33 rfl, z2.1 34 rfl]; exact r4⟩
        have q2 : mQ t s2 := ⟨hJ2, by rw [z2.2 32 rfl]; exact q1.2.1, by rw [z2.2 33 rfl]; exact q1.2.2.1, p52.1, p53.1⟩
        refine ct_200l xs d hc hN2.2.2.2.1 p53 hx e v v6 _ hv Q (fun b6 b8 k8 kb => ?_) o.2.2.2.2.1 0 0 0 List.drop_zero rfl (by decide) (by decide) (by rw [show ((0 : Int32)).toInt = 0 by decide, Int.zero_add]; rfl)
        refine vc_200_81 xs d s2 e v v6 b6 _ b8 Q ⟨fun h => absurd h k8, fun _ => ?_⟩
        have esum : (s2.1 21).toInt + b6.toInt * (v6.toInt - (zg (s1.2 36) (zg (s1.2 51) v.toInt).toInt - zg (s1.2 35) (zg (s1.2 51) v.toInt).toInt).toInt) = rnL t o x e := by
          rw [hJ2.1.1, kb, h6t, hw2]
          rfl
        rw [esum]
        refine ⟨rn_rg ht hc x e, fun hfull => ?_, fun hfit => ?_⟩
        · rw [rnX_2 hnm k6 hfull] at hQ
          exact hQ s2 q2 zz2
        · refine ct_201 xs d (by omega) ht hc hJ2 hN2 q2.2.1 q2.2.2.1 p52 p53 hx hnm hfit v _ v6 hv hw2 h6t _ (fun ha s3 k3 z3 => ⟨fun h => absurd h (by decide), fun _ => ?_⟩) (fun ha s3 k3 z3 => ⟨fun _ => ?_, fun h => absurd rfl h⟩)
          · rw [rnX_0 hnm k6 hfit ha] at hQ
            rw [zi_e kb]
            exact hQ s3 k3 (zE_t zz2 z3)
          · rw [rnX_4 hnm k6 hfit ha] at hQ
            exact hQ s3 k3 (zE_t zz2 z3)
end RO
