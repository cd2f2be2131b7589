/-! The class's rename, whole. -/
theorem agr_n {u : List Int32} (h : ∀ st o, pr u = .inr (st, o) → (erO u o).1 ≠ 0) (A F : List Int) : agr u A F = false := by
  unfold agr
  cases hr : pr u with
  | inl _ => rfl
  | inr q =>
    obtain ⟨st, o⟩ := q
    show (decide ((erO u o).1 = 0) && decide (anL u o = A ∧ fsL u o = F)) = false
    rw [decide_eq_false (h st o hr), Bool.false_and]
theorem agr_y {u : List Int32} {st : pS} {o : pO} (hr : pr u = .inr (st, o)) (he : (erO u o).1 = 0) (A F : List Int) : agr u A F = decide (anL u o = A ∧ fsL u o = F) := by
  unfold agr
  rw [hr]
  show (decide ((erO u o).1 = 0) && decide (anL u o = A ∧ fsL u o = F)) = _
  rw [decide_eq_true he, Bool.true_and]
theorem rnX_1 {t : List Int32} {o : pO} {x : pOc} {e : Int64} (h : nmC e 8 0 = false) : rnX t o x e = (-1, t) := by
  unfold rnX; rw [if_neg (by rw [h]; decide)]
theorem rnX_3 {t : List Int32} {o : pO} {x : pOc} {e : Int64} (h : nmC e 8 0 = true) (h6 : kd1 t (lx t) o.2.2.1 o.2.2.2.2.1 x = 6) : rnX t o x e = (-3, t) := by
  unfold rnX; rw [if_pos h, if_pos h6]
theorem rnX_2 {t : List Int32} {o : pO} {x : pOc} {e : Int64} (h : nmC e 8 0 = true) (h6 : ¬ kd1 t (lx t) o.2.2.1 o.2.2.2.2.1 x = 6) (h2 : 200 < rnL t o x e) : rnX t o x e = (-2, t) := by
  unfold rnX; rw [if_pos h, if_neg h6, if_pos h2]
theorem rnX_4 {t : List Int32} {o : pO} {x : pOc} {e : Int64} (h : nmC e 8 0 = true) (h6 : ¬ kd1 t (lx t) o.2.2.1 o.2.2.2.2.1 x = 6) (h2 : ¬ 200 < rnL t o x e) (ha : agr (rnU t o x e) (anL t o) (fsL t o) = false) : rnX t o x e = (-4, t) := by
  unfold rnX; rw [if_pos h, if_neg h6, if_neg h2, if_neg (by rw [ha]; decide)]
theorem rnX_0 {t : List Int32} {o : pO} {x : pOc} {e : Int64} (h : nmC e 8 0 = true) (h6 : ¬ kd1 t (lx t) o.2.2.1 o.2.2.2.2.1 x = 6) (h2 : ¬ 200 < rnL t o x e) (ha : agr (rnU t o x e) (anL t o) (fsL t o) = true) : rnX t o x e = (zI (rnC t o x : Int), rnU t o x e) := by
  unfold rnX; rw [if_pos h, if_neg h6, if_neg h2, if_pos ha]
section RD
variable (xs : Option (List Int32)) (d : Nat) {t : List Int32} {s : zS}
theorem cQ_E {s1 : zS} (z : zE cEF cEA s s1) (hq : cQ t s) (g : cI t s1) : cQ t s1 := by
  obtain ⟨h1, _, h3, h4, h5, h6, h7⟩ := hq
  exact ⟨h1, g, by rw [z.2 2 rfl]; exact h3, by rw [z.2 27 rfl]; exact h4, by rw [z.2 27 rfl]; exact h5, by rw [z.2 28 rfl]; exact h6, by rw [z.2 29 rfl]; exact h7⟩
theorem rn_rg (ht : tOk t) {o : pO} (hA : Acc t o) (x : pOc) (e : Int64) : zR ((t.length : Int) + (rnC t o x : Int) * ((ed_n e 8 : Int) - (te (lx t) x.1 - tb (lx t) x.1))) := by
  have h200 := ht.1
  have hC := hA.2.2.2.2.1
  have hc := cV_l (sV t (lx t) o.2.2.1 o.2.2.2.2.1 x) o.2.2.2.2.1
  have hn8 : ed_n e 8 ≤ 8 := ed_n_le e 8
  obtain ⟨b1, b2, b3⟩ := (tkB_lx ht).2 x.1
  have := ml_r (c := rnC t o x) (g := (ed_n e 8 : Int) - (te (lx t) x.1 - tb (lx t) x.1)) (by unfold rnC; omega) (by omega) (by omega)
  exact ⟨by omega, by omega⟩
/-- rename -/
theorem cq_124 (hd : 134 ≤ d) (hI : cQ t s) (a : Int32) (e : Int64) (Q : Int32 → zS → Prop) (hQ : ∀ s1, cQ (qRen t a e).2 s1 → zE cEF2 cEA2 s s1 → Q (qRen t a e).1 s1) : zWi xs d 124 0 [(0, .ref 2), (1, .int a), (2, .long e)] s Q := by
  obtain ⟨d, rfl⟩ : ∃ e, d = e + 1 := ⟨d - 1, by omega⟩
  have ht := hI.1
  have h200 := ht.1
  refine vc_124_0 xs d s a e Q (c_go xs d (by omega) ht hI.2.1 _ (fun s1 g1 g2 z1 => ?_))
  have q1 : cQ t s1 := cQ_E z1 hI g1
  have zz1 : zE cEF2 cEA2 s s1 := zE_c z1 (by decide) (by decide)
  refine ct_129 xs d (by omega) ht g2 a _ (fun hn => ⟨fun _ => ?_, fun h => absurd (by decide) h⟩) (fun st o i x v hr hc b he hv hx hw => ⟨fun h => by omega, fun _ => ?_⟩)
  · rw [qRen_n hn] at hQ
    exact hQ s1 q1 zz1
  · rw [qRen_x hr hw] at hQ
    have hvb := vB_b b he
    have hm : x ∈ o.2.2.2.2.1 := List.mem_of_getElem? hx
    have hi := oi_l hx
    have hC := hc.2.2.2.2.1
    have hL : (o.2.2.1.length : Int) + 1 ≤ 40 := by have := hc.2.2.2.1; omega
    obtain ⟨b1, b2, b3⟩ := (tkB_lx ht).2 x.1
    refine ct_22 xs d (by omega) e _ ?_
    cases hnm : nmC e 8 0 with
    | false =>
      rw [rnX_1 hnm] at hQ
      exact ⟨fun _ => hQ s1 q1 zz1, fun h => absurd rfl h⟩
    | true =>
      refine ⟨fun h => absurd h (by decide), fun _ => ?_⟩
      obtain ⟨n1, n2⟩ := li_g hvb.2.2.2 (j := i) (by rw [List.length_map]; exact hi)
      rw [mp_g hx] at n2
      rw [hv, n2]
      refine ⟨n1, fun h6 => ?_, fun h6 => ct_37 xs d (by omega) hvb hx v hv _ (fun v28 k28 => ct_20 xs d (by omega) e _ (vc_31_0 xs d s1 v _ ?_))⟩
      · rw [rnX_3 hnm h6] at hQ
        exact hQ s1 q1 zz1
      · obtain ⟨c1, c2, _, _, _, c6, c7, _⟩ := oR_g hvb.1 hx
        rw [hv]
        refine ⟨c2, c1, ?_⟩
        have hn8 : ed_n e 8 ≤ 8 := ed_n_le e 8
        have hw2 : (zg (s1.2 17) (i : Int) - zg (s1.2 16) (i : Int)).toInt = te (lx t) x.1 - tb (lx t) x.1 := by
          rw [ti_sub (by rw [c6, c7]; exact ⟨by omega, by omega⟩), c6, c7]
        have hX1 := g1.1
        have esum : (s1.1 1).toInt + v28.toInt * ((nI (ed_n e 8)).toInt - (zg (s1.2 17) (i : Int) - zg (s1.2 16) (i : Int)).toInt) = rnL t o x e := by
          rw [hX1.1, k28, hw2, ti_nI (by omega)]
          rfl
        rw [esum]
        refine ⟨rn_rg ht hc x e, fun hfull => ?_, fun hfit => ?_⟩
        · rw [rnX_2 hnm h6 hfull] at hQ
          exact hQ s1 q1 zz1
        · obtain ⟨_, _, f2, f27, l27, l28, l29⟩ := q1
          refine ct_77 xs d (by omega) hX1 f2 f27 l27 l28 l29 hvb hc.1 hL _ (fun s2 m19 m20 mi mf p1 p2 z2 => ?_)
          have zz2 : zE cEF2 cEA2 s s2 := zE_t zz1 (zE_c z2 (by decide) (by decide))
          have f22 : chF (s2.2 2) := by rw [z2.2 2 rfl]; exact f2
          refine ct_125 xs d (by omega) ht hc hx hfit v hv (vB_E z2 rfl (by decide) hvb) (tX_E z2 rfl rfl hX1) f22 _ (fun s3 hX3 f3 z3 => ?_)
          have zz3 : zE cEF2 cEA2 s s3 := zE_t zz2 (zE_c z3 (by decide) (by decide))
          have zz4 : zE cEF2 cEA2 s (zf s3 0 1) := zE_f zz3 rfl
          have hu : tOk (rnU t o x e) := rn_ok ht hc hnm hfit
          have hK3 : cK s3 := cK_E z3 (by decide) (by decide) (cK_E z2 (by decide) (by decide) g1.2.1)
          have z34 : zE [0, 1] [2] s3 (zf s3 0 1) := zE_f (zE_r s3) rfl
          have hI4 : cI (rnU t o x e) (zf s3 0 1) := ⟨hX3, cK_1 z34 hK3, fun h => absurd h (by show ¬ ((1 : Int32)).toInt = 0; decide)⟩
          refine c_go xs d (by omega) hu hI4 _ (fun s5 g5 h5 z5 => ?_)
          have zz5 : zE cEF2 cEA2 s s5 := zE_t zz4 (zE_c z5 (by decide) (by decide))
          have x19 : s5.1 19 = nI t.length := by rw [z5.1 19 rfl]; show s3.1 19 = _; rw [z3.1 19 rfl]; exact m19
          have x20 : (s5.1 20).toInt = (o.2.2.2.2.1.length : Int) := by rw [z5.1 20 rfl]; show (s3.1 20).toInt = _; rw [z3.1 20 rfl]; exact m20
          have a27 : s5.2 27 = s2.2 27 := by rw [z5.2 27 rfl]; show s3.2 27 = _; rw [z3.2 27 rfl]
          have a28 : s5.2 28 = s2.2 28 := by rw [z5.2 28 rfl]; show s3.2 28 = _; rw [z3.2 28 rfl]
          have a29 : s5.2 29 = s2.2 29 := by rw [z5.2 29 rfl]; show s3.2 29 = _; rw [z3.2 29 rfl]
          have a2 : s5.2 2 = s3.2 2 := by rw [z5.2 2 rfl]; rfl
          have f5 : chF (s5.2 2) := by rw [a2]; exact f3
          have mi5 : tx_in t (s5.2 27) := by rw [a27]; exact mi
          have mf5 : chF (s5.2 27) := by rw [a27]; exact mf
          have y28 : (s5.2 28).length = 100 := by rw [a28]; exact p1.1
          have y29 : (s5.2 29).length = 100 := by rw [a29]; exact p2.1
          have back : agr (rnU t o x e) (anL t o) (fsL t o) = false → zWv xs d 78 0 [(0, .ref 28), (1, .ref 3)] s5 (fun s6 => Q (-4) (zf s6 0 1)) := by
            intro ha
            refine ct_78 xs d (by omega) x19 mi5 mf5 f5 g5.1.2.1 _ (fun s6 hX6 f6 z6 => ?_)
            rw [rnX_4 hnm h6 hfit ha] at hQ
            have zz6 : zE cEF2 cEA2 s (zf s6 0 1) := zE_f (zE_t zz5 (zE_c z6 (by decide) (by decide))) rfl
            have z56 : zE [0, 1] [2] s5 (zf s6 0 1) := zE_f (zE_c z6 (by decide) (by decide)) rfl
            exact hQ (zf s6 0 1) ⟨ht, ⟨hX6, cK_1 z56 g5.2.1, fun h => absurd h (by show ¬ ((1 : Int32)).toInt = 0; decide)⟩, f6, by rw [z56.2 27 rfl]; exact mf5, by rw [z56.2 27 rfl]; exact mi5.1, by rw [z56.2 28 rfl]; exact y28, by rw [z56.2 29 rfl]; exact y29⟩ zz6
          refine ct_128 xs d (by omega) hu h5 _ (fun hno => ⟨fun _ => back (agr_n hno _ _), fun h => absurd rfl h⟩) (fun st5 o5 hr5 hc5 b5 he5 => ⟨fun h => absurd h (by decide), fun _ => ?_⟩)
          have hL5 : (o5.2.2.1.length : Int) + 1 ≤ 40 := by have := hc5.2.2.2.1; omega
          refine ct_79 xs d (by omega) (vB_b b5 he5) hc5.1 hL5 x20 (by rw [a28]; exact p1) (by rw [a29]; exact p2) (List.length_map ..) (List.length_map ..) _ ?_
          have hag := agr_y hr5 he5 (anL t o) (fsL t o)
          have hzz : decide (o5.2.2.2.2.1.map (rsv (rnU t o x e) (lx (rnU t o x e)) o5.2.2.1 o5.2.2.2.2.1) = o.2.2.2.2.1.map (rsv t (lx t) o.2.2.1 o.2.2.2.2.1) ∧ o5.2.2.2.2.1.map (fov (rnU t o x e) (lx (rnU t o x e)) o5.2.2.1 o5.2.2.2.2.1) = o.2.2.2.2.1.map (fov t (lx t) o.2.2.1 o.2.2.2.2.1)) = agr (rnU t o x e) (anL t o) (fsL t o) := hag.symm
          rw [hzz]
          cases hg : agr (rnU t o x e) (anL t o) (fsL t o) with
          | false => exact ⟨fun _ => back hg, fun h => absurd rfl h⟩
          | true =>
            refine ⟨fun h => absurd h (by decide), fun _ => ?_⟩
            rw [rnX_0 hnm h6 hfit hg] at hQ
            rw [zi_e (show v28.toInt = (rnC t o x : Int) from k28)]
            exact hQ s5 ⟨hu, g5, f5, mf5, mi5.1, y28, y29⟩ zz5
end RD
