/-! The class's binder: errors. -/
theorem mk_32 : mkM 32 3 3 := mkM_i (by decide) (by decide)
section PU
variable (t : List Int32) (T : List lxT) (L : List pSc) (C : List pOc)
def eo (o : Nat) (x : pOc) : Int := (errs t T L C o x).headD 0
end PU
section ER
variable (xs : Option (List Int32)) (d : Nat) {t : List Int32} {T : List lxT} {L : List pSc} {C : List pOc} {S : List Int} {s : zS}
theorem oi_l {o : Nat} {x : pOc} (hx : C[o]? = some x) : o < C.length := by
  by_cases h : o < C.length
  · exact h
  · rw [List.getElem?_eq_none (by omega)] at hx; cases hx
/-- a declared name's parameters stand before it -/
theorem sm_22 (hA : Ax T L C) {o : Nat} {x : pOc} (hx : C[o]? = some x) (hr : x.2.2.2 = 4 ∨ x.2.2.2 = 8) : sAll t T C x.2.2.1 x.1 2 2 = sm t T C x.2.2.1 x.1 2 2 o := by
  have hol := oi_l hx
  obtain ⟨ed, et⟩ := tk_dr hx
  have hd := hA.dcl
  have hsplit : C = C.take o ++ (x :: C.drop (o + 1)) := by rw [← ed, List.take_append_drop]
  rw [hsplit] at hd
  have hp := (List.pairwise_cons.mp (List.pairwise_append.mp hd).2.1).1
  unfold sAll sm
  rw [List.take_length]
  have e : C.any (smP t T x.2.2.1 x.1 2 2) = ((C.take o).any (smP t T x.2.2.1 x.1 2 2) || (C.drop o).any (smP t T x.2.2.1 x.1 2 2)) := by rw [← List.any_append, List.take_append_drop]
  have e0 : (C.drop o).any (smP t T x.2.2.1 x.1 2 2) = false := by
    rw [ed, List.any_eq_false]
    intro y hy hs
    have h18 : pmr y.2.2.2 = 2 ∧ y.2.2.1 = x.2.2.1 := by
      unfold smP at hs
      rw [Bool.and_eq_true, Bool.and_eq_true, Bool.and_eq_true] at hs
      have q1 := of_decide_eq_true hs.1
      have q2 := of_decide_eq_true hs.2.1
      exact ⟨by omega, of_decide_eq_true hs.2.2.2⟩
    rcases List.mem_cons.mp hy with g | g
    · subst g
      rcases hr with r | r
      · rw [r] at h18; exact absurd h18.1 (by decide)
      · rw [r] at h18; exact absurd h18.1 (by decide)
    · have hyC : y ∈ C := by rw [hsplit]; exact List.mem_append_right _ (List.mem_cons_of_mem _ g)
      have r18 : y.2.2.2 = 18 := by
        rcases hA.rol y hyC with r | r | r | r | r | r | r <;> rw [r] at h18 ⊢ <;> first | rfl | exact absurd h18.1 (by decide)
      exact hp y g r18 hr h18.2.symm
  rw [e, e0, Bool.or_false]
/-- earlierRoles -/
theorem ct_7 (hd : 1 ≤ d) (hb : bR t T L C s) (hA : Ax T L C) (hS : spC t T C S s) {o : Nat} {x : pOc} (hx : C[o]? = some x) (a1 : Int32) (h1 : a1.toInt = o) (Q : Int32 → zS → Prop) (hQ : ∀ v : Int32, (∀ m lo hi, mkM m lo hi → ((v &&& m).toInt = 0 ↔ sm t T C x.2.2.1 x.1 lo hi o = false)) → Q v s) : zWi xs d 7 0 [(0, .ref 27), (1, .int a1)] s Q := by
  obtain ⟨d, rfl⟩ : ∃ e, d = e + 1 := ⟨d - 1, by omega⟩
  have hol := oi_l hx
  obtain ⟨_, _, _, c4, _, _, _, _, c9, _⟩ := oR_g hb.2.2.1 hx
  obtain ⟨s1, s2⟩ := spC_g hS hol
  refine vc_7_0 xs d s a1 Q ?_
  rw [h1]
  refine ⟨c4, s1, ct_34 xs d hb.2.2.1 hA hS o hol x.2.2.1 o (by omega) _ _ a1 c9 s2 h1 _ (fun v hv => hQ v ?_)⟩
  rw [tkA_x hx] at hv
  exact hv
/-- errorOfDeclared -/
theorem ct_8 (hd : 3 ≤ d) (hb : bR t T L C s) (hA : Ax T L C) (hS : spC t T C S s) {o : Nat} {x : pOc} (hx : C[o]? = some x) (hr : x.2.2.2 = 4 ∨ x.2.2.2 = 8) (a1 : Int32) (h1 : a1.toInt = o) (Q : Int32 → zS → Prop) (hQ : ∀ v : Int32, v.toInt = (dclE t T L C o x).headD 0 → Q v s) : zWi xs d 8 0 [(0, .ref 27), (1, .int a1)] s Q := by
  obtain ⟨d, rfl⟩ : ∃ e, d = e + 1 := ⟨d - 1, by omega⟩
  have hol := oi_l hx
  have hm : x ∈ C := List.mem_of_getElem? hx
  have hbx := ax_b hA hm
  obtain ⟨_, _, _, c4, _, _, _, _, c9, _⟩ := oR_g hb.2.2.1 hx
  obtain ⟨s1, s2⟩ := spC_g hS hol
  have h22 := sm_22 (t := t) hA hx hr
  have hsb := srch_b (t := t) hA x.1 x.2.2.1.toNat x.2.2.1 hbx.1 hbx.2
  have tr : ∀ {v m : Int32} {b : Bool}, ((v &&& m).toInt = 0 ↔ b = false) → ¬ (v &&& m).toInt = 0 → b = true := fun {v m b} h g => by
    cases b with
    | true => rfl
    | false => exact absurd (h.mpr rfl) g
  unfold dclE at hQ
  rw [h22] at hQ
  refine vc_8_0 xs d s a1 Q (ct_7 xs d (by omega) hb hA hS hx a1 h1 _ (fun v hv => ct_32 xs d hb.2.2.1 hx (hA.rol x hm) a1 8 h1 mk_8 _ ?_))
  have v16 := hv 16 2 2 mk_16
  have v3 := hv 3 0 3 mk_3
  have v4 := hv 4 4 4 mk_4
  have v8 := hv 8 5 5 mk_8
  rw [h1, c9]
  rcases hr with r | r
  · have hp : pmr x.2.2.2 = 4 := by rw [r]; decide
    rw [hp] at hQ ⊢
    rw [decide_eq_false (p := (5 : Int) ≤ 4 ∧ (4 : Int) ≤ 5) (by decide)]
    refine ⟨fun _ => ⟨c4, fun g16 => ⟨fun g3 => ⟨fun g8 => hQ 0 ?_, fun g8 => hQ 5 ?_⟩, fun g3 => hQ 3 ?_⟩, fun g16 => hQ 2 ?_⟩, fun h => absurd rfl h⟩
    · have q5 : sm t T C x.2.2.1 x.1 (9 - 4) (9 - 4) o = false := v8.mp g8
      rw [v16.mp g16, v3.mp g3, q5]
      simp
    · have q5 : sm t T C x.2.2.1 x.1 (9 - 4) (9 - 4) o = true := tr v8 g8
      rw [v16.mp g16, v3.mp g3, q5]
      simp
    · rw [v16.mp g16, tr v3 g3]
      simp
    · rw [tr v16 g16]
      simp
  · have hp : pmr x.2.2.2 = 5 := by rw [r]; decide
    rw [hp] at hQ ⊢
    rw [decide_eq_true (p := (5 : Int) ≤ 5 ∧ (5 : Int) ≤ 5) (by decide)]
    refine ⟨fun h => absurd h (by decide), fun _ => ⟨c4, fun g16 => ⟨fun g3 => ⟨fun g0 => hQ 4 ?_, fun g0 => ⟨fun g4 => ⟨s1, ct_11 xs d (by omega) hb hA hS o hol _ _ (by rw [c9]; exact hbx.1) (by rw [c9]; exact hbx.2) s2 _ (fun w hw => ?_)⟩, fun g4 => hQ 5 ?_⟩⟩, fun g3 => hQ 3 ?_⟩, fun g16 => hQ 2 ?_⟩⟩
    · rw [v16.mp g16, v3.mp g3, decide_eq_true (p := (5 : Int) = 5 ∧ x.2.2.1 = 0) ⟨rfl, g0⟩]
      simp
    · have q4 : sm t T C x.2.2.1 x.1 (9 - 5) (9 - 5) o = false := v4.mp g4
      rw [c9, tkA_x hx] at hw
      rw [hw]
      refine ⟨fun hneg => hQ 6 ?_, fun hneg => hQ 0 ?_⟩
      · rw [v16.mp g16, v3.mp g3, decide_eq_false (p := (5 : Int) = 5 ∧ x.2.2.1 = 0) (fun e => g0 e.2), q4, decide_eq_true (p := (5 : Int) = 5 ∧ ¬ x.2.2.1 = 0 ∧ srch t T L C x.2.2.1.toNat x.2.2.1 x.1 < 0) ⟨rfl, g0, by omega⟩]
        simp
      · rw [v16.mp g16, v3.mp g3, decide_eq_false (p := (5 : Int) = 5 ∧ x.2.2.1 = 0) (fun e => g0 e.2), q4, decide_eq_false (p := (5 : Int) = 5 ∧ ¬ x.2.2.1 = 0 ∧ srch t T L C x.2.2.1.toNat x.2.2.1 x.1 < 0) (fun e => by omega)]
        simp
    · have q4 : sm t T C x.2.2.1 x.1 (9 - 5) (9 - 5) o = true := tr v4 g4
      rw [v16.mp g16, v3.mp g3, decide_eq_false (p := (5 : Int) = 5 ∧ x.2.2.1 = 0) (fun e => g0 e.2), q4]
      simp
    · rw [v16.mp g16, tr v3 g3]
      simp
    · rw [tr v16 g16]
      simp
theorem ct_73 {ss ps ts : List Int} (hs : sR ss ps ts s) (a : Int32) (h0 : 0 ≤ a.toInt) (h1 : a.toInt < (ss.length : Int)) (Q : Int32 → zS → Prop) (hQ : ∀ v : Int32, v.toInt = ts.getD a.toInt.toNat 0 → Q v s) : zWi xs d 73 0 [(0, .ref 13), (1, .int a)] s Q := by
  obtain ⟨h2, h3, h4, h5, h6, h7⟩ := hs
  have hl := h7.2.1
  refine vc_73_0 xs d s a Q ⟨fun h => by omega, fun _ => ⟨fun _ => ⟨zP_X h7 (by decide) h0 (by omega), hQ _ (zP_get h7 h0 (by omega))⟩, fun h => by omega⟩⟩
theorem ax_tg (hA : Ax T L C) {c : Int} (h0 : 0 ≤ c) (h1 : c < (L.length : Int) + 1) (h4 : (0 :: sS L).getD c.toNat 0 = 4) : ∃ (j : Nat) (y : pOc), ((-1) :: L.map (fun r => r.2.2.1)).getD c.toNat 0 = (j : Int) ∧ C[j]? = some y ∧ (((-1) :: L.map rLp).getD c.toNat 0).toNat = y.1 := by
  have hc : c ≠ 0 := by
    intro e
    subst e
    have : (0 : Int) = 4 := h4
    omega
  obtain ⟨i, hi⟩ : ∃ i, c.toNat = i + 1 := ⟨c.toNat - 1, by omega⟩
  have hil : i < L.length := by omega
  obtain ⟨A, B, r, hL, hAl⟩ : ∃ A B r, L = A ++ r :: B ∧ A.length = i := ⟨L.take i, L.drop (i + 1), L[i], by rw [List.getElem_cons_drop, List.take_append_drop], List.length_take_of_le (by omega)⟩
  have hm : r ∈ L := by rw [hL]; exact List.mem_append_right _ (List.mem_cons_self ..)
  have hmp : ∀ (f : pSc → Int) (z : Int), (z :: L.map f).getD c.toNat 0 = f r := by
    intro f z
    rw [hi]
    show (L.map f).getD i 0 = _
    rw [hL, List.map_append, getD_app, if_neg (by rw [List.length_map]; omega), List.length_map, hAl, Nat.sub_self]
    rfl
  have hr4 : r.1 = 4 := by
    have := hmp (fun r => r.1) 0
    unfold sS at h4
    rw [this] at h4
    exact h4
  obtain ⟨j, y, g1, g2, g3⟩ := hA.tgt r hm hr4
  refine ⟨j, y, by rw [hmp]; exact g1, g2, ?_⟩
  rw [hmp, ← g3]
  omega
/-- bindsTarget -/
theorem ct_10l (hd : 1 ≤ d) (hb : bR t T L C s) (hA : Ax T L C) (hS : spC t T C S s) {o : Nat} {x : pOc} (hx : C[o]? = some x) (a1 : Int32) (h1 : a1.toInt = o) (Q : Int32 → zS → Prop) : ∀ (k : Nat) (a2 a3 : Int32), 0 ≤ a2.toInt → a2.toInt < (L.length : Int) + 1 → a3.toInt + k = (L.length : Int) + 1 → 0 ≤ a3.toInt → Q (zb (tgB t T L k a2.toInt x.1)) s → zWi xs (d + 1) 10 12 [(0, .ref 27), (1, .int a1), (2, .int a2), (3, .int a3)] s Q := by
  have hol := oi_l hx
  have hsl : (0 :: sS L).length = L.length + 1 := by rw [List.length_cons, sS_l]
  have h6 : (s.1 6).toInt = ((0 :: sS L).length : Int) := hb.2.1.1
  have h32 : (0 :: sS L).length ≤ 32 := hb.2.1.2.2.2.1.2.1
  obtain ⟨s1, s2⟩ := spC_g hS hol
  intro k
  induction k with
  | zero =>
    intro a2 a3 g0 g1 g2 g3 hQ
    exact vc_10_12 xs d s a1 a2 a3 Q ⟨fun h => by omega, fun _ => hQ⟩
  | succ k ih =>
    intro a2 a3 g0 g1 g2 g3 hQ
    have e3 : (a3 + 1).toInt = a3.toInt + 1 := ti_1 rfl (by omega) (by omega)
    refine vc_10_12 xs d s a1 a2 a3 Q ⟨fun _ => ct_71b xs d hb.2.1 a2 g0 (by omega) _ (fun v hv => ?_), fun h => by omega⟩
    rw [hv]
    refine ⟨fun h4 => ?_, fun h4 => ?_⟩
    · obtain ⟨j, y, t1, t2, t3⟩ := ax_tg hA g0 g1 h4
      have hjl := oi_l t2
      obtain ⟨q1, q2⟩ := spC_g hS hjl
      have hp0 : 0 < a2.toInt := by
        by_cases e : a2.toInt = 0
        · rw [e] at h4
          have : (0 : Int) = 4 := h4
          omega
        · omega
      obtain ⟨p1, p2⟩ := ax_ps hA hp0 g1
      have etg : tgB t T L (k + 1) a2.toInt x.1 = (eqT t T y.1 x.1 || tgB t T L k ((0 :: sP L).getD a2.toInt.toNat 0) x.1) := by
        rw [tgB, if_pos h4, t3]
      have hsp : S.getD j 0 = S.getD o 0 ↔ eqT t T y.1 x.1 = true := by
        rw [spR_e hS.2.2 (by rw [hS.2.1]; omega) (by rw [hS.2.1]; omega), tkA_x hx, tkA_x t2]
      refine ct_73 xs d hb.2.1 a2 g0 (by omega) _ (fun w hw => ?_)
      rw [t1] at hw
      refine ⟨fun h => by omega, fun _ => ?_⟩
      rw [hw, h1, q2, s2]
      refine ⟨q1, s1, fun he => ?_, fun he => ct_72 xs d hb.2.1 a2 g0 (by omega) _ (fun u hu => ?_)⟩
      · rw [etg, hsp.mp he, Bool.true_or] at hQ; exact hQ
      · have hne : eqT t T y.1 x.1 = false := Bool.eq_false_iff.mpr (fun e => he (hsp.mpr e))
        rw [← hu] at p1 p2 etg
        refine ih u (a3 + 1) p1 (by omega) (by omega) (by omega) ?_
        rw [etg, hne, Bool.false_or] at hQ
        exact hQ
    · rw [tgB, if_neg h4] at hQ
      exact hQ
/-- errorOfWalrus -/
theorem ct_9 (hd : 3 ≤ d) (hb : bR t T L C s) (hA : Ax T L C) (hS : spC t T C S s) {o : Nat} {x : pOc} (hx : C[o]? = some x) (hw : wal x) (a1 : Int32) (h1 : a1.toInt = o) (Q : Int32 → zS → Prop) (hQ : ∀ v : Int32, v.toInt = (wlE t T L x).headD 0 → Q v s) : zWi xs d 9 0 [(0, .ref 27), (1, .int a1)] s Q := by
  obtain ⟨d, rfl⟩ : ∃ e, d = e + 1 := ⟨d - 1, by omega⟩
  have hol := oi_l hx
  have hm : x ∈ C := List.mem_of_getElem? hx
  have hbx := ax_b hA hm
  have hlx := ax_l hA hm
  have hsl : (0 :: sS L).length = L.length + 1 := by rw [List.length_cons, sS_l]
  obtain ⟨_, _, c3, c4, c5, _, _, c8, c9, c10⟩ := oR_g hb.2.2.1 hx
  have h98 : x.2.2.2 = 98 ↔ L.any (fun r => inS r (x.1 : Int)) = true := by
    rw [hA.src x hm hw, List.any_eq_true]
  have tail : ∀ b8 : Bool, b8 = false → decide ((0 :: sS L).getD x.2.1.toNat 0 = 4 ∧ (0 :: sS L).getD x.2.2.1.toNat 0 = 2) = b8 → zWi xs d 10 0 [(0, .ref 27), (1, .int a1)] s (fun v22 s20 => (v22.toInt = 0 → (zWi xs d 32 0 [(0, .ref 17), (1, .int a1), (2, .int 64)] s20 (fun v29 s27 => (v29.toInt = 0 → (Q 0 s27)) ∧ (¬ v29.toInt = 0 → (Q 10 s27))))) ∧ (¬ v22.toInt = 0 → (Q 9 s20))) := by
    intro b8 hb8 hdec
    subst hb8
    unfold wlE at hQ
    rw [hdec] at hQ
    obtain ⟨d, rfl⟩ : ∃ e, d = e + 1 := ⟨d - 1, by omega⟩
    refine vc_10_0 xs d s a1 _ ?_
    rw [h1]
    refine ⟨c3, ct_10l xs d (by omega) hb hA hS hx a1 h1 _ (L.length + 1) _ 0 (by omega) (by omega) (by show (0 : Int) + _ = _; omega) (by decide) ?_⟩
    rw [c8]
    cases htg : tgB t T L (L.length + 1) x.2.1 x.1 with
    | true =>
      refine ⟨fun h => absurd h (by decide), fun _ => hQ 9 ?_⟩
      rw [htg]
      simp
    | false =>
      refine ⟨fun _ => vc_32_0 xs (d + 1) s a1 64 _ ?_, fun h => absurd rfl h⟩
      rw [h1]
      rw [htg] at hQ
      have hval : (zg (s.2 20) (o : Int)) = 34 ∨ (zg (s.2 20) (o : Int)) = 98 := by
        rcases hw with r | r
        · exact Or.inl (ti_ext (by rw [c10, r]; decide))
        · exact Or.inr (ti_ext (by rw [c10, r]; decide))
      rcases hval with r | r
      · have hn : ¬ x.2.2.2 = 98 := by rw [← c10, r]; decide
        have ha : L.any (fun r => inS r (x.1 : Int)) = false := Bool.eq_false_iff.mpr (fun e => hn (h98.mpr e))
        rw [ha] at hQ
        rw [r]
        exact ⟨c5, fun _ => ⟨fun _ => hQ 0 (by simp), fun h => absurd rfl h⟩, fun h => absurd (by decide) h⟩
      · have hn : x.2.2.2 = 98 := by rw [← c10, r]; decide
        rw [h98.mp hn] at hQ
        rw [r]
        exact ⟨c5, fun h => absurd h (by decide), fun _ => ⟨fun h => absurd h (by decide), fun _ => hQ 10 (by simp)⟩⟩
  refine vc_9_0 xs d s a1 Q ?_
  rw [h1]
  refine ⟨c3, ct_71b xs d hb.2.1 _ (by omega) (by omega) _ (fun v hv => ?_)⟩
  rw [c8] at hv
  rw [hv]
  refine ⟨fun h4 => ⟨c4, ct_71b xs d hb.2.1 _ (by omega) (by omega) _ (fun u hu => ?_)⟩, fun h4 => tail false rfl (decide_eq_false (fun e => h4 e.1))⟩
  rw [c9] at hu
  rw [hu]
  refine ⟨fun h2 => hQ 8 ?_, fun h2 => tail false rfl (decide_eq_false (fun e => h2 e.2))⟩
  unfold wlE
  rw [decide_eq_true ⟨h4, h2⟩]
  simp
/-- errorOf -/
theorem ct_6 (hd : 4 ≤ d) (hb : bR t T L C s) (hA : Ax T L C) (hS : spC t T C S s) {o : Nat} {x : pOc} (hx : C[o]? = some x) (a1 : Int32) (h1 : a1.toInt = o) (Q : Int32 → zS → Prop) (hQ : ∀ v : Int32, v.toInt = eo t T L C o x → Q v s) : zWi xs d 6 0 [(0, .ref 27), (1, .int a1)] s Q := by
  obtain ⟨d, rfl⟩ : ∃ e, d = e + 1 := ⟨d - 1, by omega⟩
  have hm : x ∈ C := List.mem_of_getElem? hx
  have hrl := hA.rol x hm
  unfold eo errs at hQ
  refine vc_6_0 xs d s a1 Q (ct_32 xs d hb.2.2.1 hx hrl a1 16 h1 mk_16 _ ?_)
  by_cases p2 : pmr x.2.2.2 = 2
  · rw [decide_eq_true (p := (2 : Int) ≤ pmr x.2.2.2 ∧ pmr x.2.2.2 ≤ 2) (by omega)]
    rw [decide_eq_true p2, decide_eq_false (p := (4 : Int) ≤ pmr x.2.2.2) (by omega), decide_eq_false (p := pmr x.2.2.2 = 3) (by omega)] at hQ
    refine ⟨fun h => absurd h (by decide), fun _ => ct_7 xs d (by omega) hb hA hS hx a1 h1 _ (fun v hv => ?_)⟩
    have v16 := hv 16 2 2 mk_16
    refine ⟨fun g => hQ 0 ?_, fun g => hQ 1 ?_⟩
    · rw [v16.mp g]; simp
    · have : sm t T C x.2.2.1 x.1 2 2 o = true := by
        cases e : sm t T C x.2.2.1 x.1 2 2 o with
        | true => rfl
        | false => exact absurd (v16.mpr e) g
      rw [this]; simp
  · rw [decide_eq_false (p := (2 : Int) ≤ pmr x.2.2.2 ∧ pmr x.2.2.2 ≤ 2) (by omega)]
    rw [decide_eq_false p2] at hQ
    refine ⟨fun _ => ct_32 xs d hb.2.2.1 hx hrl a1 12 h1 mk_12 _ ?_, fun h => absurd rfl h⟩
    by_cases p4 : 4 ≤ pmr x.2.2.2
    · have hr : x.2.2.2 = 4 ∨ x.2.2.2 = 8 := by
        rcases hrl with r | r | r | r | r | r | r <;> rw [r] at p4 ⊢ <;> revert p4 <;> decide
      have p5 : pmr x.2.2.2 ≤ 5 := by rcases hr with r | r <;> rw [r] <;> decide
      rw [decide_eq_true (p := (4 : Int) ≤ pmr x.2.2.2 ∧ pmr x.2.2.2 ≤ 5) ⟨p4, p5⟩]
      rw [decide_eq_true p4, decide_eq_false (p := pmr x.2.2.2 = 3) (by omega)] at hQ
      refine ⟨fun h => absurd h (by decide), fun _ => ct_8 xs d (by omega) hb hA hS hx hr a1 h1 _ (fun v hv => hQ v ?_)⟩
      rw [hv]
      simp
    · rw [decide_eq_false (p := (4 : Int) ≤ pmr x.2.2.2 ∧ pmr x.2.2.2 ≤ 5) (by omega)]
      rw [decide_eq_false p4] at hQ
      refine ⟨fun _ => ct_32 xs d hb.2.2.1 hx hrl a1 32 h1 mk_32 _ ?_, fun h => absurd rfl h⟩
      by_cases p3 : pmr x.2.2.2 = 3
      · have hw : wal x := (pmr_3 hrl).mp p3
        rw [decide_eq_true (p := (3 : Int) ≤ pmr x.2.2.2 ∧ pmr x.2.2.2 ≤ 3) (by omega)]
        rw [decide_eq_true p3] at hQ
        refine ⟨fun h => absurd h (by decide), fun _ => ct_9 xs d (by omega) hb hA hS hx hw a1 h1 _ (fun v hv => hQ v ?_)⟩
        rw [hv]
        simp
      · rw [decide_eq_false (p := (3 : Int) ≤ pmr x.2.2.2 ∧ pmr x.2.2.2 ≤ 3) (by omega)]
        rw [decide_eq_false p3] at hQ
        exact ⟨fun _ => hQ 0 (by simp), fun h => absurd rfl h⟩
end ER
