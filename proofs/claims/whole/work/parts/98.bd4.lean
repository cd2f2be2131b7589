/-! The class's binder: markCells, the settling of all. -/
section BD
variable (xs : Option (List Int32)) (d : Nat) {t : List Int32} {T : List lxT} {L : List pSc} {C : List pOc} {S : List Int}
theorem bR_E {s s1 : zS} (h : zE [] [22, 23] s s1) (hb : bR t T L C s) (h22 : (s1.2 22).length = 100) (h23 : (s1.2 23).length = 100) : bR t T L C s1 := by
  obtain ⟨b1, b2, b3, b4, b5, b6⟩ := hb
  refine ⟨?_, sR_E h rfl rfl rfl rfl b2, oR_E h rfl rfl rfl rfl rfl rfl b3, by rw [h.2 21 rfl]; exact b4, h22, h23⟩
  unfold tX
  rw [h.1 1 rfl, h.2 2 rfl]
  exact b1
theorem spC_E {F A : List Nat} {s s1 : zS} (h : zE F A s s1) (h21 : A.contains 21 = false) (hS : spC t T C S s) : spC t T C S s1 := by
  unfold spC
  rw [h.2 21 h21]
  exact hS
theorem li_g {l : List Int} {a : List Int32} (h : zP 100 l a) {j : Nat} (hj : j < l.length) : zX a (j : Int) ∧ (zg a (j : Int)).toInt = l.getD j 0 := by
  have hl := h.2.1
  refine ⟨zP_X h (by decide) (by omega) (by omega), ?_⟩
  rw [zP_get h (by omega) (by omega), show ((j : Int)).toNat = j by omega]
theorem mp_g {f : pOc → Int} {j : Nat} {x : pOc} (hx : C[j]? = some x) : (C.map f).getD j 0 = f x := by
  rw [List.getD_eq_getElem?_getD, List.getElem?_map, hx]; rfl
/-- sameVariable -/
theorem ct_35 {s : zS} (hS : spC t T C S s) (hO : zP 100 (C.map (of0 t T L C)) (s.2 23)) {i j : Nat} {x y : pOc} (hx : C[i]? = some x) (hy : C[j]? = some y) (hi : i < C.length) (hj : j < C.length) (a1 a2 : Int32) (h1 : a1.toInt = i) (h2 : a2.toInt = j) (Q : Int32 → zS → Prop) (hQ : Q (zb (eqT t T x.1 y.1 && decide (of0 t T L C x = of0 t T L C y))) s) : zWi xs d 35 0 [(0, .ref 17), (1, .int a1), (2, .int a2)] s Q := by
  obtain ⟨s1, s2⟩ := spC_g hS hi
  obtain ⟨s3, s4⟩ := spC_g hS hj
  obtain ⟨o1, o2⟩ := li_g hO (j := i) (by rw [List.length_map]; exact hi)
  obtain ⟨o3, o4⟩ := li_g hO (j := j) (by rw [List.length_map]; exact hj)
  rw [mp_g hx] at o2
  rw [mp_g hy] at o4
  have hsp : S.getD i 0 = S.getD j 0 ↔ eqT t T x.1 y.1 = true := by
    rw [spR_e hS.2.2 (by rw [hS.2.1]; omega) (by rw [hS.2.1]; omega), tkA_x hx, tkA_x hy]
  refine vc_35_0 xs d s a1 a2 Q ?_
  rw [h1, h2, s2, s4, o2, o4]
  refine ⟨s1, s3, fun he => ⟨o1, o3, fun ho => ?_, fun ho => ?_⟩, fun he => ?_⟩
  · rw [hsp.mp he, decide_eq_true ho] at hQ; exact hQ
  · rw [decide_eq_false ho, Bool.and_false] at hQ; exact hQ
  · have : eqT t T x.1 y.1 = false := Bool.eq_false_iff.mpr (fun e => he (hsp.mpr e))
    rw [this, Bool.false_and] at hQ; exact hQ
theorem ct_18l {s : zS} (hb : bR t T L C s) (hS : spC t T C S s) (hO : zP 100 (C.map (of0 t T L C)) (s.2 23)) {K : List Int} (hK : zP 100 K (s.2 22)) (hKl : K.length = C.length) (hK3 : ∀ j y, C[j]? = some y → (K.getD j 0 = 3 ↔ kd0 t T L C y = 3)) {i : Nat} {x : pOc} (hx : C[i]? = some x) (hi : i < C.length) (a1 : Int32) (h1 : a1.toInt = i) (Q : Int32 → zS → Prop) : ∀ (B : List pOc) (j : Nat) (a2 : Int32), C.drop j = B → a2.toInt = j → Q (zb (B.any (usP t T L C x))) s → zWi xs (d + 1) 18 2 [(0, .ref 27), (1, .int a1), (2, .int a2)] s Q := by
  have hoc := hb.2.2.1.1
  have hcl := hb.2.2.1.2.1.2.1
  rw [List.length_map] at hcl
  intro B
  induction B with
  | nil =>
    intro j a2 hj h2 hQ
    have := dr_0 hj
    exact vc_18_2 xs d s a1 a2 Q ⟨fun h => by omega, fun _ => hQ⟩
  | cons y B ih =>
    intro j a2 hj h2 hQ
    obtain ⟨hy, hj2, hjl⟩ := dr_x hj
    obtain ⟨k1, k2⟩ := li_g hK (j := j) (by omega)
    have e2 : (a2 + 1).toInt = ((j + 1 : Nat) : Int) := ti_inc h2 (by omega)
    have no : usP t T L C x y = false → zWi xs (d + 1) 18 2 [(0, .ref 27), (1, .int a1), (2, .int (a2 + 1))] s Q := by
      intro hp
      rw [List.any_cons, hp, Bool.false_or] at hQ
      exact ih (j + 1) (a2 + 1) hj2 e2 hQ
    refine vc_18_2 xs d s a1 a2 Q ⟨fun _ => ?_, fun h => by omega⟩
    rw [h2, k2]
    refine ⟨k1, fun h3 => ct_35 xs d hS hO hx hy hi hjl a1 a2 h1 h2 _ ?_, fun h3 => no ?_⟩
    · have q3 := (hK3 j y hy).mp h3
      have hu : usP t T L C x y = (eqT t T x.1 y.1 && decide (of0 t T L C x = of0 t T L C y)) := by
        unfold usP
        rw [decide_eq_true q3, Bool.true_and]
      cases hr : (eqT t T x.1 y.1 && decide (of0 t T L C x = of0 t T L C y)) with
      | false => exact ⟨fun _ => no (hu.trans hr), fun h => absurd rfl h⟩
      | true =>
        rw [List.any_cons, hu.trans hr, Bool.true_or] at hQ
        exact ⟨fun h => absurd h (by decide), fun _ => hQ⟩
    · have q3 : ¬ kd0 t T L C y = 3 := fun e => h3 ((hK3 j y hy).mpr e)
      unfold usP
      rw [decide_eq_false q3, Bool.false_and]
theorem tk_dr {C : List pOc} {i : Nat} {x : pOc} (hx : C[i]? = some x) : C.drop i = x :: C.drop (i + 1) ∧ C.take (i + 1) = C.take i ++ [x] := by
  have hi : i < C.length := by
    by_cases h : i < C.length
    · exact h
    · rw [List.getElem?_eq_none (by omega)] at hx; cases hx
  have e : C[i] = x := by
    rw [List.getElem?_eq_getElem hi] at hx
    exact Option.some.inj hx
  refine ⟨?_, ?_⟩
  · rw [List.drop_eq_getElem_cons hi, e]
  · rw [List.take_add_one, hx]; rfl
/-- markCells -/
theorem ct_17l (hA : Ax T L C) (Q : zS → Prop) : ∀ (n i : Nat) (s : zS) (a1 : Int32), C.length - i = n → i ≤ C.length → a1.toInt = i → bR t T L C s → spC t T C S s → zP 100 (C.map (of0 t T L C)) (s.2 23) → zP 100 ((C.take i).map (kd1 t T L C) ++ (C.drop i).map (kd0 t T L C)) (s.2 22) → (∀ s1, bR t T L C s1 → spC t T C S s1 → zP 100 (C.map (of0 t T L C)) (s1.2 23) → zP 100 (C.map (kd1 t T L C)) (s1.2 22) → zE [] [22, 23] s s1 → Q s1) → zWv xs (d + 2) 17 2 [(0, .ref 27), (1, .int a1)] s Q := by
  intro n
  induction n with
  | zero =>
    intro i s a1 hn hi h1 hb hS hO hK hQ
    have e : i = C.length := by omega
    subst e
    rw [List.take_length, List.drop_length, List.map_nil, List.append_nil] at hK
    exact vc_17_2 xs (d + 1) s a1 Q ⟨fun h => by have := hb.2.2.1.1; omega, fun _ => hQ s hb hS hO hK (zE_r s)⟩
  | succ n ih =>
    intro i s a1 hn hi h1 hb hS hO hK hQ
    have hoc := hb.2.2.1.1
    have hcl := hb.2.2.1.2.1.2.1
    rw [List.length_map] at hcl
    obtain ⟨x, hx⟩ := ge_x (C := C) (j := i) (by omega)
    obtain ⟨ed, et⟩ := tk_dr hx
    have e1 : (a1 + 1).toInt = ((i + 1 : Nat) : Int) := ti_inc h1 (by omega)
    have hKl : ((C.take i).map (kd1 t T L C) ++ (C.drop i).map (kd0 t T L C)).length = C.length := by
      rw [List.length_append, List.length_map, List.length_map, List.length_take, List.length_drop]; omega
    have hKg : ∀ j y, C[j]? = some y → ((C.take i).map (kd1 t T L C) ++ (C.drop i).map (kd0 t T L C)).getD j 0 = if j < i then kd1 t T L C y else kd0 t T L C y := by
      intro j y hy
      rw [getD_app, List.length_map, List.length_take]
      by_cases hji : j < i
      · rw [if_pos (by omega), if_pos hji, List.getD_eq_getElem?_getD, List.getElem?_map, List.getElem?_take_of_lt hji, hy]; rfl
      · rw [if_neg (by omega), if_neg hji, List.getD_eq_getElem?_getD, List.getElem?_map, List.getElem?_drop, show i + (j - min i C.length) = j by omega, hy]; rfl
    have hK3 : ∀ j y, C[j]? = some y → (((C.take i).map (kd1 t T L C) ++ (C.drop i).map (kd0 t T L C)).getD j 0 = 3 ↔ kd0 t T L C y = 3) := by
      intro j y hy
      rw [hKg j y hy]
      split
      · exact kd1_3
      · exact Iff.rfl
    obtain ⟨k1, k2⟩ := li_g hK (j := i) (by omega)
    rw [hKg i x hx, if_neg (Nat.lt_irrefl i)] at k2
    have same : kd1 t T L C x = kd0 t T L C x → zWv xs (d + 2) 17 2 [(0, .ref 27), (1, .int (a1 + 1))] s Q := by
      intro hsame
      refine ih (i + 1) s (a1 + 1) (by omega) (by omega) e1 hb hS hO ?_ hQ
      rw [et, List.map_append]
      rw [ed] at hK
      rw [List.append_assoc]
      show zP 100 (_ ++ (kd1 t T L C x :: _)) _
      rw [hsame]
      exact hK
    refine vc_17_2 xs (d + 1) s a1 Q ⟨fun _ => ?_, fun h => by omega⟩
    rw [h1, k2]
    refine ⟨k1, fun hk1 => vc_18_0 xs d s a1 _ (ct_18l xs d hb hS hO hK hKl hK3 hx (by omega) a1 h1 _ C 0 0 List.drop_zero rfl ?_), fun hk1 => same ?_⟩
    · cases hu : C.any (usP t T L C x) with
      | false =>
        refine ⟨fun _ => same ?_, fun h => absurd rfl h⟩
        unfold kd1
        rw [if_neg (by rw [hu]; intro e; exact absurd e.2 (by decide))]
      | true =>
        refine ⟨fun h => absurd h (by decide), fun _ => ⟨k1, ?_⟩⟩
        have hk2 : kd1 t T L C x = 2 := by
          unfold kd1
          rw [if_pos ⟨hk1, hu⟩]
        have hE : zE [] [22, 23] s (za s 22 (zu (s.2 22) (i : Int) 2)) := zE_a (zE_r s) rfl
        have hK2 : zP 100 ((C.take (i + 1)).map (kd1 t T L C) ++ (C.drop (i + 1)).map (kd0 t T L C)) (zu (s.2 22) (i : Int) 2) := by
          rw [ed] at hK
          have h9 := zP_mid (v := 2) (i := (i : Int)) (l := (C.take i).map (kd1 t T L C)) hK (by rw [List.length_map, List.length_take]; omega)
          rw [et, List.map_append, List.append_assoc]
          show zP 100 (_ ++ (kd1 t T L C x :: _)) _
          rw [hk2]
          exact h9
        have h22 : ((za s 22 (zu (s.2 22) (i : Int) 2)).2 22).length = 100 := hK2.1
        have h23 : ((za s 22 (zu (s.2 22) (i : Int) 2)).2 23).length = 100 := hO.1
        exact ih (i + 1) (za s 22 (zu (s.2 22) (i : Int) 2)) (a1 + 1) (by omega) (by omega) e1 (bR_E hE hb h22 h23) (spC_E hE rfl hS) hO hK2 (fun s1 g1 g2 g3 g4 g5 => hQ s1 g1 g2 g3 g4 (zE_t hE g5))
    · unfold kd1
      rw [if_neg (fun e => hk1 e.1)]
/-- settling all -/
theorem ct_2l (hd : 5 ≤ d) (hA : Ax T L C) (Q : zS → Prop) : ∀ (n i : Nat) (s : zS) (a2 : Int32), C.length - i = n → i ≤ C.length → a2.toInt = i → bR t T L C s → spC t T C S s → zP 100 ((C.take i).map (kd0 t T L C)) (s.2 22) → zP 100 ((C.take i).map (of0 t T L C)) (s.2 23) → (∀ s1, bR t T L C s1 → spC t T C S s1 → zP 100 (C.map (of0 t T L C)) (s1.2 23) → zP 100 (C.map (kd1 t T L C)) (s1.2 22) → zE [] [22, 23] s s1 → Q s1) → zWv xs (d + 1) 2 18 [(0, .ref 27), (2, .int a2)] s Q := by
  intro n
  induction n with
  | zero =>
    intro i s a2 hn hi h2 hb hS hK hO hQ
    have e : i = C.length := by omega
    subst e
    rw [List.take_length] at hK hO
    obtain ⟨d, rfl⟩ : ∃ e, d = e + 2 := ⟨d - 2, by omega⟩
    refine vc_2_18 xs (d + 2) s a2 Q ⟨fun h => by have := hb.2.2.1.1; omega, fun _ => vc_17_0 xs (d + 1) s _ (ct_17l xs d hA _ _ 0 s 0 rfl (Nat.zero_le _) rfl hb hS hO hK (fun s1 g1 g2 g3 g4 g5 => hQ s1 g1 g2 g3 g4 g5))⟩
  | succ n ih =>
    intro i s a2 hn hi h2 hb hS hK hO hQ
    have hoc := hb.2.2.1.1
    have hcl := hb.2.2.1.2.1.2.1
    rw [List.length_map] at hcl
    obtain ⟨x, hx⟩ := ge_x (C := C) (j := i) (by omega)
    obtain ⟨ed, et⟩ := tk_dr hx
    have e2 : (a2 + 1).toInt = ((i + 1 : Nat) : Int) := ti_inc h2 (by omega)
    have hKl : ((C.take i).map (kd0 t T L C)).length = i := by rw [List.length_map, List.length_take]; omega
    have hOl : ((C.take i).map (of0 t T L C)).length = i := by rw [List.length_map, List.length_take]; omega
    refine vc_2_18 xs d s a2 Q ⟨fun _ => ct_13 xs d hd hb hA hS hK hO (by omega) (x := x) (by rw [hKl]; exact hx) a2 (by rw [hKl]; exact h2) _ (fun s1 g1 g2 g3 => ?_), fun h => by omega⟩
    refine ih (i + 1) s1 (a2 + 1) (by omega) (by omega) e2 (bR_E g3 hb g1.1 g2.1) (spC_E g3 rfl hS) ?_ ?_ (fun s2 q1 q2 q3 q4 q5 => hQ s2 q1 q2 q3 q4 (zE_t g3 q5))
    · rw [et, List.map_append]; exact g1
    · rw [et, List.map_append]; exact g2
end BD
