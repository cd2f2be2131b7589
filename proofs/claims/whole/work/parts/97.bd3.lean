/-! The class's binder: isKnown, settle, markCells. -/
section PU
variable (t : List Int32) (T : List lxT) (L : List pSc) (C : List pOc)
def kd0 (x : pOc) : Int := if mnt t T L C x / 64 = 5 then (if kno t T C x.1 = true then 5 else 6) else mnt t T L C x / 64
def of0 (x : pOc) : Int := mnt t T L C x % 64
def usP (x y : pOc) : Bool := decide (kd0 t T L C y = 3) && (eqT t T x.1 y.1 && decide (of0 t T L C x = of0 t T L C y))
def kd1 (x : pOc) : Int := if kd0 t T L C x = 1 ∧ C.any (usP t T L C x) = true then 2 else kd0 t T L C x
end PU
theorem any_congr2 {l : List pOc} {p q : pOc → Bool} (h : ∀ y ∈ l, p y = q y) : l.any p = l.any q := by
  induction l with
  | nil => rfl
  | cons x l ih => rw [List.any_cons, List.any_cons, h x (List.mem_cons_self ..), ih (fun y hy => h y (List.mem_cons_of_mem _ hy))]
section RP
variable {t : List Int32} {T : List lxT} {L : List pSc} {C : List pOc}
theorem sm_e {sc lo hi : Int} {i j e : Nat} (h : eqT t T i j = true) : sm t T C sc i lo hi e = sm t T C sc j lo hi e := by
  have h1 := of_decide_eq_true h
  unfold sm smP eqT
  rw [h1]
theorem kd0_3 (hA : Ax T L C) (hL : (L.length : Int) + 1 ≤ 40) {x : pOc} (hx : x ∈ C) : kd0 t T L C x = 3 ↔ mnt t T L C x / 64 = 3 := by
  unfold kd0
  split
  · rename_i h
    split <;> omega
  · exact Iff.rfl
theorem kd1_3 {x : pOc} : kd1 t T L C x = 3 ↔ kd0 t T L C x = 3 := by
  unfold kd1
  split
  · rename_i h; omega
  · exact Iff.rfl
/-- kind and whose together answer as the reference does -/
theorem rsv_kd (hA : Ax T L C) (hL : (L.length : Int) + 1 ≤ 40) {x : pOc} (hx : x ∈ C) : kd1 t T L C x + 8 * of0 t T L C x + 512 * x.2.2.1 = rsv t T L C x := by
  unfold rsv of0
  congr 2
  have hb := ax_b hA hx
  have hs := srch_b (t := t) hA x.1 x.2.2.1.toNat x.2.2.1 hb.1 hb.2
  by_cases h1 : mnt t T L C x / 64 = 1
  · have k0 : kd0 t T L C x = 1 := by unfold kd0; rw [if_neg (by omega)]; exact h1
    have hmx : mnt t T L C x = 64 + x.2.2.1 := by
      revert h1
      unfold mnt
      split
      · intro h; omega
      · split
        · intro h; omega
        · split
          · intro _; rfl
          · split
            · intro h; omega
            · intro h; omega
    have hany : C.any (usP t T L C x) = C.any (frP t T L C x) := by
      have hp : ∀ y ∈ C, usP t T L C x y = frP t T L C x y := by
        intro y hy
        have hby := ax_b hA hy
        have hsy := srch_b (t := t) hA y.1 y.2.2.1.toNat y.2.2.1 hby.1 hby.2
        have k3 := kd0_3 (t := t) hA hL hy
        have hmb := mnt_b (t := t) hA hL hy
        have heq : eqT t T x.1 y.1 = eqT t T y.1 x.1 := by
          unfold eqT
          rw [decide_eq_decide]
          exact ⟨fun e => e.symm, fun e => e.symm⟩
        unfold usP frP
        rw [heq]
        cases he : eqT t T y.1 x.1 with
        | false => rw [Bool.false_and, Bool.false_and, Bool.and_false]
        | true =>
          rw [Bool.true_and, Bool.true_and]
          by_cases hm : mnt t T L C y = 192 + mnt t T L C x % 64
          · have q1 : kd0 t T L C y = 3 := k3.mpr (by omega)
            have q2 : of0 t T L C x = of0 t T L C y := by unfold of0; omega
            have q3 : ¬ y.2.2.1 = x.2.2.1 := by
              intro e
              have hmy : mnt t T L C y = 192 + srch t T L C y.2.2.1.toNat y.2.2.1 y.1 := by
                have h3 : mnt t T L C y / 64 = 3 := by omega
                revert h3
                unfold mnt
                split
                · intro h; omega
                · split
                  · intro h; omega
                  · split
                    · intro h; omega
                    · split
                      · intro h; omega
                      · intro _; rfl
              omega
            rw [decide_eq_true q1, decide_eq_true q2, decide_eq_false q3, decide_eq_true hm]
            rfl
          · rw [decide_eq_false hm, Bool.and_false]
            by_cases q1 : kd0 t T L C y = 3
            · have q3 := k3.mp q1
              rw [decide_eq_true q1, decide_eq_false (p := of0 t T L C x = of0 t T L C y) (by unfold of0; omega)]
              rfl
            · rw [decide_eq_false q1, Bool.false_and]
      exact any_congr2 hp
    rw [if_pos h1, ← hany]
    unfold kd1
    by_cases hu : C.any (usP t T L C x) = true
    · rw [if_pos ⟨k0, hu⟩, if_pos hu]
    · rw [if_neg (fun e => hu e.2), if_neg hu, k0]
  · have k1 : kd1 t T L C x = kd0 t T L C x := by
      unfold kd1
      rw [if_neg]
      intro e
      have e1 := e.1
      unfold kd0 at e1
      split at e1
      · split at e1 <;> omega
      · omega
    rw [k1, if_neg h1]
    rfl
end RP
section BD
variable (xs : Option (List Int32)) (d : Nat) {t : List Int32} {T : List lxT} {L : List pSc} {C : List pOc} {S : List Int} {s : zS}
/-- isOfModule -/
theorem ct_16 (hd : 1 ≤ d) (hb : bR t T L C s) (hA : Ax T L C) (hS : spC t T C S s) {j : Nat} {y : pOc} (hy : C[j]? = some y) (a : Int32) (h1 : a.toInt = j) (Q : Int32 → zS → Prop) (hQ : Q (zb (decide (y.2.2.1 = 0) || sAll t T C y.2.2.1 y.1 4 4)) s) : zWi xs d 16 0 [(0, .ref 27), (1, .int a)] s Q := by
  obtain ⟨d, rfl⟩ : ∃ e, d = e + 1 := ⟨d - 1, by omega⟩
  have hjl : j < C.length := by
    by_cases h : j < C.length
    · exact h
    · rw [List.getElem?_eq_none (by omega)] at hy; cases hy
  obtain ⟨_, _, _, c4, _, _, _, _, c9, _⟩ := oR_g hb.2.2.1 hy
  obtain ⟨s1, s2⟩ := spC_g hS hjl
  refine vc_16_0 xs d s a Q ?_
  rw [h1]
  refine ⟨c4, s1, ct_34 xs d hb.2.2.1 hA hS j hjl y.2.2.1 C.length (Nat.le_refl _) _ _ _ c9 s2 hb.2.2.1.1 _ (fun v hv => ?_)⟩
  have hv4 : (v &&& 4).toInt = 0 ↔ sAll t T C y.2.2.1 (tkA C j) 4 4 = false := hv 4 4 4 mk_4
  rw [tkA_x hy] at hv4
  rw [c9]
  refine ⟨fun h => ?_, fun h => ⟨fun g => ?_, fun g => ?_⟩⟩
  · rw [decide_eq_true h, Bool.true_or] at hQ; exact hQ
  · rw [decide_eq_false h, hv4.mp g] at hQ; exact hQ
  · have e : sAll t T C y.2.2.1 y.1 4 4 = true := by
      cases e : sAll t T C y.2.2.1 y.1 4 4 with
      | true => rfl
      | false => exact absurd (hv4.mpr e) g
    rw [e, Bool.or_true] at hQ; exact hQ
theorem ct_15l (hd : 2 ≤ d) (hb : bR t T L C s) (hA : Ax T L C) (hS : spC t T C S s) (k : Nat) (hk : k < C.length) (a1 : Int32) (h1 : a1.toInt = S.getD k 0) (Q : Int32 → zS → Prop) : ∀ (B : List pOc) (j : Nat) (a2 : Int32), C.drop j = B → a2.toInt = j → Q (zb (B.any (knP t T C (tkA C k)))) s → zWi xs (d + 1) 15 2 [(0, .ref 27), (1, .int a1), (2, .int a2)] s Q := by
  have hoc := hb.2.2.1.1
  have hcl := hb.2.2.1.2.1.2.1
  rw [List.length_map] at hcl
  intro B
  induction B with
  | nil =>
    intro j a2 hj h2 hQ
    have := dr_0 hj
    exact vc_15_2 xs d s a1 a2 Q ⟨fun h => by omega, fun _ => hQ⟩
  | cons y B ih =>
    intro j a2 hj h2 hQ
    obtain ⟨hy, hj2, hjl⟩ := dr_x hj
    have hm : y ∈ C := List.mem_of_getElem? hy
    obtain ⟨s1, s2⟩ := spC_g hS hjl
    have e2 : (a2 + 1).toInt = ((j + 1 : Nat) : Int) := ti_inc h2 (by omega)
    have hsp : S.getD j 0 = S.getD k 0 ↔ eqT t T y.1 (tkA C k) = true := by
      rw [spR_e hS.2.2 (by rw [hS.2.1]; omega) (by rw [hS.2.1]; omega), tkA_x hy]
    have no : knP t T C (tkA C k) y = false → zWi xs (d + 1) 15 2 [(0, .ref 27), (1, .int a1), (2, .int (a2 + 1))] s Q := by
      intro hp
      rw [List.any_cons, hp, Bool.false_or] at hQ
      exact ih (j + 1) (a2 + 1) hj2 e2 hQ
    obtain ⟨d, rfl⟩ : ∃ e, d = e + 1 := ⟨d - 1, by omega⟩
    refine vc_15_2 xs (d + 1) s a1 a2 Q ⟨fun _ => vc_33_0 xs d s a2 _ (ct_32 xs d hb.2.2.1 hy (hA.rol y hm) a2 2 h2 mk_2 _ ⟨zb_b _, ?_⟩), fun h => by omega⟩
    by_cases hbn : 1 ≤ pmr y.2.2.2 ∧ pmr y.2.2.2 ≤ 3
    · rw [decide_eq_true hbn, h2, s2, h1]
      refine ⟨fun h => absurd h (by decide), fun _ => ⟨s1, fun he => ct_16 xs (d + 1) (by omega) hb hA hS hy a2 h2 _ ?_, fun he => no ?_⟩⟩
      · have hq := hsp.mp he
        have hsme : sAll t T C y.2.2.1 y.1 4 4 = sAll t T C y.2.2.1 (tkA C k) 4 4 := sm_e hq
        have hk2 : knP t T C (tkA C k) y = (decide (y.2.2.1 = 0) || sAll t T C y.2.2.1 y.1 4 4) := by
          unfold knP
          rw [decide_eq_true hbn, hq, hsme]; rfl
        cases hr : (decide (y.2.2.1 = 0) || sAll t T C y.2.2.1 y.1 4 4) with
        | false => exact ⟨fun _ => no (hk2.trans hr), fun h => absurd rfl h⟩
        | true =>
          rw [List.any_cons, hk2.trans hr, Bool.true_or] at hQ
          exact ⟨fun h => absurd h (by decide), fun _ => hQ⟩
      · have : eqT t T y.1 (tkA C k) = false := Bool.eq_false_iff.mpr (fun e => he (hsp.mpr e))
        unfold knP
        rw [this, Bool.false_and, Bool.and_false]
    · rw [decide_eq_false hbn]
      refine ⟨fun _ => no ?_, fun h => absurd rfl h⟩
      unfold knP
      rw [decide_eq_false hbn, Bool.false_and]
/-- isKnown -/
theorem ct_15 (hd : 3 ≤ d) (hb : bR t T L C s) (hA : Ax T L C) (hS : spC t T C S s) (k : Nat) (hk : k < C.length) (a1 : Int32) (h1 : a1.toInt = S.getD k 0) (Q : Int32 → zS → Prop) (hQ : Q (zb (kno t T C (tkA C k))) s) : zWi xs d 15 0 [(0, .ref 27), (1, .int a1)] s Q := by
  obtain ⟨d, rfl⟩ : ∃ e, d = e + 1 := ⟨d - 1, by omega⟩
  exact vc_15_0 xs d s a1 Q (ct_15l xs d (by omega) hb hA hS k hk a1 h1 Q C 0 0 List.drop_zero rfl hQ)
/-- stand -/
theorem ct_14 {K O : List Int} (hK : zP 100 K (s.2 22)) (hO : zP 100 O (s.2 23)) (hl : O.length = K.length) (hk : K.length < 100) (a1 a2 a3 : Int32) (h1 : a1.toInt = K.length) (Q : zS → Prop) (hQ : ∀ s1, zP 100 (K ++ [a2.toInt]) (s1.2 22) → zP 100 (O ++ [a3.toInt]) (s1.2 23) → zE [] [22, 23] s s1 → Q s1) : zWv xs d 14 0 [(0, .ref 27), (1, .int a1), (2, .int a2), (3, .int a3)] s Q :=
  vc_14_0 xs d s a1 a2 a3 Q ⟨zP_X hK (by decide) (by omega) (by omega), zP_X hO (by decide) (by omega) (by omega), hQ _ (zP_add hK h1 hk) (zP_add hO (by omega) (by omega)) (zE_a (zE_a (zE_r s) rfl) rfl)⟩
/-- settle -/
theorem ct_13 (hd : 5 ≤ d) (hb : bR t T L C s) (hA : Ax T L C) (hS : spC t T C S s) {K O : List Int} (hK : zP 100 K (s.2 22)) (hO : zP 100 O (s.2 23)) (hl : O.length = K.length) {x : pOc} (hx : C[K.length]? = some x) (a1 : Int32) (h1 : a1.toInt = K.length) (Q : zS → Prop) (hQ : ∀ s1, zP 100 (K ++ [kd0 t T L C x]) (s1.2 22) → zP 100 (O ++ [of0 t T L C x]) (s1.2 23) → zE [] [22, 23] s s1 → Q s1) : zWv xs d 13 0 [(0, .ref 27), (1, .int a1)] s Q := by
  obtain ⟨d, rfl⟩ : ∃ e, d = e + 1 := ⟨d - 1, by omega⟩
  have hjl : K.length < C.length := by
    by_cases h : K.length < C.length
    · exact h
    · rw [List.getElem?_eq_none (by omega)] at hx; cases hx
  have hcl := hb.2.2.1.2.1.2.1
  rw [List.length_map] at hcl
  have hm : x ∈ C := List.mem_of_getElem? hx
  have hbx := ax_b hA hm
  have hsl : (0 :: sS L).length = L.length + 1 := by rw [List.length_cons, sS_l]
  have h32 : (0 :: sS L).length ≤ 32 := hb.2.1.2.2.2.1.2.1
  obtain ⟨_, _, _, c4, _, _, _, _, c9, _⟩ := oR_g hb.2.2.1 hx
  obtain ⟨s1, s2⟩ := spC_g hS hjl
  have stnd : ∀ (a2 a3 : Int32), a2.toInt = kd0 t T L C x → a3.toInt = of0 t T L C x → zWv xs d 14 0 [(0, .ref 27), (1, .int a1), (2, .int a2), (3, .int a3)] s (fun s30 => Q s30) := by
    intro a2 a3 q2 q3
    refine ct_14 xs d hK hO hl (by omega) a1 a2 a3 h1 _ (fun s1 g1 g2 g3 => hQ s1 ?_ ?_ g3)
    · rw [← q2]; exact g1
    · rw [← q3]; exact g2
  have hsb := srch_b (t := t) hA x.1 x.2.2.1.toNat x.2.2.1 hbx.1 hbx.2
  refine vc_13_0 xs d s a1 Q ?_
  rw [h1]
  refine ⟨c4, s1, ct_34 xs d hb.2.2.1 hA hS K.length hjl x.2.2.1 C.length (Nat.le_refl _) _ _ _ c9 s2 hb.2.2.1.1 _ (fun v hv => ?_)⟩
  have hv4 : (v &&& 4).toInt = 0 ↔ sAll t T C x.2.2.1 (tkA C K.length) 4 4 = false := hv 4 4 4 mk_4
  have hv2 : (v &&& 2).toInt = 0 ↔ sAll t T C x.2.2.1 (tkA C K.length) 1 3 = false := hv 2 1 3 mk_2
  have hv12 := hv 12 4 5 mk_12
  rw [tkA_x hx] at hv4 hv2 hv12
  have e1 : (zg (s.2 19) (K.length : Int)).toInt = x.2.2.1 := c9
  rw [c9]
  have lost : mnt t T L C x = 320 → zWi xs d 15 0 [(0, .ref 27), (1, .int (zg (s.2 21) (K.length : Int)))] s (fun v25 s23 => (v25.toInt = 0 → (zWv xs d 14 0 [(0, .ref 27), (1, .int a1), (2, .int 6), (3, .int 0)] s23 (fun s30 => Q s30))) ∧ (¬ v25.toInt = 0 → (zWv xs d 14 0 [(0, .ref 27), (1, .int a1), (2, .int 5), (3, .int 0)] s23 (fun s33 => Q s33)))) := by
    intro h320
    refine ct_15 xs d (by omega) hb hA hS K.length hjl _ s2 _ ?_
    rw [tkA_x hx]
    cases hk : kno t T C x.1 with
    | false =>
      refine ⟨fun _ => stnd 6 0 ?_ ?_, fun h => absurd rfl h⟩
      · unfold kd0; rw [h320, hk]; decide
      · unfold of0; rw [h320]; decide
    | true =>
      refine ⟨fun h => absurd h (by decide), fun _ => stnd 5 0 ?_ ?_⟩
      · unfold kd0; rw [h320, hk]; decide
      · unfold of0; rw [h320]; decide
  have fnd : sAll t T C x.2.2.1 x.1 4 4 = false → ¬ (¬ x.2.2.1 = 0 ∧ sAll t T C x.2.2.1 x.1 5 5 = false ∧ sAll t T C x.2.2.1 x.1 1 3 = true) → zWi xs d 11 0 [(0, .ref 27), (1, .int (zg (s.2 19) (K.length : Int))), (2, .int (zg (s.2 21) (K.length : Int)))] s (fun v18 s16 => (v18.toInt = (-1) → (zWi xs d 15 0 [(0, .ref 27), (1, .int (zg (s.2 21) (K.length : Int)))] s16 (fun v25 s23 => (v25.toInt = 0 → (zWv xs d 14 0 [(0, .ref 27), (1, .int a1), (2, .int 6), (3, .int 0)] s23 (fun s30 => Q s30))) ∧ (¬ v25.toInt = 0 → (zWv xs d 14 0 [(0, .ref 27), (1, .int a1), (2, .int 5), (3, .int 0)] s23 (fun s33 => Q s33)))))) ∧ (¬ v18.toInt = (-1) → (zWv xs d 14 0 [(0, .ref 27), (1, .int a1), (2, .int 3), (3, .int v18)] s16 (fun s36 => Q s36)))) := by
    intro q4 q0
    refine ct_11 xs d (by omega) hb hA hS K.length hjl _ _ (by rw [c9]; exact hbx.1) (by rw [c9]; exact hbx.2) s2 _ (fun w hw => ?_)
    rw [c9, tkA_x hx] at hw
    have hmw : mnt t T L C x = if w.toInt < 0 then 320 else 192 + w.toInt := by
      unfold mnt
      rw [if_neg (by rw [q4]; decide)]
      by_cases z : x.2.2.1 = 0
      · rw [if_pos z]
        have : w.toInt = -1 := by rw [hw, z]; rfl
        rw [if_pos (by omega)]
      · rw [if_neg z, if_neg (fun e => q0 ⟨z, e.1, e.2⟩), hw]
    refine ⟨fun hm1 => lost (by rw [hmw, if_pos (by omega)]), fun hm1 => stnd 3 w ?_ ?_⟩
    · unfold kd0
      rw [hmw, if_neg (show ¬ w.toInt < 0 by omega), if_neg (by omega)]
      show (3 : Int) = _
      omega
    · unfold of0
      rw [hmw, if_neg (show ¬ w.toInt < 0 by omega)]
      omega
  refine ⟨fun h4 => ⟨fun h0 => fnd (hv4.mp h4) (fun e => e.1 h0), fun h0 => ?_⟩, fun h4 => stnd 4 0 ?_ ?_⟩
  · have q4 := hv4.mp h4
    have q45 : sm t T C x.2.2.1 x.1 4 5 C.length = sAll t T C x.2.2.1 x.1 5 5 := sm_45 q4
    rw [q45] at hv12
    refine ct_12 xs d v hv2 hv12 _ ?_
    cases q13 : sAll t T C x.2.2.1 x.1 1 3 with
    | false => exact ⟨fun _ => fnd q4 (fun e => by rw [q13] at e; exact absurd e.2.2 (by decide)), fun h => absurd rfl h⟩
    | true =>
      cases q5 : sAll t T C x.2.2.1 x.1 5 5 with
      | true => exact ⟨fun _ => fnd q4 (fun e => by rw [q5] at e; exact absurd e.2.1 (by decide)), fun h => absurd rfl h⟩
      | false =>
        have hmw : mnt t T L C x = 64 + x.2.2.1 := by
          unfold mnt
          rw [if_neg (by rw [q4]; decide), if_neg h0, if_pos ⟨q5, q13⟩]
        refine ⟨fun h => absurd h (by decide), fun _ => stnd 1 _ ?_ ?_⟩
        · unfold kd0
          rw [hmw, if_neg (by omega)]
          show (1 : Int) = _
          omega
        · rw [c9]
          unfold of0
          rw [hmw]
          omega
  · have q4 : sAll t T C x.2.2.1 x.1 4 4 = true := by
      cases e : sAll t T C x.2.2.1 x.1 4 4 with
      | true => rfl
      | false => exact absurd (hv4.mpr e) h4
    unfold kd0 mnt
    rw [if_pos q4, if_neg (by decide)]
    decide
  · have q4 : sAll t T C x.2.2.1 x.1 4 4 = true := by
      cases e : sAll t T C x.2.2.1 x.1 4 4 with
      | true => rfl
      | false => exact absurd (hv4.mpr e) h4
    unfold of0 mnt
    rw [if_pos q4]
    decide
end BD
