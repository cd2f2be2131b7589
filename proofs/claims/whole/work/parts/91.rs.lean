/-! The reference: isKnown, resolved. -/
theorem ti_mul {x y : Int32} (h : zR (x.toInt * y.toInt)) : (x * y).toInt = x.toInt * y.toInt := by rw [show x * y = zI (x.toInt * y.toInt) from zq_mul (zq_a _) (zq_a _), zI_t h]
theorem dv64 : ∀ n : Fin 400, ((Int32.ofNat n.val) / 64).toInt = ((n.val / 64 : Nat) : Int) ∧ ((Int32.ofNat n.val) - (Int32.ofNat n.val) / 64 * 64).toInt = ((n.val % 64 : Nat) : Int) := by decide +kernel
theorem ti_64 {v : Int32} {m : Int} (hv : v.toInt = m) (h0 : 0 ≤ m) (h1 : m < 400) : (v / 64).toInt = m / 64 ∧ (v - v / 64 * 64).toInt = m % 64 := by
  have e : v = Int32.ofNat m.toNat := ti_ext (by rw [hv, Int32.toInt_ofNat_of_lt (by omega)]; omega)
  have h := dv64 ⟨m.toNat, by omega⟩
  simp only at h
  rw [← e] at h
  rw [h.1, h.2]
  omega
section RS
variable {t : List Int32} {T : List lxT} {L : List pSc} {C : List pOc}
theorem mnt_b (hA : Ax T L C) (hL : (L.length : Int) + 1 ≤ 40) {x : pOc} (hx : x ∈ C) : 0 ≤ mnt t T L C x ∧ mnt t T L C x < 400 ∧ mnt t T L C x % 64 < 40 := by
  have hb := ax_b hA hx
  have hs := srch_b (t := t) hA x.1 x.2.2.1.toNat x.2.2.1 hb.1 hb.2
  unfold mnt
  split
  · decide
  · split
    · decide
    · split
      · omega
      · split
        · decide
        · omega
theorem mnt_h (hA : Ax T L C) (hL : (L.length : Int) + 1 ≤ 40) {x : pOc} (hx : x ∈ C) : mnt t T L C x / 64 = 4 ∨ mnt t T L C x / 64 = 5 ∨ mnt t T L C x / 64 = 1 ∨ mnt t T L C x / 64 = 3 := by
  have hb := ax_b hA hx
  have hs := srch_b (t := t) hA x.1 x.2.2.1.toNat x.2.2.1 hb.1 hb.2
  unfold mnt
  split
  · exact Or.inl (by decide)
  · split
    · exact Or.inr (Or.inl (by decide))
    · split
      · omega
      · split
        · exact Or.inr (Or.inl (by decide))
        · omega
end RS
section MR
variable (xs : Option (List Int32)) (d : Nat) {t : List Int32} {T : List lxT} {L : List pSc} {C : List pOc} {s : zS}
theorem dr_x {C B : List pOc} {x : pOc} {j : Nat} (h : C.drop j = x :: B) : C[j]? = some x ∧ C.drop (j + 1) = B ∧ j < C.length := by
  have h1 : (C.drop j)[0]? = some x := by rw [h]; rfl
  rw [List.getElem?_drop] at h1
  refine ⟨h1, ?_, ?_⟩
  · rw [← List.drop_drop, h]; rfl
  · by_cases hj : j < C.length
    · exact hj
    · rw [List.drop_eq_nil_of_le (by omega)] at h; cases h
theorem dr_0 {C : List pOc} {j : Nat} (h : C.drop j = []) : C.length ≤ j := List.drop_eq_nil_iff.mp h
theorem ct_180l (hd : 5 ≤ d) (hN : nR T L C s) (hA : Ax T L C) (ht : tM t s) (hB : tkB t T) {i : Nat} (hi : i < T.length) (a1 : Int32) (h1 : a1.toInt = i) (Q : Int32 → zS → Prop) : ∀ (B : List pOc) (j : Nat) (a2 : Int32), C.drop j = B → a2.toInt = j → Q (zb (B.any (knP t T C i))) s → zWi xs d 180 2 [(0, .ref 32), (1, .int a1), (2, .int a2)] s Q := by
  obtain ⟨d, rfl⟩ : ∃ e, d = e + 1 := ⟨d - 1, by omega⟩
  have hcl : C.length ≤ 200 := by have := hN.2.2.2.2.2.1; rw [List.length_map] at this; exact this
  have hcc := hN.2.2.2.1
  intro B
  induction B with
  | nil =>
    intro j a2 hj h2 hQ
    have := dr_0 hj
    exact vc_180_2 xs d s a1 a2 Q ⟨fun h => by omega, fun _ => hQ⟩
  | cons y B ih =>
    intro j a2 hj h2 hQ
    obtain ⟨hy, hj2, hjl⟩ := dr_x hj
    have hm : y ∈ C := List.mem_of_getElem? hy
    obtain ⟨n1, n2⟩ := nR_nm hN hy
    have e2 : (a2 + 1).toInt = ((j + 1 : Nat) : Int) := ti_inc h2 (by omega)
    have no : knP t T C i y = false → zWi xs (d + 1) 180 2 [(0, .ref 32), (1, .int a1), (2, .int (a2 + 1))] s Q := by
      intro hp
      rw [List.any_cons, hp, Bool.false_or] at hQ
      exact ih (j + 1) (a2 + 1) hj2 e2 hQ
    have yes : knP t T C i y = true → Q 1 s := by
      intro hp
      rw [List.any_cons, hp, Bool.true_or] at hQ
      exact hQ
    refine vc_180_2 xs d s a1 a2 Q ⟨fun _ => ct_171 xs d hN hA hy a2 h2 _ ?_, fun h => by omega⟩
    by_cases hb : 1 ≤ pmr y.2.2.2 ∧ pmr y.2.2.2 ≤ 3
    · rw [decide_eq_true hb]
      rw [h2]
      refine ⟨fun h => absurd h (by decide), fun _ => ⟨n1, ct_170 xs d hN.1 ht hB (hA.tok y hm).1 hi _ a1 n2 h1 _ ?_⟩⟩
      cases hs : eqT t T y.1 i with
      | false =>
        refine ⟨fun _ => no ?_, fun h => absurd rfl h⟩
        unfold knP
        rw [hs, Bool.false_and, Bool.and_false]
      | true =>
        refine ⟨fun h => absurd h (by decide), fun _ => ct_168 xs d (by omega) hN hA hy a2 h2 _ (fun v hv => ?_)⟩
        rw [hv]
        refine ⟨fun h0 => yes ?_, fun h0 => ct_173a xs d (by omega) hN hA ht hB hi y.2.2.1 4 4 v a1 4 4 hv h1 rfl rfl _ ?_⟩
        · unfold knP
          rw [decide_eq_true hb, hs, decide_eq_true h0]; rfl
        · cases h4 : sAll t T C y.2.2.1 i 4 4 with
          | false =>
            refine ⟨fun _ => no ?_, fun h => absurd rfl h⟩
            unfold knP
            rw [h4, decide_eq_false h0, Bool.false_or, Bool.and_false, Bool.and_false]
          | true =>
            refine ⟨fun h => absurd h (by decide), fun _ => yes ?_⟩
            unfold knP
            rw [h4, decide_eq_true hb, hs, Bool.or_true]; rfl
    · rw [decide_eq_false hb]
      refine ⟨fun _ => no ?_, fun h => absurd rfl h⟩
      unfold knP
      rw [decide_eq_false hb, Bool.false_and]
/-- isKnown -/
theorem ct_180 (hd : 5 ≤ d) (hN : nR T L C s) (hA : Ax T L C) (ht : tM t s) (hB : tkB t T) {i : Nat} (hi : i < T.length) (a1 : Int32) (h1 : a1.toInt = i) (Q : Int32 → zS → Prop) (hQ : Q (zb (kno t T C i)) s) : zWi xs d 180 0 [(0, .ref 32), (1, .int a1)] s Q := by
  have hd0 := hd
  obtain ⟨d, rfl⟩ : ∃ e, d = e + 1 := ⟨d - 1, by omega⟩
  exact vc_180_0 xs d s a1 Q (ct_180l xs (d + 1) hd0 hN hA ht hB hi a1 h1 Q C 0 0 List.drop_zero rfl hQ)
theorem rs_sum {a b c : Int32} {h o w : Int} (ha : a.toInt = h) (hb : b.toInt = o) (hc : c.toInt = w) (h1 : 0 ≤ h ∧ h < 10) (h2 : 0 ≤ o ∧ o < 64) (h3 : 0 ≤ w ∧ w < 64) : ((a + (8 * b)) + (512 * c)).toInt = h + 8 * o + 512 * w := by
  have e8 : ((8 : Int32)).toInt = 8 := rfl
  have e5 : ((512 : Int32)).toInt = 512 := rfl
  have m1 : (8 * b).toInt = 8 * o := by rw [ti_mul (by rw [e8, hb]; exact ⟨by omega, by omega⟩), e8, hb]
  have m2 : (512 * c).toInt = 512 * w := by rw [ti_mul (by rw [e5, hc]; exact ⟨by omega, by omega⟩), e5, hc]
  have s1 : (a + (8 * b)).toInt = h + 8 * o := by rw [ti_add (by rw [ha, m1]; exact ⟨by omega, by omega⟩), ha, m1]
  rw [ti_add (by rw [s1, m2]; exact ⟨by omega, by omega⟩), s1, m2]
theorem ct_181l (hd : 7 ≤ d) (hN : nR T L C s) (hA : Ax T L C) (ht : tM t s) (hB : tkB t T) {o : Nat} {x : pOc} (hx : C[o]? = some x) (a1 a3 a5 : Int32) (h1 : a1.toInt = o) (h3 : a3.toInt = mnt t T L C x % 64) (h5 : a5.toInt = x.2.2.1) (Q : Int32 → zS → Prop) : ∀ (B : List pOc) (j : Nat) (a4 a6 : Int32), C.drop j = B → a6.toInt = j → (a4 = 1 ∨ a4 = 2) → (∀ v : Int32, v.toInt = (if a4 = 2 ∨ B.any (frP t T L C x) = true then 2 else 1) + 8 * (mnt t T L C x % 64) + 512 * x.2.2.1 → Q v s) → zWi xs d 181 33 [(0, .ref 32), (1, .int a1), (3, .int a3), (4, .int a4), (5, .int a5), (6, .int a6)] s Q := by
  obtain ⟨d, rfl⟩ : ∃ e, d = e + 1 := ⟨d - 1, by omega⟩
  have hcl : C.length ≤ 200 := by have := hN.2.2.2.2.2.1; rw [List.length_map] at this; exact this
  have hcc := hN.2.2.2.1
  have hLl : (L.length : Int) + 1 ≤ 40 := by
    have := hN.2.1.2.1.2.1
    rw [List.length_map, List.length_cons] at this
    omega
  have hxm : x ∈ C := List.mem_of_getElem? hx
  obtain ⟨x1, x2⟩ := nR_nm hN hx
  have hmb := mnt_b (t := t) hA hLl hxm
  have hbx := ax_b hA hxm
  intro B
  induction B with
  | nil =>
    intro j a4 a6 hj h6 h4 hQ
    have hjl := dr_0 hj
    refine vc_181_33 xs d s a1 a3 a4 a5 a6 Q ⟨fun h => by omega, fun _ => ⟨fun h => ?_, fun h => hQ _ ?_⟩⟩
    · rcases h4 with e | e
      · subst e; exact absurd h (by decide)
      · subst e; exact absurd h (by decide)
    · rcases h4 with e | e
      · subst e
        rw [if_neg (fun e => e.elim (fun e => absurd e (by decide)) (fun e => by cases e))]
        exact rs_sum rfl h3 h5 (by decide) (by omega) (by omega)
      · subst e
        rw [if_pos (Or.inl rfl)]
        exact rs_sum rfl h3 h5 (by decide) (by omega) (by omega)
  | cons y B ih =>
    intro j a4 a6 hj h6 h4 hQ
    obtain ⟨hy, hj2, hjl⟩ := dr_x hj
    have hm : y ∈ C := List.mem_of_getElem? hy
    obtain ⟨n1, n2⟩ := nR_nm hN hy
    have e6 : (a6 + 1).toInt = ((j + 1 : Nat) : Int) := ti_inc h6 (by omega)
    have no : frP t T L C x y = false → zWi xs (d + 1) 181 33 [(0, .ref 32), (1, .int a1), (3, .int a3), (4, .int a4), (5, .int a5), (6, .int (a6 + 1))] s Q := by
      intro hp
      refine ih (j + 1) a4 (a6 + 1) hj2 e6 h4 (fun v hv => hQ v ?_)
      rw [List.any_cons, hp, Bool.false_or]
      exact hv
    have yes : frP t T L C x y = true → zWi xs (d + 1) 181 33 [(0, .ref 32), (1, .int a1), (3, .int a3), (4, .int 2), (5, .int a5), (6, .int (a6 + 1))] s Q := by
      intro hp
      refine ih (j + 1) 2 (a6 + 1) hj2 e6 (Or.inr rfl) (fun v hv => hQ v ?_)
      rw [if_pos (Or.inl rfl)] at hv
      rw [if_pos (Or.inr (by rw [List.any_cons, hp, Bool.true_or]))]
      exact hv
    refine vc_181_33 xs d s a1 a3 a4 a5 a6 Q ⟨fun _ => ?_, fun h => by omega⟩
    rw [h6, h1]
    refine ⟨n1, x1, ct_170 xs d hN.1 ht hB (hA.tok y hm).1 (hA.tok x hxm).1 _ _ n2 x2 _ ?_⟩
    cases hs : eqT t T y.1 x.1 with
    | false =>
      refine ⟨fun _ => no ?_, fun h => absurd rfl h⟩
      unfold frP
      rw [hs, Bool.false_and]
    | true =>
      refine ⟨fun h => absurd h (by decide), fun _ => ct_168 xs d (by omega) hN hA hy a6 h6 _ (fun v hv => ?_)⟩
      rw [hv, h5]
      refine ⟨fun hb => no ?_, fun hb => ct_179 xs d (by omega) hN hA ht hB hy a6 h6 _ (fun w hw => ?_)⟩
      · unfold frP
        rw [decide_eq_true hb, Bool.not_true, Bool.false_and, Bool.and_false]
      · rw [hw, h3]
        refine ⟨⟨by omega, by omega⟩, fun hq => yes ?_, fun hq => no ?_⟩
        · unfold frP
          rw [hs, decide_eq_false hb, decide_eq_true hq]; rfl
        · unfold frP
          rw [decide_eq_false hq, Bool.and_false, Bool.and_false]
/-- resolved -/
theorem ct_181 (hd : 7 ≤ d) (hN : nR T L C s) (hA : Ax T L C) (ht : tM t s) (hB : tkB t T) {o : Nat} {x : pOc} (hx : C[o]? = some x) (a1 : Int32) (h1 : a1.toInt = o) (Q : Int32 → zS → Prop) (hQ : ∀ v : Int32, v.toInt = rsv t T L C x → Q v s) : zWi xs d 181 0 [(0, .ref 32), (1, .int a1)] s Q := by
  have hd0 := hd
  obtain ⟨d, rfl⟩ : ∃ e, d = e + 1 := ⟨d - 1, by omega⟩
  have hLl : (L.length : Int) + 1 ≤ 40 := by
    have := hN.2.1.2.1.2.1
    rw [List.length_map, List.length_cons] at this
    omega
  have hxm : x ∈ C := List.mem_of_getElem? hx
  obtain ⟨x1, x2⟩ := nR_nm hN hx
  have hmb := mnt_b (t := t) hA hLl hxm
  have hmh := mnt_h (t := t) hA hLl hxm
  have hbx := ax_b hA hxm
  refine vc_181_0 xs d s a1 Q (ct_179 xs d (by omega) hN hA ht hB hx a1 h1 _ (fun v hv => ct_168 xs d (by omega) hN hA hx a1 h1 _ (fun w hw => ?_)))
  obtain ⟨d1, d2⟩ := ti_64 hv hmb.1 hmb.2.1
  rw [d1]
  refine ⟨fun h => ?_, fun h => ⟨fun h5 => ?_, fun h5 => hQ _ ?_⟩⟩
  · have e1 : v / 64 = 1 := ti_ext (by rw [d1, h]; rfl)
    rw [e1]
    refine ct_181l xs (d + 1) hd0 hN hA ht hB hx a1 _ w h1 ?_ hw Q C 0 1 0 List.drop_zero rfl (Or.inl rfl) (fun u hu => hQ u ?_)
    · rw [e1] at d2
      exact d2
    · rw [hu]
      unfold rsv
      rw [if_pos h]
      congr 2
      by_cases hf : C.any (frP t T L C x) = true
      · rw [if_pos (Or.inr hf), if_pos hf]
      · rw [if_neg (fun e => e.elim (fun e => absurd e (by decide)) hf), if_neg hf]
  · rw [h1]
    refine ⟨x1, ct_180 xs d (by omega) hN hA ht hB (hA.tok x hxm).1 _ x2 _ ?_⟩
    cases hk : kno t T C x.1 with
    | false =>
      refine ⟨fun _ => hQ _ ?_, fun h => absurd rfl h⟩
      rw [rs_sum (h := 6) rfl d2 hw (by decide) (by omega) (by omega)]
      unfold rsv
      rw [if_neg h, if_pos h5, hk]
      rfl
    | true =>
      refine ⟨fun h => absurd h (by decide), fun _ => hQ _ ?_⟩
      rw [rs_sum (h := 5) rfl d2 hw (by decide) (by omega) (by omega)]
      unfold rsv
      rw [if_neg h, if_pos h5, hk]
      rfl
  · rw [rs_sum d1 d2 hw (by omega) (by omega) (by omega)]
    unfold rsv
    rw [if_neg h, if_neg h5]
end MR
