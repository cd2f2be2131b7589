/-! The reference: walrus. -/
theorem nts_9 {p : Int × Int} {i n : Int} {b : Bool} (hn : n ≠ 0) : nt (nts p i (if b = true then [n] else [])) i n = nts p i [n] := by
  cases b with
  | false => rfl
  | true => exact nt_2 hn
section WL
variable (xs : Option (List Int32)) (d : Nat) {t : List Int32} {T : List lxT} {L : List pSc} {C : List pOc}
theorem nR_lp {s : zS} (hN : nR T L C s) (hA : Ax T L C) {c : Int} (h0 : 0 ≤ c) (h1 : c < (L.length : Int) + 1) (h4 : (0 :: sS L).getD c.toNat 0 = 4) : zX (s.2 50) c ∧ ∃ i : Nat, i < T.length ∧ (zg (s.2 50) c).toInt = (i : Int) ∧ (((-1) :: L.map rLp).getD c.toNat 0).toNat = i := by
  have hc : c ≠ 0 := by
    intro e
    subst e
    have : (0 : Int) = 4 := h4
    omega
  obtain ⟨i, hi⟩ : ∃ i, c.toNat = i + 1 := ⟨c.toNat - 1, by omega⟩
  have hil : i < L.length := by omega
  obtain ⟨A, B, r, hL, hAl⟩ : ∃ A B r, L = A ++ r :: B ∧ A.length = i := ⟨L.take i, L.drop (i + 1), L[i], by rw [List.getElem_cons_drop, List.take_append_drop], List.length_take_of_le (by omega)⟩
  have hm : r ∈ L := by rw [hL]; exact List.mem_append_right _ (List.mem_cons_self ..)
  have hr4 : r.1 = 4 := by
    rw [hi] at h4
    have h4' : (sS L).getD i 0 = 4 := h4
    unfold sS at h4'
    rw [hL, List.map_append, getD_app, if_neg (by rw [List.length_map]; omega), List.length_map, hAl, Nat.sub_self] at h4'
    exact h4'
  obtain ⟨j, y, g1, g2, g3⟩ := hA.tgt r hm hr4
  have hy : y ∈ C := List.mem_of_getElem? g2
  have hw : wR ((mRow T :: A) ++ r :: B) s := by
    have := hN.2.1
    rw [hL] at this
    exact this
  refine ⟨(wX hN.2.1 h0 (by rw [List.length_cons]; omega)).2.2.2.2.2.2, y.1, (hA.tok y hy).1, ?_, ?_⟩
  · rw [g3]
    exact wG (f := fun x => x.2.2.2.2.2.2.2.2) hw.2.2.2.2.2.2.2 (by rw [List.length_cons]; omega)
  · have e : ((-1) :: L.map rLp).getD c.toNat 0 = rLp r := by
      rw [hi]
      show (L.map rLp).getD i 0 = _
      rw [hL, List.map_append, getD_app, if_neg (by rw [List.length_map]; omega), List.length_map, hAl, Nat.sub_self]
      rfl
    rw [e, ← g3]
    omega
theorem ct_178k (hA : Ax T L C) (a1 : Int32) (i : Nat) (h1 : a1.toInt = i) (p : Int × Int) (Q : zS → Prop) : ∀ (B A : List pSc) (b : Bool) (s : zS) (a4 : Int32), mRow T :: L = A ++ B → nR T L C s → a4.toInt = A.length → eE (nts p i (if b = true then [10] else [])) s → (∀ s1, eE (nts p i (if (b || B.any (fun r => inS r (i : Int))) = true then [10] else [])) s1 → zE [33, 34] [] s s1 → Q s1) → zWv xs (d + 1) 178 76 [(0, .ref 32), (1, .int a1), (4, .int a4)] s Q := by
  intro B
  induction B with
  | nil =>
    intro A b s a4 hL hN ha hE hQ
    have hc : (s.1 31).toInt = ((mRow T :: L).length : Int) := hN.2.1.1
    rw [hL, List.append_nil] at hc
    refine vc_178_76 xs d s a1 a4 Q ⟨fun h => by omega, fun _ => hQ s ?_ (zE_r s)⟩
    rw [List.any_nil, Bool.or_false]
    exact hE
  | cons r B ih =>
    intro A b s a4 hL hN ha hE hQ
    have hc : (s.1 31).toInt = ((mRow T :: L).length : Int) := hN.2.1.1
    have hb : (mRow T :: L).length ≤ 40 := by have := hN.2.1.2.1.2.1; rw [List.length_map] at this; exact this
    have hl : (mRow T :: L).length = A.length + (B.length + 1) := by rw [hL, List.length_append, List.length_cons]
    have e4 : (a4 + 1).toInt = ((A.length + 1 : Nat) : Int) := ti_inc ha (by omega)
    have hw : wR (A ++ r :: B) s := by rw [← hL]; exact hN.2.1
    have hL2 : mRow T :: L = (A ++ [r]) ++ B := by rw [hL, List.append_assoc]; rfl
    have hal : (a4 + 1).toInt = ((A ++ [r]).length : Int) := by rw [e4, List.length_append, List.length_singleton]
    refine vc_178_76 xs d s a1 a4 Q ⟨fun _ => ct_165 xs d hw a4 a1 ha _ ?_, fun h => by omega⟩
    rw [h1]
    cases hi : inS r (i : Int) with
    | false =>
      refine ⟨fun _ => ih (A ++ [r]) b s (a4 + 1) hL2 hN hal hE (fun s1 g1 g2 => hQ s1 ?_ g2), fun h => absurd rfl h⟩
      rw [List.any_cons, hi, Bool.false_or]
      exact g1
    | true =>
      refine ⟨fun h => absurd h (by decide), fun _ => ct_175 xs d hE a1 10 _ 10 h1 rfl _ (fun s1 e1 z1 => ?_)⟩
      rw [nts_9 (by decide)] at e1
      refine ih (A ++ [r]) true s1 (a4 + 1) hL2 (nR_E z1 rfl rfl rfl rfl hN) hal e1 (fun s2 g1 g2 => hQ s2 ?_ (zE_t z1 g2))
      rw [List.any_cons, hi, Bool.true_or, Bool.or_true]
      rw [Bool.true_or] at g1
      exact g1
theorem ct_178c (hd : 3 ≤ d) (hA : Ax T L C) (hB : tkB t T) (a1 : Int32) (i : Nat) (hi : i < T.length) (h1 : a1.toInt = i) (p : Int × Int) (Q : zS → Prop) : ∀ (k : Nat) (b : Bool) (s : zS) (a3 : Int32), nR T L C s → tM t s → 0 ≤ a3.toInt → a3.toInt < (L.length : Int) + 1 → a3.toInt.toNat < k → eE (nts p i (if b = true then [9] else [])) s → (∀ s1, eE (nts p i (if (b || tgB t T L k a3.toInt i) = true then [9] else [])) s1 → zE [33, 34] [] s s1 → zWv xs (d + 1) 178 76 [(0, .ref 32), (1, .int a1), (4, .int 1)] s1 Q) → zWv xs (d + 1) 178 33 [(0, .ref 32), (1, .int a1), (3, .int a3)] s Q := by
  intro k
  induction k with
  | zero => intro b s a3 hN ht h0 h3 hk hE hQ; omega
  | succ k ih =>
    intro b s a3 hN ht h0 h3 hk hE hQ
    obtain ⟨z1, z2⟩ := nR_s hN a3 h0 h3
    refine vc_178_33 xs d s a1 a3 Q ?_
    rw [z2]
    refine ⟨z1, fun h4 => ?_, fun h4 => hQ s ?_ (zE_r s)⟩
    · obtain ⟨l1, j, l2, l3, l4⟩ := nR_lp hN hA h0 h3 h4
      have hp0 : 0 < a3.toInt := by
        by_cases e : a3.toInt = 0
        · rw [e] at h4
          have : (0 : Int) = 4 := h4
          omega
        · omega
      obtain ⟨g1, g2⟩ := ax_ps hA hp0 h3
      refine ⟨l1, ct_170 xs d hN.1 ht hB l2 hi _ a1 l3 h1 _ ?_⟩
      have etg : tgB t T L (k + 1) a3.toInt i = (eqT t T j i || tgB t T L k ((0 :: sP L).getD a3.toInt.toNat 0) i) := by
        rw [tgB, if_pos h4, l4]
      cases hs : eqT t T j i with
      | false =>
        refine ⟨fun _ => ct_167 xs d (by omega) hN hA a3 h0 h3 _ (fun v hv => ?_), fun h => absurd rfl h⟩
        rw [← hv] at g1 g2 etg
        refine ih b s v hN ht g1 (by omega) (by omega) hE (fun s1 e1 q1 => hQ s1 ?_ q1)
        rw [etg, hs, Bool.false_or]
        exact e1
      | true =>
        refine ⟨fun h => absurd h (by decide), fun _ => ct_175 xs d hE a1 9 _ 9 h1 rfl _ (fun s1 e1 q1 => ?_)⟩
        rw [nts_9 (by decide)] at e1
        have hN1 := nR_E q1 rfl rfl rfl rfl hN
        refine ct_167 xs d (by omega) hN1 hA a3 h0 h3 _ (fun v hv => ?_)
        rw [← hv] at g1 g2 etg
        refine ih true s1 v hN1 (tM_E q1 rfl rfl ht) g1 (by omega) (by omega) e1 (fun s2 e2 q2 => hQ s2 ?_ (zE_t q1 q2))
        rw [etg, hs, Bool.true_or, Bool.or_true]
        rw [Bool.true_or] at e2
        exact e2
    · rw [tgB, if_neg h4, Bool.or_false]
      exact hE
/-- walrus -/
theorem ct_178 (hd : 4 ≤ d) {s : zS} {p : Int × Int} (hN : nR T L C s) (hA : Ax T L C) (ht : tM t s) (hB : tkB t T) (hE : eE p s) {x : pOc} (hx : x ∈ C) (a1 a2 : Int32) (h1 : a1.toInt = (x.1 : Int)) (h2 : a2.toInt = x.2.2.1) (Q : zS → Prop) (hQ : ∀ s1, eE (nts p (x.1 : Int) (wlE t T L x)) s1 → zE [33, 34] [] s s1 → Q s1) : zWv xs d 178 0 [(0, .ref 32), (1, .int a1), (2, .int a2)] s Q := by
  obtain ⟨d, rfl⟩ : ∃ e, d = e + 1 := ⟨d - 1, by omega⟩
  have hi := (hA.tok x hx).1
  have hlx := ax_l hA hx
  have hbx := ax_b hA hx
  unfold wlE at hQ
  rw [nts_a, nts_a] at hQ
  refine vc_178_0 xs d s a1 a2 Q (ct_166 xs d (by omega) hN.2.1 a1 _ (fun v hv => ?_))
  rw [h1, ← hA.lies x hx] at hv
  obtain ⟨z1, z2⟩ := nR_s hN v (by omega) (by omega)
  obtain ⟨y1, y2⟩ := nR_s hN a2 (by omega) (by omega)
  have go : ∀ s1, eE (nts p (x.1 : Int) (if decide ((0 :: sS L).getD x.2.1.toNat 0 = 4 ∧ (0 :: sS L).getD x.2.2.1.toNat 0 = 2) = true then [8] else [])) s1 → zE [33, 34] [] s s1 → zWv xs (d + 1) 178 33 [(0, .ref 32), (1, .int a1), (3, .int v)] s1 Q := by
    intro s1 e1 q1
    have hN1 := nR_E q1 rfl rfl rfl rfl hN
    refine ct_178c xs d (by omega) hA hB a1 x.1 hi h1 _ Q (L.length + 1) false s1 v hN1 (tM_E q1 rfl rfl ht) (by omega) (by omega) (by omega) e1 (fun s2 e2 q2 => ?_)
    rw [Bool.false_or, hv] at e2
    have hN2 := nR_E q2 rfl rfl rfl rfl hN1
    refine ct_178k xs d hA a1 x.1 h1 _ Q L [mRow T] false s2 1 rfl hN2 rfl e2 (fun s3 e3 q3 => hQ s3 ?_ (zE_t q1 (zE_t q2 q3)))
    rw [Bool.false_or] at e3
    exact e3
  rw [z2, y2, hv, h2]
  rw [hv] at z1
  rw [h2] at y1
  refine ⟨z1, fun h4 => ⟨y1, fun h8 => ct_175 xs d hE a1 8 _ 8 h1 rfl _ (fun s1 e1 q1 => go s1 ?_ q1), fun h8 => go s ?_ (zE_r s)⟩, fun h4 => go s ?_ (zE_r s)⟩
  · rw [decide_eq_true ⟨h4, h8⟩]; exact e1
  · rw [decide_eq_false (fun e => h8 e.2)]; exact hE
  · rw [decide_eq_false (fun e => h4 e.1)]; exact hE
end WL
