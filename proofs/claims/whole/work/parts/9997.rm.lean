/-! The reference's rename. -/
theorem ti_8 {v : Int32} {m : Int} (hv : v.toInt = m) (h0 : 0 ≤ m) (h1 : m < 1000000) : (v - v / 8 * 8).toInt = m % 8 := by
  have e1 : (v / 8).toInt = m / 8 := by
    rw [Int32.toInt_div, hv, show ((8 : Int32)).toInt = 8 by decide, Int.tdiv_eq_ediv_of_nonneg h0]
    exact Int.bmod_eq_of_le (by omega) (by omega)
  have e8 : ((8 : Int32)).toInt = 8 := by decide
  have e2 : (v / 8 * 8).toInt = m / 8 * 8 := by
    rw [ti_mul (by rw [e1, e8]; exact ⟨by omega, by omega⟩), e1, e8]
  rw [ti_sub (by rw [hv, e2]; exact ⟨by omega, by omega⟩), hv, e2]
  omega
theorem zu_zg (l : List Int32) (i : Int) : zu l i (zg l i) = l := by
  unfold zu zg
  by_cases h : i.toNat < l.length
  · rw [List.getD_eq_getElem?_getD, List.getElem?_eq_getElem h]
    exact List.set_getElem_self h
  · exact List.set_eq_of_length_le (by omega)
theorem za_r (s : zS) (k : Nat) : za s k (s.2 k) = s := by
  unfold za
  have : (fun j => bif j == k then s.2 k else s.2 j) = s.2 := by
    funext j
    cases h : j == k with
    | false => rfl
    | true => rw [eq_of_beq h]; rfl
  rw [this]
theorem nR_F {F A : List Nat} {T : List lxT} {L : List pSc} {C : List pOc} {s s1 : zS} (h : zE F A s s1) (hf : ∀ k ∈ [23, 31, 32], F.contains k = false) (ha : ∀ k ∈ [34, 35, 36, 37, 38, 44, 45, 46, 47, 48, 49, 50, 51], A.contains k = false) (hN : nR T L C s) : nR T L C s1 := by
  obtain ⟨h1, h2, h3, h4, h5⟩ := hN
  exact ⟨mkR_E h (hf 23 (by decide)) (ha 34 (by decide)) (ha 35 (by decide)) (ha 36 (by decide)) (ha 37 (by decide)) h1, wR_E h (hf 31 (by decide)) (ha 44 (by decide)) (ha 45 (by decide)) (ha 46 (by decide)) (ha 47 (by decide)) (ha 48 (by decide)) (ha 49 (by decide)) (ha 50 (by decide)) h2, rlR_E h (ha 38 (by decide)) h3, by rw [h.1 32 (hf 32 (by decide))]; exact h4, by rw [h.2 51 (ha 51 (by decide))]; exact h5⟩
theorem mK_E {F A : List Nat} {s s1 : zS} (h : zE F A s s1) (ha : ∀ k ∈ [34, 35, 36, 37, 38, 39, 40, 41, 42, 43, 44, 45, 46, 47, 48, 49, 50, 51], A.contains k = false) (hK : mK s) : mK s1 := by
  obtain ⟨h34, h35, h36, h37, h39, ⟨l38, l40, l41, l42, l43, l44, l45, l46, l47, l48, l49, l50⟩, h51⟩ := hK
  exact ⟨by rw [h.2 34 (ha 34 (by decide))]; exact h34, by rw [h.2 35 (ha 35 (by decide))]; exact h35, by rw [h.2 36 (ha 36 (by decide))]; exact h36, by rw [h.2 37 (ha 37 (by decide))]; exact h37, by rw [h.2 39 (ha 39 (by decide))]; exact h39, ⟨by rw [h.2 38 (ha 38 (by decide))]; exact l38, by rw [h.2 40 (ha 40 (by decide))]; exact l40, by rw [h.2 41 (ha 41 (by decide))]; exact l41, by rw [h.2 42 (ha 42 (by decide))]; exact l42, by rw [h.2 43 (ha 43 (by decide))]; exact l43, by rw [h.2 44 (ha 44 (by decide))]; exact l44, by rw [h.2 45 (ha 45 (by decide))]; exact l45, by rw [h.2 46 (ha 46 (by decide))]; exact l46, by rw [h.2 47 (ha 47 (by decide))]; exact l47, by rw [h.2 48 (ha 48 (by decide))]; exact l48, by rw [h.2 49 (ha 49 (by decide))]; exact l49, by rw [h.2 50 (ha 50 (by decide))]; exact l50⟩, by rw [h.2 51 (ha 51 (by decide))]; exact h51⟩
section RM
variable (xs : Option (List Int32)) (d : Nat) {t : List Int32} {L : List pSc} {C : List pOc} {s : zS}
theorem dr_j {C : List pOc} {j : Nat} (h : j < C.length) : ∃ y, C[j]? = some y ∧ C.drop j = y :: C.drop (j + 1) := by
  obtain ⟨y, hy⟩ := ge_x h
  refine ⟨y, hy, ?_⟩
  rw [List.drop_eq_getElem_cons h]
  rw [List.getElem?_eq_getElem h] at hy
  cases hy
  rfl
/-- the search for the first like it, downwards -/
theorem ct_199i (hd : 7 ≤ d) (ht : tOk t) (hM : tM t s) (hN : nR (lx t) L C s) (hA : Ax (lx t) L C) (hL : (L.length : Int) + 1 ≤ 40) {i : Nat} {x : pOc} (hx : C[i]? = some x) (a1 a2 a3 a4 : Int32) (h3 : a3.toInt = i) (Q : Int32 → zS → Prop) (hend : ∀ a5 a6 : Int32, a6.toInt < 0 → a5.toInt = fov t (lx t) L C x → zWi xs (d + 1) 199 27 [(0, .ref 32), (1, .int a1), (2, .int a2), (3, .int a3), (4, .int a4), (5, .int a5), (6, .int a6)] s Q) : ∀ (j : Nat) (a5 a6 : Int32), j ≤ i → a6.toInt = (j : Int) - 1 → a5.toInt = ((ffi (sV t (lx t) L C x) (C.drop j) j : Nat) : Int) → zWi xs (d + 1) 199 27 [(0, .ref 32), (1, .int a1), (2, .int a2), (3, .int a3), (4, .int a4), (5, .int a5), (6, .int a6)] s Q := by
  have hi := oi_l hx
  have hcl : C.length ≤ 200 := by have := hN.2.2.2.2.2.1; rw [List.length_map] at this; exact this
  intro j
  induction j with
  | zero =>
    intro a5 a6 _ h6 h5
    rw [List.drop_zero] at h5
    exact hend a5 a6 (by omega) h5
  | succ j ih =>
    intro a5 a6 hj h6 h5
    obtain ⟨y, hy, hdr⟩ := dr_j (C := C) (j := j) (by omega)
    have h6j : a6.toInt = (j : Int) := by omega
    have e6 : (a6 + (-1)).toInt = (j : Int) - 1 := zm_1 h6j ⟨by omega, by omega⟩
    refine vc_199_27 xs d s a1 a2 a3 a4 a5 a6 Q ⟨fun h => by omega, fun _ => ct_184 xs d hd ht hM hN hA hL hx hy a3 a6 h3 h6j _ ?_⟩
    cases hs : sV t (lx t) L C x y with
    | false => exact ⟨fun _ => ih a5 _ (by omega) e6 (by rw [hdr, ffi_n hs]; exact h5), fun h => absurd rfl h⟩
    | true => exact ⟨fun h => absurd h (by decide), fun _ => ih a6 _ (by omega) e6 (by rw [hdr, ffi_p hs]; exact h6j)⟩
theorem ct_199b (hd : 7 ≤ d) (ht : tOk t) (hM : tM t s) (hN : nR (lx t) L C s) (hA : Ax (lx t) L C) (hL : (L.length : Int) + 1 ≤ 40) {i : Nat} {x : pOc} (hx : C[i]? = some x) (a1 a2 a3 : Int32) (h3 : a3.toInt = i) (Q : Int32 → zS → Prop) (hend : ∀ a4 a5 a6 : Int32, a6.toInt < 0 → a4.toInt = rsv t (lx t) L C x → a5.toInt = fov t (lx t) L C x → zWi xs (d + 1) 199 27 [(0, .ref 32), (1, .int a1), (2, .int a2), (3, .int a3), (4, .int a4), (5, .int a5), (6, .int a6)] s Q) : zWi xs (d + 1) 199 4 [(0, .ref 32), (1, .int a1), (2, .int a2), (3, .int a3)] s Q := by
  have hi := oi_l hx
  have hcl : C.length ≤ 200 := by have := hN.2.2.2.2.2.1; rw [List.length_map] at this; exact this
  have h32 : (s.1 32).toInt = (C.length : Int) := hN.2.2.2.1
  refine vc_199_4 xs d s a1 a2 a3 Q ⟨fun _ => ct_181 xs d (by omega) hN hA hM (tkB_lx ht) hx a3 h3 _ (fun v hv => ?_), fun h => by omega⟩
  refine ct_199i xs d hd ht hM hN hA hL hx a1 a2 a3 v h3 Q (fun a5 a6 h6 h5 => hend v a5 a6 h6 hv h5) i a3 (a3 - 1) (Nat.le_refl _) (ti_m1 h3 (by omega) (by omega)) ?_
  obtain ⟨y, hy, hdr⟩ := dr_j (C := C) (j := i) hi
  rw [hx] at hy
  cases hy
  rw [hdr, ffi_p (sV_r x)]
  exact h3
/-- noted(0) -/
theorem ct_199l0 (hd : 7 ≤ d) (ht : tOk t) (hA : Ax (lx t) L C) (hL : (L.length : Int) + 1 ≤ 40) (Q : Int32 → zS → Prop) : ∀ (B : List pOc) (j : Nat) (a3 : Int32) (s : zS), C.drop j = B → a3.toInt = j → j ≤ C.length → tM t s → nR (lx t) L C s → zP 200 ((C.take j).map (rsv t (lx t) L C)) (s.2 52) → zP 200 ((C.take j).map (fov t (lx t) L C)) (s.2 53) → (∀ s1, zP 200 (C.map (rsv t (lx t) L C)) (s1.2 52) → zP 200 (C.map (fov t (lx t) L C)) (s1.2 53) → zE [] [52, 53] s s1 → Q 1 s1) → zWi xs (d + 1) 199 4 [(0, .ref 32), (1, .int 0), (2, .int 1), (3, .int a3)] s Q := by
  intro B
  induction B with
  | nil =>
    intro j a3 s hdr h3 hj hM hN p1 p2 hQ
    have h := dr_0 hdr
    have h32 : (s.1 32).toInt = (C.length : Int) := hN.2.2.2.1
    rw [List.take_of_length_le h] at p1 p2
    exact vc_199_4 xs d s 0 1 a3 Q ⟨fun h => by omega, fun _ => ⟨Or.inr rfl, hQ s p1 p2 (zE_r s)⟩⟩
  | cons y B ih =>
    intro j a3 s hdr h3 hj hM hN p1 p2 hQ
    obtain ⟨hy, hd2, hlt⟩ := dr_x hdr
    have hcl : C.length ≤ 200 := by have := hN.2.2.2.2.2.1; rw [List.length_map] at this; exact this
    have e3 : (a3 + 1).toInt = ((j + 1 : Nat) : Int) := ti_inc h3 (by omega)
    have hjl : ∀ f : pOc → Int, ((C.take j).map f).length = j := fun f => by rw [List.length_map, List.length_take]; omega
    have hts : ∀ f : pOc → Int, (C.take (j + 1)).map f = (C.take j).map f ++ [f y] := fun f => by
      rw [List.take_succ, hy, List.map_append]; rfl
    refine ct_199b xs d hd ht hM hN hA hL hy 0 1 a3 h3 Q (fun a4 a5 a6 h6 h4 h5 => ?_)
    refine vc_199_27 xs d s 0 1 a3 a4 a5 a6 Q ⟨fun _ => ⟨fun h => absurd h (by decide), fun _ => ⟨fun _ => ?_, fun h => absurd (by decide) h⟩⟩, fun h => absurd h6 h⟩
    rw [h3]
    have x1 : zX (s.2 52) (j : Int) := zP_X p1 (by decide) (by omega) (by omega)
    have x2 : zX (s.2 53) (j : Int) := zP_X p2 (by decide) (by omega) (by omega)
    have q1 : zP 200 ((C.take (j + 1)).map (rsv t (lx t) L C)) (zu (s.2 52) (j : Int) a4) := by
      rw [hts, ← h4]
      exact zP_add p1 (by rw [hjl]) (by rw [hjl]; omega)
    have q2 : zP 200 ((C.take (j + 1)).map (fov t (lx t) L C)) (zu (s.2 53) (j : Int) a5) := by
      rw [hts, ← h5]
      exact zP_add p2 (by rw [hjl]) (by rw [hjl]; omega)
    have z2 : zE [] [52, 53] s (za (za s 52 (zu (s.2 52) (j : Int) a4)) 53 (zu (s.2 53) (j : Int) a5)) := zE_a (zE_a (zE_r s) rfl) rfl
    exact ⟨x1, x2, ih (j + 1) (a3 + 1) _ hd2 e3 (by omega) (tM_E z2 rfl rfl hM) (nR_F z2 (by decide) (by decide) hN) q1 q2 (fun s1 r1 r2 z => hQ s1 r1 r2 (zE_t z2 z))⟩
theorem ct_199_0 (hd : 8 ≤ d) (ht : tOk t) (hM : tM t s) (hN : nR (lx t) L C s) (hA : Ax (lx t) L C) (hL : (L.length : Int) + 1 ≤ 40) (l52 : (s.2 52).length = 200) (l53 : (s.2 53).length = 200) (Q : Int32 → zS → Prop) (hQ : ∀ s1, zP 200 (C.map (rsv t (lx t) L C)) (s1.2 52) → zP 200 (C.map (fov t (lx t) L C)) (s1.2 53) → zE [] [52, 53] s s1 → Q 1 s1) : zWi xs d 199 0 [(0, .ref 32), (1, .int 0)] s Q := by
  obtain ⟨d, rfl⟩ : ∃ e, d = e + 1 := ⟨d - 1, by omega⟩
  exact vc_199_0 xs d s 0 Q (ct_199l0 xs d (by omega) ht hA hL Q C 0 0 s List.drop_zero rfl (Nat.zero_le _) hM hN (zP_nil l52) (zP_nil l53) hQ)
/-- an array of 200 read -/
theorem li_g2 {l : List Int} {a : List Int32} (h : zP 200 l a) {j : Nat} (hj : j < l.length) : zX a (j : Int) ∧ (zg a (j : Int)).toInt = l.getD j 0 := by
  have h2 := h.2.1
  refine ⟨zP_X h (by decide) (by omega) (by omega), ?_⟩
  rw [zP_get h (by omega) (by omega)]
  rfl
/-- noted(1) -/
theorem ct_199l1 (hd : 7 ≤ d) (ht : tOk t) (hM : tM t s) (hN : nR (lx t) L C s) (hA : Ax (lx t) L C) (hL : (L.length : Int) + 1 ≤ 40) {A F : List Int} (hp : zP 200 A (s.2 52)) (hq : zP 200 F (s.2 53)) (lA : A.length = C.length) (lF : F.length = C.length) (Q : Int32 → zS → Prop) (hQ : Q (zb (eqB (C.map (rsv t (lx t) L C)) A (C.map (fov t (lx t) L C)) F C.length)) s) : ∀ (B : List pOc) (j : Nat) (a2 a3 : Int32), C.drop j = B → a3.toInt = j → j ≤ C.length → a2 = zb (eqB (C.map (rsv t (lx t) L C)) A (C.map (fov t (lx t) L C)) F j) → zWi xs (d + 1) 199 4 [(0, .ref 32), (1, .int 1), (2, .int a2), (3, .int a3)] s Q := by
  have hcl : C.length ≤ 200 := by have := hN.2.2.2.2.2.1; rw [List.length_map] at this; exact this
  have h32 : (s.1 32).toInt = (C.length : Int) := hN.2.2.2.1
  intro B
  induction B with
  | nil =>
    intro j a2 a3 hdr h3 hj h2
    have := dr_0 hdr
    have hj2 : j = C.length := by omega
    subst hj2
    rw [← h2] at hQ
    refine vc_199_4 xs d s 1 a2 a3 Q ⟨fun h => by omega, fun _ => ⟨?_, hQ⟩⟩
    rw [h2]
    cases eqB (C.map (rsv t (lx t) L C)) A (C.map (fov t (lx t) L C)) F C.length with
    | false => exact Or.inl rfl
    | true => exact Or.inr rfl
  | cons y B ih =>
    intro j a2 a3 hdr h3 hj h2
    obtain ⟨hy, hd2, hlt⟩ := dr_x hdr
    have e3 : (a3 + 1).toInt = ((j + 1 : Nat) : Int) := ti_inc h3 (by omega)
    obtain ⟨x1, x2⟩ := li_g2 hp (j := j) (by omega)
    obtain ⟨y1, y2⟩ := li_g2 hq (j := j) (by omega)
    refine ct_199b xs d hd ht hM hN hA hL hy 1 a2 a3 h3 Q (fun a4 a5 a6 h6 h4 h5 => ?_)
    have same : za (za s 52 (zu (s.2 52) (j : Int) (zg (s.2 52) (j : Int)))) 53 (zu (s.2 53) (j : Int) (zg (s.2 53) (j : Int))) = s := by
      rw [zu_zg, zu_zg, za_r, za_r]
    have go : ∀ v : Int32, v = zb (eqB (C.map (rsv t (lx t) L C)) A (C.map (fov t (lx t) L C)) F (j + 1)) → zWi xs (d + 1) 199 4 [(0, .ref 32), (1, .int 1), (2, .int v), (3, .int (a3 + 1))] s Q := fun v hv => ih (j + 1) v (a3 + 1) hd2 e3 (by omega) hv
    have hs : eqB (C.map (rsv t (lx t) L C)) A (C.map (fov t (lx t) L C)) F (j + 1) = (eqB (C.map (rsv t (lx t) L C)) A (C.map (fov t (lx t) L C)) F j && (decide (rsv t (lx t) L C y = A.getD j 0) && decide (fov t (lx t) L C y = F.getD j 0))) := by
      rw [eqB_s, mp_g hy, mp_g hy]
    refine vc_199_27 xs d s 1 a2 a3 a4 a5 a6 Q ⟨fun _ => ?_, fun h => absurd h6 h⟩
    rw [h3, x2, y2, h4, h5, same]
    cases he : eqB (C.map (rsv t (lx t) L C)) A (C.map (fov t (lx t) L C)) F j with
    | false =>
      rw [he] at h2 hs
      subst h2
      exact ⟨fun _ => ⟨fun h => absurd h (by decide), fun _ => ⟨x1, y1, go 0 (by rw [hs]; rfl)⟩⟩, fun h => absurd rfl h⟩
    | true =>
      rw [he] at h2 hs
      subst h2
      refine ⟨fun h => absurd h (by decide), fun _ => ⟨fun h => absurd h (by decide), fun _ => ⟨x1, fun g1 => ⟨y1, fun g2 => go 1 ?_, fun g2 => go 0 ?_⟩, fun g1 => ⟨y1, go 0 ?_⟩⟩⟩⟩
      · rw [hs, decide_eq_true g1.symm, decide_eq_true g2.symm]; rfl
      · rw [hs, decide_eq_true g1.symm, decide_eq_false (show ¬ fov t (lx t) L C y = F.getD j 0 from fun h => g2 h.symm)]; rfl
      · rw [hs, decide_eq_false (show ¬ rsv t (lx t) L C y = A.getD j 0 from fun h => g1 h.symm)]; rfl
theorem ct_199_1 (hd : 8 ≤ d) (ht : tOk t) (hM : tM t s) (hN : nR (lx t) L C s) (hA : Ax (lx t) L C) (hL : (L.length : Int) + 1 ≤ 40) {A F : List Int} (hp : zP 200 A (s.2 52)) (hq : zP 200 F (s.2 53)) (lA : A.length = C.length) (lF : F.length = C.length) (Q : Int32 → zS → Prop) (hQ : Q (zb (decide (C.map (rsv t (lx t) L C) = A ∧ C.map (fov t (lx t) L C) = F))) s) : zWi xs d 199 0 [(0, .ref 32), (1, .int 1)] s Q := by
  obtain ⟨d, rfl⟩ : ∃ e, d = e + 1 := ⟨d - 1, by omega⟩
  refine vc_199_0 xs d s 1 Q (ct_199l1 xs d (by omega) ht hM hN hA hL hp hq lA lF Q ?_ C 0 1 0 List.drop_zero rfl (Nat.zero_le _) rfl)
  rw [eqB_d (List.length_map ..) lA (List.length_map ..) lF]
  exact hQ
/-- the text kept -/
theorem ct_201a (a1 a2 a3 : Int32) (e : Int64) (a6 a7 : Int32) (Q : Int32 → zS → Prop) : ∀ (n j : Nat) (a8 : Int32) (s : zS), n + j = t.length → a8.toInt = j → tM t s → (s.2 33).length = 200 → (∀ k, k < j → (s.2 33)[k]? = t[k]?) → (∀ (s1 : zS) (b8 : Int32), ¬ b8.toInt < (s1.1 21).toInt → tx_in t (s1.2 33) → zE [] [33] s s1 → zWi xs (d + 1) 201 15 [(0, .ref 32), (1, .int a1), (2, .int a2), (3, .int a3), (4, .long e), (6, .int a6), (7, .int a7), (8, .int b8)] s1 Q) → zWi xs (d + 1) 201 15 [(0, .ref 32), (1, .int a1), (2, .int a2), (3, .int a3), (4, .long e), (6, .int a6), (7, .int a7), (8, .int a8)] s Q := by
  intro n
  induction n with
  | zero =>
    intro j a8 s hn h8 hM l33 hk hend
    exact hend s a8 (by rw [hM.1]; omega) ⟨l33, hM.2.2.1, fun i hi => hk i (by omega)⟩ (zE_r s)
  | succ n ih =>
    intro j a8 s hn h8 hM l33 hk hend
    have h200 := hM.2.2.1
    have e8 : (a8 + 1).toInt = ((j + 1 : Nat) : Int) := ti_inc h8 (by omega)
    have x1 : zX (s.2 31) (j : Int) := tx_X hM.2 (by omega)
    have x2 : zX (s.2 33) (j : Int) := ⟨by omega, by rw [l33]; omega, by rw [l33]; omega⟩
    have g := tx_g hM.2 (p := j) (by omega)
    have z1 : zE [] [33] s (za s 33 (zu (s.2 33) (j : Int) (t.getD j 0))) := zE_a (zE_r s) rfl
    refine vc_201_15 xs d s a1 a2 a3 e a6 a7 a8 Q ⟨fun _ => ?_, fun h => absurd (by rw [hM.1]; omega) h⟩
    rw [h8, g]
    refine ⟨x1, x2, ih (j + 1) (a8 + 1) _ (by omega) e8 (tM_E z1 rfl rfl hM) ?_ (fun k hk1 => ?_) (fun s1 b8 k1 k2 z => hend s1 b8 k1 k2 (zE_t z1 z))⟩
    · show (zu (s.2 33) (j : Int) (t.getD j 0)).length = 200
      rw [zu_len]; exact l33
    · show (zu (s.2 33) (j : Int) (t.getD j 0))[k]? = t[k]?
      unfold zu
      rw [Int.toNat_natCast]
      by_cases hkj : k = j
      · subst hkj
        rw [List.getElem?_set_self (by omega), List.getD_eq_getElem?_getD, List.getElem?_eq_getElem (by omega)]
        rfl
      · rw [List.getElem?_set_ne (by omega)]
        exact hk k (by omega)
/-- the text put back -/
theorem ct_201c (Q : Int32 → zS → Prop) : ∀ (n j : Nat) (a9 : Int32) (s : zS), n + j = t.length → a9.toInt = j → (s.1 21).toInt = t.length → tx_in t (s.2 33) → (s.2 31).length = 200 → (∀ k, k < j → (s.2 31)[k]? = t[k]?) → (∀ (s1 : zS), tM t s1 → (s1.1 22).toInt = 1 → zE [22] [31] s s1 → Q 0 s1) → zWi xs (d + 1) 201 136 [(0, .ref 32), (9, .int a9)] s Q := by
  intro n
  induction n with
  | zero =>
    intro j a9 s hn h9 h21 hi l31 hk hQ
    refine vc_201_136 xs d s a9 Q ⟨fun h => absurd h (by omega), fun _ => hQ (zf s 22 1) ⟨h21, l31, hi.2.1, fun i hi2 => hk i (by omega)⟩ rfl (zE_f (zE_r s) rfl)⟩
  | succ n ih =>
    intro j a9 s hn h9 h21 hi l31 hk hQ
    have h200 := hi.2.1
    have e9 : (a9 + 1).toInt = ((j + 1 : Nat) : Int) := ti_inc h9 (by omega)
    have x1 : zX (s.2 33) (j : Int) := tx_X hi (by omega)
    have x2 : zX (s.2 31) (j : Int) := ⟨by omega, by rw [l31]; omega, by rw [l31]; omega⟩
    have g := tx_g hi (p := j) (by omega)
    have z1 : zE [22] [31] s (za s 31 (zu (s.2 31) (j : Int) (t.getD j 0))) := zE_a (zE_r s) rfl
    refine vc_201_136 xs d s a9 Q ⟨fun _ => ?_, fun h => absurd (by omega) h⟩
    rw [h9, g]
    refine ⟨x1, x2, ih (j + 1) (a9 + 1) _ (by omega) e9 h21 hi ?_ (fun k hk1 => ?_) (fun s1 k1 k2 z => hQ s1 k1 k2 (zE_t z1 z))⟩
    · show (zu (s.2 31) (j : Int) (t.getD j 0)).length = 200
      rw [zu_len]; exact l31
    · show (zu (s.2 31) (j : Int) (t.getD j 0))[k]? = t[k]?
      unfold zu
      rw [Int.toNat_natCast]
      by_cases hkj : k = j
      · subst hkj
        rw [List.getElem?_set_self (by omega), List.getD_eq_getElem?_getD, List.getElem?_eq_getElem (by omega)]
        rfl
      · rw [List.getElem?_set_ne (by omega)]
        exact hk k (by omega)
end RM
/-- the reference's cells about the text t -/
def mQ (t : List Int32) (s : zS) : Prop := mJ t s ∧ (s.2 32).length = 200 ∧ (s.2 33).length = 200 ∧ (s.2 52).length = 200 ∧ (s.2 53).length = 200
def mEF2 : List Nat := 21 :: mEF
def mEA2 : List Nat := 31 :: 32 :: 33 :: 52 :: 53 :: mEA
