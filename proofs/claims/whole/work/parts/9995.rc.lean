/-! The class's rename. -/
def vB (t : List Int32) (L : List pSc) (C : List pOc) (s : zS) : Prop := oR (lx t) C s ∧ (∃ S, spC t (lx t) C S s) ∧ zP 100 (C.map (of0 t (lx t) L C)) (s.2 23) ∧ zP 100 (C.map (kd1 t (lx t) L C)) (s.2 22)
theorem vB_E {F A : List Nat} {t : List Int32} {L : List pSc} {C : List pOc} {s s1 : zS} (h : zE F A s s1) (h7 : F.contains 7 = false) (ha : ∀ k ∈ [16, 17, 18, 19, 20, 21, 22, 23], A.contains k = false) (hv : vB t L C s) : vB t L C s1 := by
  obtain ⟨⟨a1, a2, a3, a4, a5, a6⟩, ⟨S, b1, b2⟩, c1, c2⟩ := hv
  exact ⟨⟨by rw [h.1 7 h7]; exact a1, by rw [h.2 16 (ha 16 (by decide))]; exact a2, by rw [h.2 17 (ha 17 (by decide))]; exact a3, by rw [h.2 18 (ha 18 (by decide))]; exact a4, by rw [h.2 19 (ha 19 (by decide))]; exact a5, by rw [h.2 20 (ha 20 (by decide))]; exact a6⟩, ⟨S, by rw [h.2 21 (ha 21 (by decide))]; exact b1, b2⟩, by rw [h.2 23 (ha 23 (by decide))]; exact c1, by rw [h.2 22 (ha 22 (by decide))]; exact c2⟩
theorem vB_b {t : List Int32} {o : pO} {s : zS} (b : bnR t (lx t) o.2.2.1 o.2.2.2.2.1 s) (he : (erO t o).1 = 0) : vB t o.2.2.1 o.2.2.2.2.1 s := ⟨b.1.2.2.1, b.2.1, (b.2.2.2 he).1, (b.2.2.2 he).2⟩
theorem cK_E {F A : List Nat} {s s1 : zS} (h : zE F A s s1) (hf : ∀ k ∈ [5, 6, 7], F.contains k = false) (ha : ∀ k ∈ [4, 5, 6, 7, 9, 10, 12, 13, 14, 16, 17, 18, 19, 20, 21, 22, 23], A.contains k = false) (hK : cK s) : cK s1 := by
  obtain ⟨h4, h5, h6, h7, ⟨b1, b2, b3, b4, b5, b6, b7, b8, b9, b10, b11, b12, b13, b14, b15, b16⟩, c1, c2, c3⟩ := hK
  exact ⟨by rw [h.2 4 (ha 4 (by decide))]; exact h4, by rw [h.2 5 (ha 5 (by decide))]; exact h5, by rw [h.2 6 (ha 6 (by decide))]; exact h6, by rw [h.2 7 (ha 7 (by decide))]; exact h7, ⟨by rw [h.2 9 (ha 9 (by decide))]; exact b1, by rw [h.2 10 (ha 10 (by decide))]; exact b2, by rw [h.2 12 (ha 12 (by decide))]; exact b3, by rw [h.2 13 (ha 13 (by decide))]; exact b4, by rw [h.2 14 (ha 14 (by decide))]; exact b5, by rw [h.2 16 (ha 16 (by decide))]; exact b6, by rw [h.2 17 (ha 17 (by decide))]; exact b7, by rw [h.2 18 (ha 18 (by decide))]; exact b8, by rw [h.2 19 (ha 19 (by decide))]; exact b9, by rw [h.2 20 (ha 20 (by decide))]; exact b10, by rw [h.1 5 (hf 5 (by decide))]; exact b11, by rw [h.1 5 (hf 5 (by decide))]; exact b12, by rw [h.1 6 (hf 6 (by decide))]; exact b13, by rw [h.1 6 (hf 6 (by decide))]; exact b14, by rw [h.1 7 (hf 7 (by decide))]; exact b15, by rw [h.1 7 (hf 7 (by decide))]; exact b16⟩, by rw [h.2 21 (ha 21 (by decide))]; exact c1, by rw [h.2 22 (ha 22 (by decide))]; exact c2, by rw [h.2 23 (ha 23 (by decide))]; exact c3⟩
theorem tx_cp0 {t f g : List Int32} (h : tx_in t f) (hg : g.length = 200) : tx_in t (am_cp f g 0 0 t.length) := by
  obtain ⟨h1, h2, h3⟩ := h
  refine ⟨(am_cp_len (by omega) (by omega)).trans hg, h2, fun i hi => ?_⟩
  rw [am_cp_get (by omega) (by omega), if_pos ⟨Nat.zero_le _, by omega⟩, Nat.zero_add, Nat.sub_zero]
  exact h3 i hi
theorem chF_cp {f g : List Int32} (h1 : chF f) (h2 : chF g) (n : Nat) : chF (am_cp f g 0 0 n) := by
  intro c hc
  unfold am_cp at hc
  rw [List.mem_append, List.mem_append] at hc
  rcases hc with hc | hc | hc
  · exact h2 c (List.mem_of_mem_take hc)
  · exact h1 c (List.mem_of_mem_drop (List.mem_of_mem_take hc))
  · exact h2 c (List.mem_of_mem_drop hc)
/-- the class's cells about the text t -/
def cQ (t : List Int32) (s : zS) : Prop := tOk t ∧ cI t s ∧ chF (s.2 2) ∧ chF (s.2 27) ∧ (s.2 27).length = 200 ∧ (s.2 28).length = 100 ∧ (s.2 29).length = 100
def cEF2 : List Nat := 1 :: 19 :: 20 :: cEF
def cEA2 : List Nat := 2 :: 27 :: 28 :: 29 :: cEA
section RC
variable (xs : Option (List Int32)) (d : Nat) {t : List Int32} {L : List pSc} {C : List pOc} {s : zS}
theorem ct_36l (hv : vB t L C s) {i : Nat} {x : pOc} (hx : C[i]? = some x) (a1 : Int32) (h1 : a1.toInt = i) (Q : Int32 → zS → Prop) : ∀ (B : List pOc) (j : Nat) (a2 : Int32), C.drop j = B → a2.toInt = j → j ≤ i → (∀ v : Int32, v.toInt = ((ffi (sV t (lx t) L C x) B j : Nat) : Int) → Q v s) → zWi xs (d + 1) 36 2 [(0, .ref 17), (1, .int a1), (2, .int a2)] s Q := by
  obtain ⟨hO, ⟨S, hS⟩, hof, _⟩ := hv
  have hi := oi_l hx
  have hcl : C.length ≤ 100 := by have := hO.2.1.2.1; rw [List.length_map] at this; exact this
  intro B
  induction B with
  | nil =>
    intro j a2 hdr h2 hj hQ
    have := dr_0 hdr
    omega
  | cons y B ih =>
    intro j a2 hdr h2 hj hQ
    obtain ⟨hy, hd2, hlt⟩ := dr_x hdr
    have e2 : (a2 + 1).toInt = ((j + 1 : Nat) : Int) := ti_inc h2 (by omega)
    refine vc_36_2 xs d s a1 a2 Q ⟨fun h => ct_35v xs d hS hof hx hy a1 a2 h1 h2 _ ?_, fun h => hQ a1 ?_⟩
    · cases hs : sV t (lx t) L C x y with
      | false => exact ⟨fun _ => ih (j + 1) (a2 + 1) hd2 e2 (by omega) (fun v hv => hQ v (by rw [ffi_n hs]; exact hv)), fun h => absurd rfl h⟩
      | true => exact ⟨fun h => absurd h (by decide), fun _ => hQ a2 (by rw [ffi_p hs]; exact h2)⟩
    · have hij : j = i := by omega
      subst hij
      rw [hx] at hy
      cases hy
      rw [ffi_p (sV_r x)]
      exact h1
/-- firstOfVariable -/
theorem ct_36 (hd : 1 ≤ d) (hv : vB t L C s) {i : Nat} {x : pOc} (hx : C[i]? = some x) (a1 : Int32) (h1 : a1.toInt = i) (Q : Int32 → zS → Prop) (hQ : ∀ v : Int32, v.toInt = fov t (lx t) L C x → Q v s) : zWi xs d 36 0 [(0, .ref 17), (1, .int a1)] s Q := by
  obtain ⟨d, rfl⟩ : ∃ e, d = e + 1 := ⟨d - 1, by omega⟩
  exact vc_36_0 xs d s a1 Q (ct_36l xs d hv hx a1 h1 Q C 0 0 List.drop_zero rfl (Nat.zero_le _) hQ)
theorem ct_37l (hv : vB t L C s) {i : Nat} {x : pOc} (hx : C[i]? = some x) (a1 : Int32) (h1 : a1.toInt = i) (Q : Int32 → zS → Prop) : ∀ (B : List pOc) (j : Nat) (a2 a3 : Int32), C.drop j = B → a3.toInt = j → 0 ≤ a2.toInt → a2.toInt ≤ j → (∀ v : Int32, v.toInt = a2.toInt + (cV (sV t (lx t) L C x) B : Nat) → Q v s) → zWi xs (d + 1) 37 4 [(0, .ref 17), (1, .int a1), (2, .int a2), (3, .int a3)] s Q := by
  obtain ⟨hO, ⟨S, hS⟩, hof, _⟩ := hv
  have hcl : C.length ≤ 100 := by have := hO.2.1.2.1; rw [List.length_map] at this; exact this
  have h7 : (s.1 7).toInt = (C.length : Int) := hO.1
  intro B
  induction B with
  | nil =>
    intro j a2 a3 hdr h3 h0 hle hQ
    have := dr_0 hdr
    exact vc_37_4 xs d s a1 a2 a3 Q ⟨fun h => by omega, fun _ => hQ a2 (by show a2.toInt = a2.toInt + ((0 : Nat) : Int); omega)⟩
  | cons y B ih =>
    intro j a2 a3 hdr h3 h0 hle hQ
    obtain ⟨hy, hd2, hlt⟩ := dr_x hdr
    have e3 : (a3 + 1).toInt = ((j + 1 : Nat) : Int) := ti_inc h3 (by omega)
    have e2 : (a2 + 1).toInt = a2.toInt + 1 := ti_1 rfl (by omega) (by omega)
    refine vc_37_4 xs d s a1 a2 a3 Q ⟨fun _ => ct_35v xs d hS hof hx hy a1 a3 h1 h3 _ ?_, fun h => by omega⟩
    cases hs : sV t (lx t) L C x y with
    | false => exact ⟨fun _ => ih (j + 1) a2 (a3 + 1) hd2 e3 h0 (by omega) (fun v hv => hQ v (by rw [cV_n hs]; exact hv)), fun h => absurd rfl h⟩
    | true => exact ⟨fun h => absurd h (by decide), fun _ => ih (j + 1) (a2 + 1) (a3 + 1) hd2 e3 (by omega) (by omega) (fun v hv => hQ v (by rw [cV_p hs]; omega))⟩
/-- countVariable -/
theorem ct_37 (hd : 1 ≤ d) (hv : vB t L C s) {i : Nat} {x : pOc} (hx : C[i]? = some x) (a1 : Int32) (h1 : a1.toInt = i) (Q : Int32 → zS → Prop) (hQ : ∀ v : Int32, v.toInt = (cV (sV t (lx t) L C x) C : Nat) → Q v s) : zWi xs d 37 0 [(0, .ref 17), (1, .int a1)] s Q := by
  obtain ⟨d, rfl⟩ : ∃ e, d = e + 1 := ⟨d - 1, by omega⟩
  refine vc_37_0 xs d s a1 Q (ct_37l xs d hv hx a1 h1 Q C 0 0 0 List.drop_zero rfl (by decide) (by decide) (fun v h => hQ v ?_))
  rw [h, show ((0 : Int32)).toInt = 0 by decide, Int.zero_add]
/-- answer -/
theorem ct_38 (hv : vB t L C s) (hA : Ax (lx t) L C) (hL : (L.length : Int) + 1 ≤ 40) {i : Nat} {x : pOc} (hx : C[i]? = some x) (a1 : Int32) (h1 : a1.toInt = i) (Q : Int32 → zS → Prop) (hQ : ∀ v : Int32, v.toInt = rsv t (lx t) L C x → Q v s) : zWi xs d 38 0 [(0, .ref 17), (1, .int a1)] s Q := by
  obtain ⟨hO, _, k1, k2⟩ := hv
  have hi := oi_l hx
  obtain ⟨_, _, _, c4, _, _, _, _, c9, _⟩ := oR_g hO hx
  obtain ⟨o1, o2⟩ := li_g k1 (j := i) (by rw [List.length_map]; exact hi)
  obtain ⟨n1, n2⟩ := li_g k2 (j := i) (by rw [List.length_map]; exact hi)
  rw [mp_g hx] at o2 n2
  have hm : x ∈ C := List.mem_of_getElem? hx
  have hb := ax_b hA hm
  obtain ⟨q1, q2⟩ := kd_b hA hL hm
  refine vc_38_0 xs d s a1 _ ?_
  rw [h1]
  exact ⟨n1, o1, c4, hQ _ ((rs_sum n2 o2 c9 (by omega) q2 (by omega)).trans (rsv_kd hA hL hm))⟩
theorem ct_77l (hd : 1 ≤ d) (hA : Ax (lx t) L C) (hL : (L.length : Int) + 1 ≤ 40) (Q : zS → Prop) : ∀ (B : List pOc) (j : Nat) (a3 : Int32) (s : zS), C.drop j = B → a3.toInt = j → j ≤ C.length → vB t L C s → (s.1 20).toInt = (C.length : Int) → zP 100 ((C.take j).map (rsv t (lx t) L C)) (s.2 28) → zP 100 ((C.take j).map (fov t (lx t) L C)) (s.2 29) → (∀ s1, zP 100 (C.map (rsv t (lx t) L C)) (s1.2 28) → zP 100 (C.map (fov t (lx t) L C)) (s1.2 29) → zE [] [28, 29] s s1 → Q s1) → zWv xs (d + 1) 77 35 [(0, .ref 28), (2, .ref 17), (3, .int a3)] s Q := by
  intro B
  induction B with
  | nil =>
    intro j a3 s hdr h3 hj hv h20 p1 p2 hQ
    have h := dr_0 hdr
    have ht : C.take j = C := List.take_of_length_le h
    rw [ht] at p1 p2
    exact vc_77_35 xs d s a3 Q ⟨fun h => by omega, fun _ => hQ s p1 p2 (zE_r s)⟩
  | cons y B ih =>
    intro j a3 s hdr h3 hj hv h20 p1 p2 hQ
    obtain ⟨hy, hd2, hlt⟩ := dr_x hdr
    have hcl : C.length ≤ 100 := by have := hv.1.2.1.2.1; rw [List.length_map] at this; exact this
    have e3 : (a3 + 1).toInt = ((j + 1 : Nat) : Int) := ti_inc h3 (by omega)
    have hjl : ∀ f : pOc → Int, ((C.take j).map f).length = j := fun f => by rw [List.length_map, List.length_take]; omega
    have hts : ∀ f : pOc → Int, (C.take (j + 1)).map f = (C.take j).map f ++ [f y] := fun f => by
      rw [List.take_succ, hy, List.map_append]; rfl
    refine vc_77_35 xs d s a3 Q ⟨fun _ => ct_38 xs d hv hA hL hy a3 h3 _ (fun v k => ?_), fun h => by omega⟩
    rw [h3]
    have x1 : zX (s.2 28) (j : Int) := zP_X p1 (by decide) (by omega) (by omega)
    have q1 : zP 100 ((C.take (j + 1)).map (rsv t (lx t) L C)) (zu (s.2 28) (j : Int) v) := by
      rw [hts, ← k]
      exact zP_add p1 (by rw [hjl]) (by rw [hjl]; omega)
    have z1 : zE [] [28, 29] s (za s 28 (zu (s.2 28) (j : Int) v)) := zE_a (zE_r s) rfl
    refine ⟨x1, ct_36 xs d hd (vB_E z1 rfl (by decide) hv) hy a3 h3 _ (fun w m => ?_)⟩
    have x2 : zX (s.2 29) (j : Int) := zP_X p2 (by decide) (by omega) (by omega)
    have q2 : zP 100 ((C.take (j + 1)).map (fov t (lx t) L C)) (zu (s.2 29) (j : Int) w) := by
      rw [hts, ← m]
      exact zP_add p2 (by rw [hjl]) (by rw [hjl]; omega)
    have z2 : zE [] [28, 29] s (za (za s 28 (zu (s.2 28) (j : Int) v)) 29 (zu (s.2 29) (j : Int) w)) := zE_a z1 rfl
    refine ⟨x2, ih (j + 1) (a3 + 1) _ hd2 e3 (by omega) (vB_E z2 rfl (by decide) hv) h20 q1 q2 (fun s1 r1 r2 z => hQ s1 r1 r2 (zE_t z2 z))⟩
/-- keep -/
theorem ct_77 (hd : 2 ≤ d) (hX : tX t s) (hf : chF (s.2 2)) (hf2 : chF (s.2 27)) (l27 : (s.2 27).length = 200) (l28 : (s.2 28).length = 100) (l29 : (s.2 29).length = 100) (hv : vB t L C s) (hA : Ax (lx t) L C) (hL : (L.length : Int) + 1 ≤ 40) (Q : zS → Prop) (hQ : ∀ s1, s1.1 19 = nI t.length → (s1.1 20).toInt = (C.length : Int) → tx_in t (s1.2 27) → chF (s1.2 27) → zP 100 (C.map (rsv t (lx t) L C)) (s1.2 28) → zP 100 (C.map (fov t (lx t) L C)) (s1.2 29) → zE [19, 20] [27, 28, 29] s s1 → Q s1) : zWv xs d 77 0 [(0, .ref 28), (1, .ref 3), (2, .ref 17)] s Q := by
  obtain ⟨d, rfl⟩ : ∃ e, d = e + 1 := ⟨d - 1, by omega⟩
  have h200 := hX.2.2.1
  have l2 := hX.2.1
  have en : s.1 1 = nI t.length := nI_e hX.1 (by omega)
  refine vc_77_0 xs d s Q t.length en (by omega) (by omega) (by omega) hf (vc_77_17 xs d _ Q ?_)
  have z0 : zE [19, 20] [27, 28, 29] s (zf (zf (za s 27 (am_cp (s.2 2) (s.2 27) 0 0 t.length)) 19 (s.1 1)) 20 (s.1 7)) := zE_f (zE_f (zE_a (zE_r s) rfl) rfl) rfl
  refine ct_77l xs d (by omega) hA hL Q C 0 0 _ List.drop_zero rfl (Nat.zero_le _) (vB_E z0 rfl (by decide) hv) hv.1.1 (zP_nil l28) (zP_nil l29) (fun s1 r1 r2 z => hQ s1 ?_ ?_ ?_ ?_ r1 r2 (zE_t z0 (zE_c z (by decide) (by decide))))
  · rw [z.1 19 rfl]; exact en
  · rw [z.1 20 rfl]; exact hv.1.1
  · rw [z.2 27 rfl]; exact tx_cp0 hX.2 l27
  · rw [z.2 27 rfl]; exact chF_cp hf hf2 _
/-- putBack -/
theorem ct_78 (hd : 1 ≤ d) (h19 : s.1 19 = nI t.length) (hi : tx_in t (s.2 27)) (hf2 : chF (s.2 27)) (hf : chF (s.2 2)) (l2 : (s.2 2).length = 200) (Q : zS → Prop) (hQ : ∀ s1, tX t s1 → chF (s1.2 2) → zE [1] [2] s s1 → Q s1) : zWv xs d 78 0 [(0, .ref 28), (1, .ref 3)] s Q := by
  obtain ⟨d, rfl⟩ : ∃ e, d = e + 1 := ⟨d - 1, by omega⟩
  have h200 := hi.2.1
  have l27 := hi.1
  refine vc_78_0 xs d s Q t.length h19 (by omega) (by omega) (by omega) hf2 (vc_78_17 xs d _ Q (hQ _ ⟨?_, tx_cp0 hi l2⟩ (chF_cp hf2 hf _) (zE_f (zE_a (zE_r s) rfl) rfl)))
  show (s.1 19).toInt = _
  rw [h19, ti_nI (by omega)]
theorem ct_79l (hd : 1 ≤ d) (hv : vB t L C s) (hA : Ax (lx t) L C) (hL : (L.length : Int) + 1 ≤ 40) {A F : List Int} (h20 : (s.1 20).toInt = (C.length : Int)) (hp : zP 100 A (s.2 28)) (hq : zP 100 F (s.2 29)) (lA : A.length = C.length) (lF : F.length = C.length) (Q : Int32 → zS → Prop) (hQ : Q (zb (eqB (C.map (rsv t (lx t) L C)) A (C.map (fov t (lx t) L C)) F C.length)) s) : ∀ (B : List pOc) (j : Nat) (a2 : Int32), C.drop j = B → a2.toInt = j → j ≤ C.length → eqB (C.map (rsv t (lx t) L C)) A (C.map (fov t (lx t) L C)) F j = true → zWi xs (d + 1) 79 15 [(0, .ref 28), (1, .ref 17), (2, .int a2)] s Q := by
  have hcl : C.length ≤ 100 := by have := hv.1.2.1.2.1; rw [List.length_map] at this; exact this
  intro B
  induction B with
  | nil =>
    intro j a2 hdr h2 hj he
    have := dr_0 hdr
    have hj2 : j = C.length := by omega
    rw [← hj2, he] at hQ
    exact vc_79_15 xs d s a2 Q ⟨fun h => by omega, fun _ => hQ⟩
  | cons y B ih =>
    intro j a2 hdr h2 hj he
    obtain ⟨hy, hd2, hlt⟩ := dr_x hdr
    have e2 : (a2 + 1).toInt = ((j + 1 : Nat) : Int) := ti_inc h2 (by omega)
    obtain ⟨x1, x2⟩ := li_g hp (j := j) (by omega)
    obtain ⟨y1, y2⟩ := li_g hq (j := j) (by omega)
    have no : ¬ (rsv t (lx t) L C y = A.getD j 0 ∧ fov t (lx t) L C y = F.getD j 0) → Q 0 s := fun h => by
      rw [eqB_f hlt (by rw [mp_g hy, mp_g hy]; exact h)] at hQ
      exact hQ
    refine vc_79_15 xs d s a2 Q ⟨fun _ => ct_38 xs d hv hA hL hy a2 h2 _ (fun v k => ?_), fun h => by omega⟩
    rw [h2, x2, k]
    refine ⟨x1, fun g1 => ct_36 xs d hd hv hy a2 h2 _ (fun w m => ?_), fun g1 => no (fun h => g1 h.1)⟩
    rw [y2, m]
    refine ⟨y1, fun g2 => ih (j + 1) (a2 + 1) hd2 e2 (by omega) ?_, fun g2 => no (fun h => g2 h.2)⟩
    rw [eqB_s, he, mp_g hy, mp_g hy, decide_eq_true g1, decide_eq_true g2]; rfl
/-- agrees -/
theorem ct_79 (hd : 2 ≤ d) (hv : vB t L C s) (hA : Ax (lx t) L C) (hL : (L.length : Int) + 1 ≤ 40) {A F : List Int} {n : Nat} (h20 : (s.1 20).toInt = (n : Int)) (hp : zP 100 A (s.2 28)) (hq : zP 100 F (s.2 29)) (lA : A.length = n) (lF : F.length = n) (Q : Int32 → zS → Prop) (hQ : Q (zb (decide (C.map (rsv t (lx t) L C) = A ∧ C.map (fov t (lx t) L C) = F))) s) : zWi xs d 79 0 [(0, .ref 28), (1, .ref 17)] s Q := by
  obtain ⟨d, rfl⟩ : ∃ e, d = e + 1 := ⟨d - 1, by omega⟩
  refine vc_79_0 xs d s Q ?_
  rw [hv.1.1, h20]
  refine ⟨fun h => ?_, fun h => ?_⟩
  · have hn : n = C.length := by omega
    subst hn
    refine ct_79l xs d (by omega) hv hA hL h20 hp hq lA lF Q ?_ C 0 0 List.drop_zero rfl (Nat.zero_le _) rfl
    rw [eqB_d (List.length_map ..) lA (List.length_map ..) lF]
    exact hQ
  · rw [decide_eq_false (fun e => h (by have := congrArg List.length e.1; rw [List.length_map] at this; omega))] at hQ
    exact hQ
/-- respell -/
theorem ct_125l (hd : 2 ≤ d) (ht : tOk t) {o : pO} (hA : Acc t o) {x : pOc} {e : Int64} {i : Nat} (hx : o.2.2.2.2.1[i]? = some x) (hm : ¬ 200 < rnL t o x e) (a1 : Int32) (h1 : a1.toInt = i) (Q : zS → Prop) : ∀ (j : Nat) (a4 : Int32) (s : zS), j ≤ o.2.2.2.2.1.length → a4.toInt = (j : Int) - 1 → vB t o.2.2.1 o.2.2.2.2.1 s → tX (rnT t (lx t) (sV t (lx t) o.2.2.1 o.2.2.2.2.1 x) e (o.2.2.2.2.1.drop j)) s → chF (s.2 2) → (∀ s1, tX (rnU t o x e) s1 → chF (s1.2 2) → zE [1] [2] s s1 → Q s1) → zWv xs (d + 1) 125 11 [(0, .ref 2), (1, .int a1), (2, .long e), (4, .int a4)] s Q := by
  have hC := hA.2.2.2.2.1
  intro j
  induction j with
  | zero =>
    intro a4 s hj h4 hv hX hf hQ
    rw [List.drop_zero] at hX
    exact vc_125_11 xs d s a1 e a4 Q ⟨fun _ => hQ s hX hf (zE_r s), fun h => by omega⟩
  | succ j ih =>
    intro a4 s hj h4 hv hX hf hQ
    have hlt : j < o.2.2.2.2.1.length := by omega
    obtain ⟨y, hy⟩ := ge_x hlt
    have hdr : o.2.2.2.2.1.drop j = y :: o.2.2.2.2.1.drop (j + 1) := by
      rw [List.drop_eq_getElem_cons hlt]
      rw [List.getElem?_eq_getElem hlt] at hy
      cases hy
      rfl
    have h4j : a4.toInt = (j : Int) := by omega
    have e4 : (a4 + (-1)).toInt = (j : Int) - 1 := zm_1 h4j ⟨by omega, by omega⟩
    obtain ⟨hO, ⟨S, hS⟩, hof, hkd⟩ := hv
    obtain ⟨c1, c2, _, _, _, c6, c7, _⟩ := oR_g hO hy
    refine vc_125_11 xs d s a1 e a4 Q ⟨fun h => by omega, fun _ => ct_35v xs d hS hof hx hy a1 a4 h1 h4j _ ?_⟩
    cases hs : sV t (lx t) o.2.2.1 o.2.2.2.2.1 x y with
    | false =>
      refine ⟨fun _ => ih _ s (by omega) e4 ⟨hO, ⟨S, hS⟩, hof, hkd⟩ ?_ hf hQ, fun h => absurd rfl h⟩
      rw [hdr, rnT_n hs]; exact hX
    | true =>
      refine ⟨fun h => absurd h (by decide), fun _ => ?_⟩
      rw [h4j]
      refine ⟨c1, vc_31_0 xs d s a4 _ ?_⟩
      rw [h4j]
      obtain ⟨q1, q2⟩ := rn_s ht hA hm hdr hs
      obtain ⟨b1, b2, b3⟩ := (tkB_lx ht).2 y.1
      have h200 := ht.1
      have hw : (zg (s.2 17) (j : Int) - zg (s.2 16) (j : Int)).toInt = (((te (lx t) y.1).toNat - (tb (lx t) y.1).toNat : Nat) : Int) := by
        rw [ti_sub (by rw [c6, c7]; exact ⟨by omega, by omega⟩), c6, c7]
        omega
      refine ⟨c2, c1, ct_86 xs d hd hX hf q1 q2 _ _ (by rw [c6]; omega) hw _ (fun s1 k1 k2 z => ?_)⟩
      refine ih _ s1 (by omega) e4 (vB_E z rfl (by decide) ⟨hO, ⟨S, hS⟩, hof, hkd⟩) ?_ k2 (fun s2 m1 m2 z2 => hQ s2 m1 m2 (zE_t z z2))
      rw [hdr, rnT_p hs]; exact k1
theorem ct_125 (hd : 3 ≤ d) (ht : tOk t) {o : pO} (hA : Acc t o) {x : pOc} {e : Int64} {i : Nat} (hx : o.2.2.2.2.1[i]? = some x) (hm : ¬ 200 < rnL t o x e) (a1 : Int32) (h1 : a1.toInt = i) (hv : vB t o.2.2.1 o.2.2.2.2.1 s) (hX : tX t s) (hf : chF (s.2 2)) (Q : zS → Prop) (hQ : ∀ s1, tX (rnU t o x e) s1 → chF (s1.2 2) → zE [1] [2] s s1 → Q s1) : zWv xs d 125 0 [(0, .ref 2), (1, .int a1), (2, .long e)] s Q := by
  obtain ⟨d, rfl⟩ : ∃ e, d = e + 1 := ⟨d - 1, by omega⟩
  have hC := hA.2.2.2.2.1
  refine vc_125_0 xs d s a1 e Q (ct_125l xs d (by omega) ht hA hx hm a1 h1 Q o.2.2.2.2.1.length _ s (Nat.le_refl _) (ti_m1 hv.1.1 (by omega) (by omega)) hv ?_ hf hQ)
  rw [List.drop_length]; exact hX
/-- isFine -/
theorem ct_128 (hd : 1 ≤ d) (ht : tOk t) (hF : cF t s) (Q : Int32 → zS → Prop) (h1 : (∀ st o, pr t = .inr (st, o) → (erO t o).1 ≠ 0) → Q 0 s) (h2 : ∀ (st : pS) (o : pO), pr t = .inr (st, o) → Acc t o → bnR t (lx t) o.2.2.1 o.2.2.2.2.1 s → (erO t o).1 = 0 → Q 1 s) : zWi xs d 128 0 [(0, .ref 2)] s Q := by
  obtain ⟨d, rfl⟩ : ∃ e, d = e + 1 := ⟨d - 1, by omega⟩
  refine vc_128_0 xs d s _ (c_acc xs d ht hF _ (fun e hr a b => ⟨fun _ => h1 (fun st o hr2 => by rw [hr] at hr2; cases hr2), fun h => absurd rfl h⟩) (fun st o hr hc a b => ⟨fun h => absurd h (by decide), fun _ => ⟨fun h0 => h2 st o hr hc b ?_, fun h0 => h1 (fun st2 o2 hr2 e => ?_)⟩⟩))
  · rw [← h0]; exact b.2.2.1.1.symm
  · rw [hr] at hr2
    cases hr2
    exact h0 (by rw [← e]; exact b.2.2.1.1)
end RC
