/-! extent: the class's Extents.find against the reference's. -/
def hdE (p : Int) (e : Int × Int) : Bool := decide (e.1 ≤ p) && decide (p < e.2)
def wdE (e : Int × Int) : Int := e.2 - e.1
def smE (p w : Int) (e : Int × Int) : Bool := hdE p e && decide (wdE e < w)
def cS (D : List (Int × Int)) (p w : Int) : Nat := (D.filter (smE p w)).length
def fPE (D : List (Int × Int)) (p m : Int) (e : Int × Int) : Bool := hdE p e && decide ((cS D p (wdE e) : Int) = m)
def vE (e : Int × Int) : Int := e.1 + 256 * e.2
def xAns (D : List (Int × Int)) (p m : Int) : List (Int × Int) → Int
  | [] => -1
  | e :: B => if fPE D p m e = true then vE e else xAns D p m B
def xLst (D : List (Int × Int)) (p m : Int) (acc : Int) (E : List (Int × Int)) : Int := E.foldl (fun b e => if fPE D p m e = true then vE e else b) acc
section PU
theorem pdd_mem_l : ∀ (X a : List (Int × Int)) (e : Int × Int), e ∈ X.foldl pdd1 a ↔ (e ∈ a ∨ e ∈ X) := by
  intro X
  induction X with
  | nil => intro a e; simp
  | cons x X ih =>
    intro a e
    rw [List.foldl_cons, ih]
    unfold pdd1
    by_cases h : x ∈ a
    · rw [if_pos h]
      constructor
      · rintro (g | g)
        · exact Or.inl g
        · exact Or.inr (List.mem_cons_of_mem _ g)
      · rintro (g | g)
        · exact Or.inl g
        · rcases List.mem_cons.mp g with g | g
          · subst g; exact Or.inl h
          · exact Or.inr g
    · rw [if_neg h, List.mem_append, List.mem_singleton, List.mem_cons]
      constructor
      · rintro ((g | g) | g)
        · exact Or.inl g
        · exact Or.inr (Or.inl g)
        · exact Or.inr (Or.inr g)
      · rintro (g | g | g)
        · exact Or.inl (Or.inl g)
        · exact Or.inl (Or.inr g)
        · exact Or.inr g
theorem pdd_mem (X : List (Int × Int)) (e : Int × Int) : e ∈ pdd X ↔ e ∈ X := by
  unfold pdd
  rw [pdd_mem_l]
  simp
theorem pdd_nd_l : ∀ (X a : List (Int × Int)), a.Nodup → (X.foldl pdd1 a).Nodup := by
  intro X
  induction X with
  | nil => intro a h; exact h
  | cons x X ih =>
    intro a h
    rw [List.foldl_cons]
    refine ih _ ?_
    unfold pdd1
    by_cases hx : x ∈ a
    · rw [if_pos hx]; exact h
    · rw [if_neg hx]
      refine List.nodup_append.mpr ⟨h, List.nodup_cons.mpr ⟨List.not_mem_nil, List.nodup_nil⟩, fun u hu v hv e => ?_⟩
      rw [List.mem_singleton.mp hv] at e
      subst e
      exact hx hu
theorem pdd_nd (X : List (Int × Int)) : (pdd X).Nodup := pdd_nd_l X [] List.nodup_nil
theorem nd_len (q : Int × Int → Bool) : ∀ (l r : List (Int × Int)), l.Nodup → r.Nodup → (∀ e, e ∈ l ↔ e ∈ r) → (l.filter q).length = (r.filter q).length := by
  intro l
  induction l with
  | nil =>
    intro r _ _ h
    cases r with
    | nil => rfl
    | cons y r => exact absurd ((h y).mpr (List.mem_cons_self ..)) List.not_mem_nil
  | cons x l ih =>
    intro r hl hr h
    obtain ⟨A, B, e⟩ := List.append_of_mem ((h x).mp (List.mem_cons_self ..))
    subst e
    obtain ⟨hx, hl2⟩ := List.nodup_cons.mp hl
    have hr1 := List.nodup_append.mp hr
    have hr2 := List.nodup_cons.mp hr1.2.1
    have hAB : (A ++ B).Nodup := List.nodup_append.mpr ⟨hr1.1, hr2.2, fun u hu v hv => hr1.2.2 u hu v (List.mem_cons_of_mem _ hv)⟩
    have hxA : x ∉ A := fun g => hr1.2.2 x g x (List.mem_cons_self ..) rfl
    have key := ih (A ++ B) hl2 hAB (fun e => by
      have := h e
      rw [List.mem_cons, List.mem_append, List.mem_cons] at this
      rw [List.mem_append]
      constructor
      · intro g
        rcases this.mp (Or.inr g) with k | k | k
        · exact Or.inl k
        · subst k; exact absurd g hx
        · exact Or.inr k
      · intro g
        have k : e = x ∨ e ∈ l := this.mpr (g.imp (fun y => y) Or.inr)
        rcases k with k | k
        · subst k
          rcases g with g | g
          · exact absurd g hxA
          · exact absurd g hr2.1
        · exact k)
    rw [List.filter_append, List.length_append] at key
    rw [List.filter_append, List.length_append]
    cases hq : q x with
    | true => rw [List.filter_cons_of_pos hq, List.filter_cons_of_pos hq, List.length_cons, List.length_cons, key]; omega
    | false => rw [List.filter_cons_of_neg (by rw [hq]; decide), List.filter_cons_of_neg (by rw [hq]; decide), key]
theorem cS_eq {X E : List (Int × Int)} (h : ∀ e, e ∈ X ↔ e ∈ E) (p w : Int) : cS (pdd X) p w = cS (pdd E) p w := nd_len _ _ _ (pdd_nd X) (pdd_nd E) (fun e => by rw [pdd_mem, pdd_mem, h])
theorem cS_lt {D : List (Int × Int)} {p w w1 : Int} {e : Int × Int} (he : e ∈ D) (hd : hdE p e = true) (h1 : w ≤ wdE e) (h2 : wdE e < w1) : cS D p w < cS D p w1 := by
  unfold cS
  obtain ⟨A, B, eD⟩ := List.append_of_mem he
  subst eD
  have mono : ∀ l : List (Int × Int), (l.filter (smE p w)).length ≤ (l.filter (smE p w1)).length := by
    intro l
    induction l with
    | nil => exact Nat.le_refl _
    | cons x l ih =>
      cases hq : smE p w x with
      | false =>
        rw [List.filter_cons_of_neg (by rw [hq]; decide)]
        cases hq1 : smE p w1 x with
        | false => rw [List.filter_cons_of_neg (by rw [hq1]; decide)]; exact ih
        | true => rw [List.filter_cons_of_pos hq1, List.length_cons]; omega
      | true =>
        have hq1 : smE p w1 x = true := by
          unfold smE at hq ⊢
          rw [Bool.and_eq_true] at hq ⊢
          have := of_decide_eq_true hq.2
          exact ⟨hq.1, decide_eq_true (by omega)⟩
        rw [List.filter_cons_of_pos hq, List.filter_cons_of_pos hq1, List.length_cons, List.length_cons]
        omega
  have n1 : smE p w e = false := by
    unfold smE
    rw [decide_eq_false (by omega), Bool.and_false]
  have n2 : smE p w1 e = true := by
    unfold smE
    rw [hd, decide_eq_true h2]; rfl
  rw [List.filter_append, List.filter_append, List.length_append, List.length_append, List.filter_cons_of_neg (by rw [n1]; decide), List.filter_cons_of_pos n2, List.length_cons]
  have := mono A
  have := mono B
  omega
theorem fPE_u {D : List (Int × Int)} (hL : Lam D) {p m : Int} {e f : Int × Int} (he : e ∈ D) (hf : f ∈ D) (h1 : fPE D p m e = true) (h2 : fPE D p m f = true) : e = f := by
  unfold fPE at h1 h2
  rw [Bool.and_eq_true] at h1 h2
  have c1 := of_decide_eq_true h1.2
  have c2 := of_decide_eq_true h2.2
  have p1 := h1.1
  have p2 := h2.1
  unfold hdE at p1 p2
  rw [Bool.and_eq_true] at p1 p2
  have q1 := of_decide_eq_true p1.1
  have q2 := of_decide_eq_true p1.2
  have q3 := of_decide_eq_true p2.1
  have q4 := of_decide_eq_true p2.2
  have hw : wdE e = wdE f := by
    rcases Int.lt_trichotomy (wdE e) (wdE f) with h | h | h
    · have := cS_lt he h1.1 (Int.le_refl _) h
      omega
    · exact h
    · have := cS_lt hf h2.1 (Int.le_refl _) h
      omega
  unfold wdE at hw
  have hk := hL e he f hf
  unfold okS at hk
  obtain ⟨e1, e2⟩ := e
  obtain ⟨f1, f2⟩ := f
  simp only at hw hk q1 q2 q3 q4
  have a1 : e1 = f1 := by omega
  have a2 : e2 = f2 := by omega
  rw [a1, a2]
theorem xLst_all {D : List (Int × Int)} {p m acc : Int} : ∀ (E : List (Int × Int)), (∀ e ∈ E, fPE D p m e = true → vE e = acc) → xLst D p m acc E = acc := by
  intro E
  induction E with
  | nil => intro _; rfl
  | cons e E ih =>
    intro h
    show xLst D p m (if fPE D p m e = true then vE e else acc) E = acc
    cases hq : fPE D p m e with
    | true => rw [if_pos rfl, h e (List.mem_cons_self ..) hq]; exact ih (fun f hf => h f (List.mem_cons_of_mem _ hf))
    | false => rw [if_neg (by decide)]; exact ih (fun f hf => h f (List.mem_cons_of_mem _ hf))
theorem xLst_some {D : List (Int × Int)} {p m : Int} {v : Int} : ∀ (E : List (Int × Int)) (acc : Int), (∀ e ∈ E, fPE D p m e = true → vE e = v) → (∃ e ∈ E, fPE D p m e = true) → xLst D p m acc E = v := by
  intro E
  induction E with
  | nil => intro acc _ h; obtain ⟨e, he, _⟩ := h; exact absurd he List.not_mem_nil
  | cons e E ih =>
    intro acc h hx
    show xLst D p m (if fPE D p m e = true then vE e else acc) E = v
    cases hq : fPE D p m e with
    | true =>
      rw [if_pos rfl, h e (List.mem_cons_self ..) hq]
      exact xLst_all E (fun f hf => h f (List.mem_cons_of_mem _ hf))
    | false =>
      rw [if_neg (by decide)]
      refine ih acc (fun f hf => h f (List.mem_cons_of_mem _ hf)) ?_
      obtain ⟨f, hf, hf2⟩ := hx
      rcases List.mem_cons.mp hf with g | g
      · subst g; rw [hq] at hf2; exact absurd hf2 (by decide)
      · exact ⟨f, g, hf2⟩
theorem xAns_c {D : List (Int × Int)} {p m : Int} : ∀ (B : List (Int × Int)), (xAns D p m B = -1 ∧ ∀ e ∈ B, fPE D p m e = false) ∨ ∃ e ∈ B, fPE D p m e = true ∧ xAns D p m B = vE e := by
  intro B
  induction B with
  | nil => exact Or.inl ⟨rfl, fun e he => absurd he List.not_mem_nil⟩
  | cons e B ih =>
    unfold xAns
    cases hq : fPE D p m e with
    | true => exact Or.inr ⟨e, List.mem_cons_self .., hq, if_pos rfl⟩
    | false =>
      rw [if_neg (by decide)]
      rcases ih with ⟨h1, h2⟩ | ⟨f, h1, h2, h3⟩
      · refine Or.inl ⟨h1, fun f hf => ?_⟩
        rcases List.mem_cons.mp hf with g | g
        · subst g; exact hq
        · exact h2 f g
      · exact Or.inr ⟨f, List.mem_cons_of_mem _ h1, h2, h3⟩
theorem x_eq {X E : List (Int × Int)} (h : ∀ e, e ∈ X ↔ e ∈ E) (hL : Lam E) (p m : Int) : xAns (pdd X) p m (pdd X) = xLst (pdd E) p m (-1) E := by
  have hP : fPE (pdd X) p m = fPE (pdd E) p m := by
    funext e
    unfold fPE
    rw [cS_eq h]
  have hLX : Lam (pdd X) := fun a ha b hb => hL a ((h a).mp ((pdd_mem X a).mp ha)) b ((h b).mp ((pdd_mem X b).mp hb))
  rcases xAns_c (D := pdd X) (p := p) (m := m) (pdd X) with ⟨h1, h2⟩ | ⟨f, h1, h2, h3⟩
  · rw [h1, xLst_all E]
    intro e he hq
    rw [← hP, h2 e ((pdd_mem X e).mpr ((h e).mpr he))] at hq
    exact absurd hq (by decide)
  · rw [h3]
    refine (xLst_some E (-1) (fun e he hq => ?_) ⟨f, (h f).mp ((pdd_mem X f).mp h1), by rw [← hP]; exact h2⟩).symm
    rw [← hP] at hq
    rw [fPE_u hLX ((pdd_mem X e).mpr ((h e).mpr he)) h1 hq h2]
theorem dr_gx {α : Type} {C B : List α} {x : α} {j : Nat} (h : C.drop j = x :: B) : C[j]? = some x ∧ C.drop (j + 1) = B ∧ j < C.length := by
  have hj : j < C.length := by
    by_cases hh : j < C.length
    · exact hh
    · rw [List.drop_eq_nil_iff.mpr (by omega)] at h; cases h
  rw [List.drop_eq_getElem_cons hj] at h
  injection h with h1 h2
  exact ⟨by rw [List.getElem?_eq_getElem hj, h1], h2, hj⟩
theorem gx_m {n : Nat} {f : Int × Int → Int} {D : List (Int × Int)} {a : List Int32} (h : zP n (D.map f) a) (hn : n < 2147483648) {j : Nat} {e : Int × Int} (hj : D[j]? = some e) {i : Int} (hi : i = (j : Int)) : zX a i ∧ (zg a i).toInt = f e := by
  subst hi
  have hl := h.2.1
  rw [List.length_map] at hl
  have hj2 : j < D.length := by
    by_cases hh : j < D.length
    · exact hh
    · rw [List.getElem?_eq_none (by omega)] at hj; cases hj
  refine ⟨zP_X h hn (by omega) (by omega), ?_⟩
  rw [zP_get h (by omega) (by rw [List.length_map]; omega), show ((j : Int)).toNat = j by omega, List.getD_eq_getElem?_getD, List.getElem?_map, hj]
  rfl
end PU
def xB (l : List (Int × Int)) : Prop := ∀ e ∈ l, 0 ≤ e.1 ∧ e.2 ≤ 200
theorem vE_32 {a b : Int32} {e : Int × Int} (h1 : a.toInt = e.1) (h2 : b.toInt = e.2) (hb : 0 ≤ e.1 ∧ e.2 ≤ 200) (hw : e.1 < e.2) : (a + (256 * b)).toInt = vE e := by
  have m : (256 * b).toInt = 256 * e.2 := by
    rw [ti_mul (by rw [h2]; show zR (256 * e.2); exact ⟨by omega, by omega⟩), h2]; rfl
  rw [ti_add (by rw [m, h1]; exact ⟨by omega, by omega⟩), m, h1]; rfl
section XC
variable (xs : Option (List Int32)) (d : Nat) {s : zS} {X : List (Int × Int)}
theorem ct_27 (hX : xR X s) {j : Nat} {e : Int × Int} (hj : (pdd X)[j]? = some e) (a1 a2 : Int32) (h1 : a1.toInt = j) (Q : Int32 → zS → Prop) (hQ : Q (zb (hdE a2.toInt e)) s) : zWi xs d 27 0 [(0, .ref 10), (1, .int a1), (2, .int a2)] s Q := by
  obtain ⟨g1, g2⟩ := gx_m hX.2.1 (by decide) hj h1
  obtain ⟨k1, k2⟩ := gx_m hX.2.2 (by decide) hj h1
  unfold hdE at hQ
  refine vc_27_0 xs d s a1 a2 Q ?_
  rw [g2, k2]
  refine ⟨g1, fun h => ?_, fun h => ⟨k1, fun h2 => ?_, fun h2 => ?_⟩⟩
  · rw [decide_eq_false (by omega), Bool.false_and] at hQ; exact hQ
  · rw [decide_eq_true (by omega), decide_eq_true h2] at hQ; exact hQ
  · rw [decide_eq_false h2, Bool.and_false] at hQ; exact hQ
theorem hd_b {p : Int} {e : Int × Int} (h : hdE p e = true) : e.1 ≤ p ∧ p < e.2 := by
  unfold hdE at h
  rw [Bool.and_eq_true] at h
  exact ⟨of_decide_eq_true h.1, of_decide_eq_true h.2⟩
theorem ct_26l (hX : xR X s) (hB : xB (pdd X)) {i : Nat} {f : Int × Int} (hf : (pdd X)[i]? = some f) (a1 a2 : Int32) (h1 : a1.toInt = i) (hh : hdE a2.toInt f = true) (Q : Int32 → zS → Prop) : ∀ (B : List (Int × Int)) (j : Nat) (a3 a4 : Int32), (pdd X).drop j = B → a4.toInt = j → 0 ≤ a3.toInt → a3.toInt ≤ j → (∀ v : Int32, v.toInt = a3.toInt + (cS B a2.toInt (wdE f) : Int) → Q v s) → zWi xs (d + 1) 26 5 [(0, .ref 10), (1, .int a1), (2, .int a2), (3, .int a3), (4, .int a4)] s Q := by
  have h5 : (s.1 5).toInt = ((pdd X).length : Int) := hX.1
  have h204 : (pdd X).length ≤ 204 := by have := hX.2.1.2.1; rw [List.length_map] at this; exact this
  obtain ⟨g1, g2⟩ := gx_m hX.2.1 (by decide) hf h1
  obtain ⟨k1, k2⟩ := gx_m hX.2.2 (by decide) hf h1
  have fb := hB f (List.mem_of_getElem? hf)
  have fh := hd_b hh
  intro B
  induction B with
  | nil =>
    intro j a3 a4 hd h4 h0 hle hQ
    have := List.drop_eq_nil_iff.mp hd
    exact vc_26_5 xs d s a1 a2 a3 a4 Q ⟨fun h => by omega, fun _ => hQ a3 (by show _ = a3.toInt + ((0 : Nat) : Int); omega)⟩
  | cons e B ih =>
    intro j a3 a4 hd h4 h0 hle hQ
    obtain ⟨hj, hd2, hlt⟩ := dr_gx hd
    have e4 : (a4 + 1).toInt = ((j + 1 : Nat) : Int) := ti_inc h4 (by omega)
    obtain ⟨m1, m2⟩ := gx_m hX.2.1 (by decide) hj h4
    obtain ⟨n1, n2⟩ := gx_m hX.2.2 (by decide) hj h4
    have eb := hB e (List.mem_of_getElem? hj)
    have no : smE a2.toInt (wdE f) e = false → zWi xs (d + 1) 26 5 [(0, .ref 10), (1, .int a1), (2, .int a2), (3, .int a3), (4, .int (a4 + 1))] s Q := fun hn => ih (j + 1) a3 (a4 + 1) hd2 e4 h0 (by omega) (fun v hv => hQ v (by
      unfold cS at hv ⊢
      rw [List.filter_cons_of_neg (by rw [hn]; decide)]; exact hv))
    refine vc_26_5 xs d s a1 a2 a3 a4 Q ⟨fun _ => ct_27 xs d hX hj a4 a2 h4 _ ?_, fun h => by omega⟩
    cases hq : hdE a2.toInt e with
    | false => exact ⟨fun _ => no (by unfold smE; rw [hq]; rfl), fun h => absurd rfl h⟩
    | true =>
      have eh := hd_b hq
      refine ⟨fun h => absurd h (by decide), fun _ => ?_⟩
      rw [m2, n2, g2, k2]
      refine ⟨n1, m1, k1, g1, ⟨by omega, by omega⟩, ⟨by omega, by omega⟩, fun hw => ?_, fun hw => no ?_⟩
      · have e3 : (a3 + 1).toInt = a3.toInt + 1 := ti_1 rfl (by omega) (by omega)
        refine ih (j + 1) (a3 + 1) (a4 + 1) hd2 e4 (by omega) (by omega) (fun v hv => hQ v ?_)
        have hs : smE a2.toInt (wdE f) e = true := by unfold smE; rw [hq, decide_eq_true (show wdE e < wdE f from hw)]; rfl
        unfold cS at hv ⊢
        rw [List.filter_cons_of_pos hs, List.length_cons]
        omega
      · unfold smE; rw [decide_eq_false (show ¬ wdE e < wdE f from hw), Bool.and_false]
theorem ct_26 (hd : 1 ≤ d) (hX : xR X s) (hB : xB (pdd X)) {i : Nat} {f : Int × Int} (hf : (pdd X)[i]? = some f) (a1 a2 : Int32) (h1 : a1.toInt = i) (hh : hdE a2.toInt f = true) (Q : Int32 → zS → Prop) (hQ : ∀ v : Int32, v.toInt = (cS (pdd X) a2.toInt (wdE f) : Int) → Q v s) : zWi xs d 26 0 [(0, .ref 10), (1, .int a1), (2, .int a2)] s Q := by
  obtain ⟨d, rfl⟩ : ∃ e, d = e + 1 := ⟨d - 1, by omega⟩
  exact vc_26_0 xs d s a1 a2 Q (ct_26l xs d hX hB hf a1 a2 h1 hh Q (pdd X) 0 0 0 List.drop_zero rfl (by decide) (by decide) (fun v hv => hQ v (by rw [hv]; show (0 : Int) + _ = _; omega)))
theorem ct_25l (hd : 1 ≤ d) (hX : xR X s) (hB : xB (pdd X)) (a1 a2 : Int32) (Q : Int32 → zS → Prop) : ∀ (B : List (Int × Int)) (j : Nat) (a3 : Int32), (pdd X).drop j = B → a3.toInt = j → (∀ v : Int32, v.toInt = xAns (pdd X) a1.toInt a2.toInt B → Q v s) → zWi xs (d + 1) 25 2 [(0, .ref 10), (1, .int a1), (2, .int a2), (3, .int a3)] s Q := by
  have h5 : (s.1 5).toInt = ((pdd X).length : Int) := hX.1
  have h204 : (pdd X).length ≤ 204 := by have := hX.2.1.2.1; rw [List.length_map] at this; exact this
  intro B
  induction B with
  | nil =>
    intro j a3 hdr h3 hQ
    have := List.drop_eq_nil_iff.mp hdr
    exact vc_25_2 xs d s a1 a2 a3 Q ⟨fun h => by omega, fun _ => hQ (-1) (show ((-1 : Int32)).toInt = -1 by decide)⟩
  | cons e B ih =>
    intro j a3 hdr h3 hQ
    obtain ⟨hj, hd2, hlt⟩ := dr_gx hdr
    have e3 : (a3 + 1).toInt = ((j + 1 : Nat) : Int) := ti_inc h3 (by omega)
    obtain ⟨m1, m2⟩ := gx_m hX.2.1 (by decide) hj h3
    obtain ⟨n1, n2⟩ := gx_m hX.2.2 (by decide) hj h3
    have eb := hB e (List.mem_of_getElem? hj)
    have no : fPE (pdd X) a1.toInt a2.toInt e = false → zWi xs (d + 1) 25 2 [(0, .ref 10), (1, .int a1), (2, .int a2), (3, .int (a3 + 1))] s Q := fun hn => ih (j + 1) (a3 + 1) hd2 e3 (fun v hv => hQ v (by unfold xAns; rw [if_neg (by rw [hn]; decide)]; exact hv))
    refine vc_25_2 xs d s a1 a2 a3 Q ⟨fun _ => ct_27 xs d hX hj a3 a1 h3 _ ?_, fun h => by omega⟩
    cases hq : hdE a1.toInt e with
    | false => exact ⟨fun _ => no (by unfold fPE; rw [hq]; rfl), fun h => absurd rfl h⟩
    | true =>
      have eh := hd_b hq
      refine ⟨fun h => absurd h (by decide), fun _ => ct_26 xs d hd hX hB hj a3 a1 h3 hq _ (fun v hv => ?_)⟩
      rw [hv]
      refine ⟨fun hc => ⟨m1, n1, hQ _ ?_⟩, fun hc => no ?_⟩
      · rw [vE_32 m2 n2 eb (by omega)]
        unfold xAns
        rw [if_pos (by unfold fPE; rw [hq, decide_eq_true hc]; rfl)]
      · unfold fPE; rw [decide_eq_false hc, Bool.and_false]
/-- Extents.find -/
theorem ct_25 (hd : 2 ≤ d) (hX : xR X s) (hB : xB (pdd X)) (a1 a2 : Int32) (Q : Int32 → zS → Prop) (hQ : ∀ v : Int32, v.toInt = xAns (pdd X) a1.toInt a2.toInt (pdd X) → Q v s) : zWi xs d 25 0 [(0, .ref 10), (1, .int a1), (2, .int a2)] s Q := by
  obtain ⟨d, rfl⟩ : ∃ e, d = e + 1 := ⟨d - 1, by omega⟩
  exact vc_25_0 xs d s a1 a2 Q (ct_25l xs d (by omega) hX hB a1 a2 Q (pdd X) 0 0 List.drop_zero rfl hQ)
end XC
