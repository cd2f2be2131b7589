/-! The class's parser: what its cells hold. -/
abbrev pM : Type := List (Int × Int) × List Int × List Int × List Int × List pOc × List Nat
def pMo (M : pM) (o : pO) : pM := (M.1 ++ o.1, M.2.1 ++ o.2.2.1.map (fun x => x.1), M.2.2.1 ++ o.2.2.1.map (fun x => x.2.1), M.2.2.2.1 ++ o.2.2.1.map (fun x => x.2.2.1), M.2.2.2.2.1 ++ o.2.2.2.2.1, M.2.2.2.2.2 ++ o.2.2.2.2.2)
theorem pMo_a (M : pM) (a b : pO) : pMo (pMo M a) b = pMo M (pAp a b) := by
  unfold pMo pAp
  simp only [List.append_assoc, List.map_append]
theorem pMo_0 (M : pM) : pMo M pO0 = M := by
  unfold pMo pO0
  simp only [List.append_nil, List.map_nil]
def pdd1 (a : List (Int × Int)) (e : Int × Int) : List (Int × Int) := if e ∈ a then a else a ++ [e]
def pdd (X : List (Int × Int)) : List (Int × Int) := X.foldl pdd1 []
theorem pdd_s (X : List (Int × Int)) (e : Int × Int) : pdd (X ++ [e]) = pdd1 (pdd X) e := by
  unfold pdd
  rw [List.foldl_append]
  rfl
theorem pdd_len (X : List (Int × Int)) : ∀ a : List (Int × Int), (X.foldl pdd1 a).length ≤ a.length + X.length := by
  induction X with
  | nil => intro a; exact Nat.le_refl _
  | cons e r ih =>
    intro a
    have h := ih (pdd1 a e)
    have h2 : (pdd1 a e).length ≤ a.length + 1 := by
      unfold pdd1
      split
      · omega
      · rw [List.length_append]; exact Nat.le_refl _
    show (r.foldl pdd1 (pdd1 a e)).length ≤ _
    rw [List.length_cons]
    omega
theorem pdd_le (X : List (Int × Int)) : (pdd X).length ≤ X.length := by
  have := pdd_len X []
  simp only [List.length_nil, Nat.zero_add] at this
  exact this
def xR (X : List (Int × Int)) (s : zS) : Prop := (s.1 5).toInt = ((pdd X).length : Int) ∧ zP 204 ((pdd X).map (fun e => e.1)) (s.2 9) ∧ zP 204 ((pdd X).map (fun e => e.2)) (s.2 10)
def sR (ss ps ts : List Int) (s : zS) : Prop := (s.1 6).toInt = (ss.length : Int) ∧ ps.length = ss.length ∧ ts.length = ss.length ∧ zP 32 ss (s.2 12) ∧ zP 32 ps (s.2 13) ∧ zP 32 ts (s.2 14)
def oR (T : List lxT) (C : List pOc) (s : zS) : Prop := (s.1 7).toInt = (C.length : Int) ∧ zP 100 (C.map (fun o => tb T o.1)) (s.2 16) ∧ zP 100 (C.map (fun o => te T o.1)) (s.2 17) ∧ zP 100 (C.map (fun o => o.2.1)) (s.2 18) ∧ zP 100 (C.map (fun o => o.2.2.1)) (s.2 19) ∧ zP 100 (C.map (fun o => o.2.2.2)) (s.2 20)
def rR (T : List lxT) (R : List Nat) (s : zS) : Prop := (s.1 16).toInt = (match R with
  | [] => -1
  | t :: _ => tb T t)
def cR (ctx : pC) (s : zS) : Prop := (s.1 12).toInt = ctx.1 ∧ (s.1 13).toInt = (ctx.2.2.2 : Int)
def pCap (M : pM) : Prop := M.2.1.length ≤ 32 ∧ M.2.2.2.2.1.length ≤ 100 ∧ M.1.length ≤ 204
def pV (T : List lxT) (ctx : pC) (M : pM) (s : zS) : Prop := pCap M → xR M.1 s ∧ sR M.2.1 M.2.2.1 M.2.2.2.1 s ∧ oR T M.2.2.2.2.1 s ∧ rR T M.2.2.2.2.2 s ∧ cR ctx s
def pK (T : List lxT) (s : zS) : Prop := tkR T s ∧ (s.2 9).length = 204 ∧ (s.2 10).length = 204 ∧ (s.2 12).length = 32 ∧ (s.2 13).length = 32 ∧ (s.2 14).length = 32 ∧ (s.2 16).length = 100 ∧ (s.2 17).length = 100 ∧ (s.2 18).length = 100 ∧ (s.2 19).length = 100 ∧ (s.2 20).length = 100 ∧ 0 ≤ (s.1 5).toInt ∧ (s.1 5).toInt ≤ 204 ∧ 0 ≤ (s.1 6).toInt ∧ (s.1 6).toInt ≤ 32 ∧ 0 ≤ (s.1 7).toInt ∧ (s.1 7).toInt ≤ 100
def pU (T : List lxT) (st : pS) (s : zS) : Prop := (s.1 8).toInt = st.1 ∧ (s.1 9).toInt = tc T st.1 ∧ (s.1 10).toInt = tb T st.1 ∧ (s.1 11).toInt = st.2.1 ∧ (s.1 14).toInt = 0
def pI (T : List lxT) (ctx : pC) (st : pS) (M : pM) (s : zS) : Prop := pK T s ∧ pU T st s ∧ pV T ctx M s
def pE (s s1 : zS) : Prop := zE [5, 6, 7, 8, 9, 10, 11, 12, 13, 14, 15, 16] [9, 10, 12, 13, 14, 16, 17, 18, 19, 20] s s1
def pFl (T : List lxT) (e : Int × Int) (s : zS) : Prop := pK T s ∧ (s.1 14).toInt = e.1 ∧ (s.1 15).toInt = e.2
theorem pE_r (s : zS) : pE s s := zE_r s
theorem pE_t {s s1 s2 : zS} (h1 : pE s s1) (h2 : pE s1 s2) : pE s s2 := zE_t h1 h2
theorem pCap_m {M : pM} {o : pO} (h : pCap (pMo M o)) : pCap M := by
  obtain ⟨h1, h2, h3⟩ := h
  have e1 : (pMo M o).2.1.length = M.2.1.length + (o.2.2.1.map (fun x => x.1)).length := List.length_append
  have e2 : (pMo M o).2.2.2.2.1.length = M.2.2.2.2.1.length + o.2.2.2.2.1.length := List.length_append
  have e3 : (pMo M o).1.length = M.1.length + o.1.length := List.length_append
  exact ⟨by omega, by omega, by omega⟩
section PC
variable (xs : Option (List Int32)) (d : Nat) {T : List lxT} {ctx : pC} {M : pM}
/-- Extents.add -/
theorem ct_24l {s : zS} (hK : pK T s) (a b : Int32) (Q : zS → Prop) (hQ : ∀ s1, pK T s1 → zE [5] [9, 10] s s1 → (∀ X, X.length < 204 → xR X s → xR (X ++ [(a.toInt, b.toInt)]) s1) → Q s1) : ∀ (n : Nat) (i : Nat) (c : Int32), (s.1 5).toInt - i = n → (i : Int) ≤ (s.1 5).toInt → c.toInt = i → (∀ X, xR X s → ∀ j, j < i → (pdd X).getD j (0, 0) ≠ (a.toInt, b.toInt)) → zWv xs d 24 2 [(0, .ref 10), (1, .int a), (2, .int b), (3, .int c)] s Q := by
  have hK0 := hK
  obtain ⟨k1, k2, k3, k4, k5, k6, k7, k8, k9, k10, k11, k12, k13, k14, k15, k16, k17⟩ := hK
  have hin : ∀ X, xR X s → ∀ i : Nat, i < (pdd X).length → (zg (s.2 9) (i : Int)).toInt = ((pdd X).getD i (0, 0)).1 ∧ (zg (s.2 10) (i : Int)).toInt = ((pdd X).getD i (0, 0)).2 := by
    intro X hX i hi
    obtain ⟨x1, x2, x3⟩ := hX
    constructor
    · rw [zP_get x2 (by omega) (by rw [List.length_map]; omega), show ((i : Int)).toNat = i by omega, List.getD_eq_getElem?_getD, List.getElem?_map, List.getD_eq_getElem?_getD, List.getElem?_eq_getElem hi]; rfl
    · rw [zP_get x3 (by omega) (by rw [List.length_map]; omega), show ((i : Int)).toNat = i by omega, List.getD_eq_getElem?_getD, List.getElem?_map, List.getD_eq_getElem?_getD, List.getElem?_eq_getElem hi]; rfl
  intro n
  induction n with
  | zero =>
    intro i c hn hi hc hne
    refine vc_24_2 xs d s a b c Q ?_
    rw [hc]
    refine ⟨fun h => by omega, fun _ => ⟨fun h204 => ⟨⟨by omega, by omega, by omega⟩, ⟨by omega, by omega, by omega⟩, hQ _ ?_ (zE_f (zE_a (zE_a (zE_r s) rfl) rfl) rfl) ?_⟩, fun h204 => hQ s hK0 (zE_r s) ?_⟩⟩
    · refine ⟨k1, ?_, ?_, k4, k5, k6, k7, k8, k9, k10, k11, ?_, ?_, k14, k15, k16, k17⟩
      · show (zu (s.2 9) (s.1 5).toInt a).length = 204; rw [zu_len]; exact k2
      · show (zu (s.2 10) (s.1 5).toInt b).length = 204; rw [zu_len]; exact k3
      · show 0 ≤ ((s.1 5) + 1).toInt; rw [ti_1 rfl (by omega) (by omega)]; omega
      · show ((s.1 5) + 1).toInt ≤ 204; rw [ti_1 rfl (by omega) (by omega)]; omega
    · intro X hX hx
      obtain ⟨x1, x2, x3⟩ := hx
      have hnm : (a.toInt, b.toInt) ∉ pdd X := by
        intro hm
        obtain ⟨j, hj, e⟩ := List.getElem_of_mem hm
        refine hne X ⟨x1, x2, x3⟩ j (by omega) ?_
        rw [List.getD_eq_getElem?_getD, List.getElem?_eq_getElem hj]
        exact e
      unfold xR
      rw [pdd_s]
      unfold pdd1
      rw [if_neg hnm]
      refine ⟨?_, ?_, ?_⟩
      · show ((s.1 5) + 1).toInt = _
        rw [ti_1 rfl (by omega) (by omega), List.length_append, x1]; rfl
      · show zP 204 _ (zu (s.2 9) (s.1 5).toInt a)
        rw [List.map_append]
        exact zP_add x2 (by rw [List.length_map]; omega) (by rw [List.length_map]; omega)
      · show zP 204 _ (zu (s.2 10) (s.1 5).toInt b)
        rw [List.map_append]
        exact zP_add x3 (by rw [List.length_map]; omega) (by rw [List.length_map]; omega)
    · intro X hX hx
      have := pdd_le X
      have := hx.1
      omega
  | succ n ih =>
    intro i c hn hi hc hne
    refine vc_24_2 xs d s a b c Q ?_
    rw [hc]
    refine ⟨fun hlt => ⟨⟨by omega, by omega, by omega⟩, ?_⟩, fun h => by omega⟩
    have hnext : (∀ X, xR X s → (pdd X).getD i (0, 0) ≠ (a.toInt, b.toInt)) → zWv xs d 24 2 [(0, .ref 10), (1, .int a), (2, .int b), (3, .int (c + 1))] s Q := by
      intro hx
      refine ih (i + 1) (c + 1) (by omega) (by omega) (ti_inc hc (by omega)) (fun X hX j hj => ?_)
      by_cases e : j = i
      · subst e; exact hx X hX
      · exact hne X hX j (by omega)
    refine ⟨fun h9 => ⟨⟨by omega, by omega, by omega⟩, fun h10 => hQ s hK0 (zE_r s) ?_, fun h10 => hnext ?_⟩, fun h9 => hnext ?_⟩
    · intro X hX hx
      have hil : i < (pdd X).length := by have := hx.1; omega
      obtain ⟨g1, g2⟩ := hin X hx i hil
      have hm : (a.toInt, b.toInt) ∈ pdd X := by
        have e : (pdd X)[i] = (a.toInt, b.toInt) := by
          rw [List.getD_eq_getElem?_getD, List.getElem?_eq_getElem hil] at g1 g2
          rw [g1] at h9
          rw [g2] at h10
          exact Prod.ext h9 h10
        rw [← e]
        exact List.getElem_mem hil
      unfold xR
      rw [pdd_s]
      unfold pdd1
      rw [if_pos hm]
      exact hx
    · intro X hx e
      have hil : i < (pdd X).length := by have := hx.1; omega
      obtain ⟨g1, g2⟩ := hin X hx i hil
      rw [e] at g2
      exact h10 g2
    · intro X hx e
      have hil : i < (pdd X).length := by have := hx.1; omega
      obtain ⟨g1, g2⟩ := hin X hx i hil
      rw [e] at g1
      exact h9 g1
theorem ct_24 {s : zS} (hK : pK T s) (a b : Int32) (Q : zS → Prop) (hQ : ∀ s1, pK T s1 → zE [5] [9, 10] s s1 → (∀ X, X.length < 204 → xR X s → xR (X ++ [(a.toInt, b.toInt)]) s1) → Q s1) : zWv xs d 24 0 [(0, .ref 10), (1, .int a), (2, .int b)] s Q := by
  have h5 : 0 ≤ (s.1 5).toInt := hK.2.2.2.2.2.2.2.2.2.2.2.1
  exact vc_24_0 xs d s a b Q (ct_24l xs d hK a b Q hQ (s.1 5).toInt.toNat 0 0 (by omega) (by omega) rfl (fun X _ j hj => absurd hj (Nat.not_lt_zero j)))
end PC
