/-! Same spellings; is there such a name. -/
def slT (t : List Int32) (T : List lxT) (i : Nat) : List Int32 := (t.drop (tb T i).toNat).take ((te T i).toNat - (tb T i).toNat)
def eqT (t : List Int32) (T : List lxT) (i j : Nat) : Bool := decide (slT t T i = slT t T j)
/-- the tokens lie in the text -/
def tkB (t : List Int32) (T : List lxT) : Prop := t.length ≤ 200 ∧ ∀ i, 0 ≤ tb T i ∧ tb T i ≤ te T i ∧ te T i ≤ (t.length : Int)
theorem sl_len {t : List Int32} {T : List lxT} (h : tkB t T) (i : Nat) : ((slT t T i).length : Int) = te T i - tb T i := by
  have := h.2 i
  unfold slT
  rw [List.length_take, List.length_drop]
  omega
theorem sl_g {t : List Int32} {T : List lxT} (h : tkB t T) {i m : Nat} (hm : (m : Int) < te T i - tb T i) : (slT t T i)[m]? = t[(tb T i).toNat + m]? := by
  have := h.2 i
  unfold slT
  rw [List.getElem?_take_of_lt (by omega), List.getElem?_drop]
theorem sl_ne {t : List Int32} {T : List lxT} (h : tkB t T) {i j m : Nat} (hm : (m : Int) < te T i - tb T i) (hm2 : (m : Int) < te T j - tb T j) (hne : t.getD ((tb T i).toNat + m) 0 ≠ t.getD ((tb T j).toNat + m) 0) : slT t T i ≠ slT t T j := by
  intro e
  have e1 := sl_g h hm
  have e2 := sl_g h hm2
  rw [e, e2] at e1
  apply hne
  rw [List.getD_eq_getElem?_getD, List.getD_eq_getElem?_getD, e1]
theorem sl_eq {t : List Int32} {T : List lxT} (h : tkB t T) {i j : Nat} (hl : te T i - tb T i = te T j - tb T j) (he : ∀ m : Nat, (m : Int) < te T i - tb T i → t.getD ((tb T i).toNat + m) 0 = t.getD ((tb T j).toNat + m) 0) : slT t T i = slT t T j := by
  have b1 := h.2 i
  have b2 := h.2 j
  apply List.ext_getElem?
  intro m
  by_cases hm : (m : Int) < te T i - tb T i
  · rw [sl_g h hm, sl_g h (by omega)]
    have g := he m hm
    rw [List.getD_eq_getElem?_getD, List.getD_eq_getElem?_getD, List.getElem?_eq_getElem (by omega), List.getElem?_eq_getElem (by omega)] at g
    rw [List.getElem?_eq_getElem (by omega), List.getElem?_eq_getElem (by omega)]
    exact congrArg some g
  · have l1 := sl_len h i
    have l2 := sl_len h j
    rw [List.getElem?_eq_none (by omega), List.getElem?_eq_none (by omega)]
section SM
variable (xs : Option (List Int32)) (d : Nat) {t : List Int32} {T : List lxT} {L : List pSc} {C : List pOc} {s : zS}
theorem ct_170l (hk : mkR T s) (ht : tM t s) (hB : tkB t T) {i j : Nat} (hi : i < T.length) (hj : j < T.length) (hl : te T i - tb T i = te T j - tb T j) (a1 a2 : Int32) (h1 : a1.toInt = i) (h2 : a2.toInt = j) (Q : Int32 → zS → Prop) (hQ : Q (zb (eqT t T i j)) s) : ∀ (n m : Nat) (a4 : Int32), (te T i - tb T i).toNat - m = n → (m : Int) ≤ te T i - tb T i → a4.toInt = m → (∀ q : Nat, q < m → t.getD ((tb T i).toNat + q) 0 = t.getD ((tb T j).toNat + q) 0) → zWi xs d 170 38 [(0, .ref 32), (1, .int a1), (2, .int a2), (3, .int 1), (4, .int a4)] s Q := by
  obtain ⟨_, c2, c3, _, _, c6, c7, _⟩ := mk_c hk hi
  obtain ⟨_, e2, e3, _, _, e6, e7, _⟩ := mk_c hk hj
  have b1 := hB.2 i
  have b2 := hB.2 j
  have b0 := hB.1
  intro n
  induction n with
  | zero =>
    intro m a4 hn hm ha he
    refine vc_170_38 xs d s a1 a2 1 a4 Q ?_
    rw [h1, h2, c6, c7, e6, ha]
    refine ⟨fun h => absurd h (by decide), fun _ => ⟨c3, c2, ⟨by omega, by omega⟩, fun h => by omega, fun _ => ⟨Or.inr rfl, ?_⟩⟩⟩
    have e : eqT t T i j = true := decide_eq_true (sl_eq hB hl (fun q hq => he q (by omega)))
    rw [e] at hQ
    exact hQ
  | succ n ih =>
    intro m a4 hn hm ha he
    have e4 : (a4 + 1).toInt = ((m + 1 : Nat) : Int) := ti_inc ha (by omega)
    have x1 : tb T i + (m : Int) = (((tb T i).toNat + m : Nat) : Int) := by omega
    have x2 : tb T j + (m : Int) = (((tb T j).toNat + m : Nat) : Int) := by omega
    have g1 := tx_g ht.2 (p := (tb T i).toNat + m) (by omega)
    have g2 := tx_g ht.2 (p := (tb T j).toNat + m) (by omega)
    refine vc_170_38 xs d s a1 a2 1 a4 Q ?_
    rw [h1, h2, c6, c7, e6, ha, x1, x2, g1, g2]
    refine ⟨fun h => absurd h (by decide), fun _ => ⟨c3, c2, ⟨by omega, by omega⟩, fun _ => ⟨tx_X ht.2 (by omega), e2, tx_X ht.2 (by omega), fun hh => ?_, fun hh => ?_⟩, fun h => by omega⟩⟩
    · refine ih (m + 1) (a4 + 1) (by omega) (by omega) e4 (fun q hq => ?_)
      by_cases e : q = m
      · subst e; exact ti_ext hh
      · exact he q (by omega)
    · refine vc_170_38 xs d s a1 a2 0 _ Q ⟨fun _ => ⟨Or.inl rfl, ?_⟩, fun h => absurd rfl h⟩
      have e : eqT t T i j = false := decide_eq_false (sl_ne hB (m := m) (by omega) (by omega) (fun e => hh (by rw [e])))
      rw [e] at hQ
      exact hQ
/-- same -/
theorem ct_170 (hk : mkR T s) (ht : tM t s) (hB : tkB t T) {i j : Nat} (hi : i < T.length) (hj : j < T.length) (a1 a2 : Int32) (h1 : a1.toInt = i) (h2 : a2.toInt = j) (Q : Int32 → zS → Prop) (hQ : Q (zb (eqT t T i j)) s) : zWi xs d 170 0 [(0, .ref 32), (1, .int a1), (2, .int a2)] s Q := by
  obtain ⟨_, c2, c3, _, _, c6, c7, _⟩ := mk_c hk hi
  obtain ⟨_, e2, e3, _, _, e6, e7, _⟩ := mk_c hk hj
  have b1 := hB.2 i
  have b2 := hB.2 j
  have b0 := hB.1
  refine vc_170_0 xs d s a1 a2 Q ?_
  rw [h1, h2, c6, c7, e6, e7]
  refine ⟨c3, c2, e3, e2, ⟨by omega, by omega⟩, ⟨by omega, by omega⟩, fun hl => ct_170l xs d hk ht hB hi hj hl a1 a2 h1 h2 Q hQ _ 0 0 rfl (by omega) rfl (fun q hq => absurd hq (Nat.not_lt_zero q)), fun hl => ?_⟩
  refine vc_170_38 xs d s a1 a2 0 _ Q ⟨fun _ => ⟨Or.inl rfl, ?_⟩, fun h => absurd rfl h⟩
  have e : eqT t T i j = false := decide_eq_false (fun e => hl (by rw [← sl_len hB i, ← sl_len hB j, e]))
  rw [e] at hQ
  exact hQ
theorem ct_171 (hN : nR T L C s) (hA : Ax T L C) {o : Nat} {x : pOc} (hx : C[o]? = some x) (a1 : Int32) (h1 : a1.toInt = o) (Q : Int32 → zS → Prop) (hQ : Q (zb (decide (1 ≤ pmr x.2.2.2 ∧ pmr x.2.2.2 ≤ 3))) s) : zWi xs d 171 0 [(0, .ref 32), (1, .int a1)] s Q := by
  have hm : x ∈ C := List.mem_of_getElem? hx
  obtain ⟨n1, n2⟩ := nR_nm hN hx
  obtain ⟨r1, r2⟩ := nR_rl hN hA hm
  refine vc_171_0 xs d s a1 Q ?_
  rw [h1, n2, r2]
  refine ⟨n1, r1, fun h => ?_, fun h => ⟨fun h2 => ?_, fun h2 => ?_⟩⟩
  · rw [decide_eq_false (by omega)] at hQ; exact hQ
  · rw [decide_eq_false (by omega)] at hQ; exact hQ
  · rw [decide_eq_true (by omega)] at hQ; exact hQ
theorem ct_172 (hN : nR T L C s) (hA : Ax T L C) {o : Nat} {x : pOc} (hx : C[o]? = some x) (a1 : Int32) (h1 : a1.toInt = o) (Q : Int32 → zS → Prop) (hQ : Q (zb (decide (4 ≤ pmr x.2.2.2))) s) : zWi xs d 172 0 [(0, .ref 32), (1, .int a1)] s Q := by
  have hm : x ∈ C := List.mem_of_getElem? hx
  obtain ⟨n1, n2⟩ := nR_nm hN hx
  obtain ⟨r1, r2⟩ := nR_rl hN hA hm
  refine vc_172_0 xs d s a1 Q ?_
  rw [h1, n2, r2]
  refine ⟨n1, r1, fun h => ?_, fun h => ?_⟩
  · rw [decide_eq_false (by omega)] at hQ; exact hQ
  · rw [decide_eq_true (by omega)] at hQ; exact hQ
/-- one of scope sc, spelled as token i, with a role from r to q -/
def smP (t : List Int32) (T : List lxT) (sc : Int) (i : Nat) (r q : Int) (x : pOc) : Bool := decide (r ≤ pmr x.2.2.2) && (decide (pmr x.2.2.2 ≤ q) && (eqT t T x.1 i && decide (x.2.2.1 = sc)))
theorem ct_173l (hd : 4 ≤ d) (hN : nR T L C s) (hA : Ax T L C) (ht : tM t s) (hB : tkB t T) {i : Nat} (hi : i < T.length) (sc r q : Int) (e : Nat) (he : e ≤ C.length) (a1 a2 a3 a4 a5 : Int32) (h1 : a1.toInt = sc) (h2 : a2.toInt = i) (h3 : a3.toInt = r) (h4 : a4.toInt = q) (h5 : a5.toInt = e) (Q : Int32 → zS → Prop) : ∀ (B : List pOc) (j : Nat) (a6 : Int32), (C.take e).drop j = B → a6.toInt = j → Q (zb (B.any (smP t T sc i r q))) s → zWi xs d 173 3 [(0, .ref 32), (1, .int a1), (2, .int a2), (3, .int a3), (4, .int a4), (5, .int a5), (6, .int a6)] s Q := by
  obtain ⟨d, rfl⟩ : ∃ e, d = e + 1 := ⟨d - 1, by omega⟩
  have hcl : C.length ≤ 200 := by have := hN.2.2.2.2.2.1; rw [List.length_map] at this; exact this
  intro B
  induction B with
  | nil =>
    intro j a6 hj h6 hQ
    have hje : e ≤ j := by
      have := congrArg List.length hj
      rw [List.length_drop, List.length_take, List.length_nil] at this
      omega
    exact vc_173_3 xs d s a1 a2 a3 a4 a5 a6 Q ⟨fun h => by omega, fun _ => hQ⟩
  | cons x B ih =>
    intro j a6 hj h6 hQ
    have hje : j < e := by
      have := congrArg List.length hj
      rw [List.length_drop, List.length_take, List.length_cons] at this
      omega
    have hx : C[j]? = some x := by
      have g : (C.take e)[j]? = some x := by
        have g2 : ((C.take e).drop j)[0]? = some x := by rw [hj]; rfl
        rw [List.getElem?_drop] at g2
        exact g2
      rw [List.getElem?_take_of_lt hje] at g
      exact g
    have hm : x ∈ C := List.mem_of_getElem? hx
    have hj2 : (C.take e).drop (j + 1) = B := by
      rw [← List.drop_drop, hj]; rfl
    obtain ⟨n1, n2⟩ := nR_nm hN hx
    obtain ⟨r1, r2⟩ := nR_rl hN hA hm
    have e6 : (a6 + 1).toInt = ((j + 1 : Nat) : Int) := ti_inc h6 (by omega)
    have no : smP t T sc i r q x = false → zWi xs (d + 1) 173 3 [(0, .ref 32), (1, .int a1), (2, .int a2), (3, .int a3), (4, .int a4), (5, .int a5), (6, .int (a6 + 1))] s Q := by
      intro hp
      rw [List.any_cons, hp, Bool.false_or] at hQ
      exact ih (j + 1) (a6 + 1) hj2 e6 hQ
    refine vc_173_3 xs d s a1 a2 a3 a4 a5 a6 Q ⟨fun _ => ?_, fun h => by omega⟩
    rw [h6, n2, r2, h3, h4]
    refine ⟨n1, r1, fun h => no ?_, fun h => ⟨fun hh => no ?_, fun hh => ?_⟩⟩
    · unfold smP
      rw [decide_eq_false (by omega), Bool.false_and]
    · unfold smP
      rw [decide_eq_false (p := pmr x.2.2.2 ≤ q) (by omega), Bool.false_and, Bool.and_false]
    · refine ct_170 xs d hN.1 ht hB (hA.tok x hm).1 hi _ a2 n2 h2 _ ?_
      cases hs : eqT t T x.1 i with
      | false =>
        refine ⟨fun _ => no ?_, fun h => absurd rfl h⟩
        unfold smP
        rw [hs, Bool.false_and, Bool.and_false, Bool.and_false]
      | true =>
        refine ⟨fun h => absurd h (by decide), fun _ => ct_168 xs d (by omega) hN hA hx a6 h6 _ (fun v hv => ?_)⟩
        rw [hv, h1]
        refine ⟨fun hb => ?_, fun hb => no ?_⟩
        · have hp : smP t T sc i r q x = true := by
            unfold smP
            rw [decide_eq_true (p := r ≤ pmr x.2.2.2) (by omega), decide_eq_true (p := pmr x.2.2.2 ≤ q) (by omega), hs, decide_eq_true hb]
            rfl
          rw [List.any_cons, hp, Bool.true_or] at hQ
          exact hQ
        · unfold smP
          rw [decide_eq_false hb, Bool.and_false, Bool.and_false, Bool.and_false]
def sm (t : List Int32) (T : List lxT) (C : List pOc) (sc : Int) (i : Nat) (r q : Int) (e : Nat) : Bool := (C.take e).any (smP t T sc i r q)
theorem ct_173 (hd : 4 ≤ d) (hN : nR T L C s) (hA : Ax T L C) (ht : tM t s) (hB : tkB t T) {i : Nat} (hi : i < T.length) (sc r q : Int) (e : Nat) (he : e ≤ C.length) (a1 a2 a3 a4 a5 : Int32) (h1 : a1.toInt = sc) (h2 : a2.toInt = i) (h3 : a3.toInt = r) (h4 : a4.toInt = q) (h5 : a5.toInt = e) (Q : Int32 → zS → Prop) (hQ : Q (zb (sm t T C sc i r q e)) s) : zWi xs d 173 0 [(0, .ref 32), (1, .int a1), (2, .int a2), (3, .int a3), (4, .int a4), (5, .int a5)] s Q := by
  have hd0 := hd
  obtain ⟨d, rfl⟩ : ∃ e, d = e + 1 := ⟨d - 1, by omega⟩
  exact vc_173_0 xs d s a1 a2 a3 a4 a5 Q (ct_173l xs (d + 1) hd0 hN hA ht hB hi sc r q e he a1 a2 a3 a4 a5 h1 h2 h3 h4 h5 Q (C.take e) 0 0 List.drop_zero rfl hQ)
end SM
