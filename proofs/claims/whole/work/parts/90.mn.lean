/-! The reference: search, meant, isKnown, resolved. -/
section PU
variable (t : List Int32) (T : List lxT) (L : List pSc) (C : List pOc)
def sAll (sc : Int) (i : Nat) (r q : Int) : Bool := sm t T C sc i r q C.length
def srch : Nat → Int → Nat → Int
  | 0, _, _ => -1
  | k + 1, p, i => if p = 0 then -1 else if (0 :: sP L).getD p.toNat 0 = 0 then -1 else if (0 :: sS L).getD ((0 :: sP L).getD p.toNat 0).toNat 0 = 2 then srch k ((0 :: sP L).getD p.toNat 0) i else if sAll t T C ((0 :: sP L).getD p.toNat 0) i 4 4 = true then -1 else if sAll t T C ((0 :: sP L).getD p.toNat 0) i 1 3 = true ∧ sAll t T C ((0 :: sP L).getD p.toNat 0) i 5 5 = false then (0 :: sP L).getD p.toNat 0 else srch k ((0 :: sP L).getD p.toNat 0) i
def mnt (x : pOc) : Int := if sAll t T C x.2.2.1 x.1 4 4 = true then 256 else if x.2.2.1 = 0 then 320 else if sAll t T C x.2.2.1 x.1 5 5 = false ∧ sAll t T C x.2.2.1 x.1 1 3 = true then 64 + x.2.2.1 else if srch t T L C x.2.2.1.toNat x.2.2.1 x.1 < 0 then 320 else 192 + srch t T L C x.2.2.1.toNat x.2.2.1 x.1
def knP (i : Nat) (y : pOc) : Bool := decide (1 ≤ pmr y.2.2.2 ∧ pmr y.2.2.2 ≤ 3) && (eqT t T y.1 i && (decide (y.2.2.1 = 0) || sAll t T C y.2.2.1 i 4 4))
def kno (i : Nat) : Bool := C.any (knP t T C i)
def frP (x : pOc) (y : pOc) : Bool := eqT t T y.1 x.1 && (!decide (y.2.2.1 = x.2.2.1) && decide (mnt t T L C y = 192 + (mnt t T L C x) % 64))
def rsv (x : pOc) : Int := (if mnt t T L C x / 64 = 1 then (if C.any (frP t T L C x) = true then 2 else 1) else if mnt t T L C x / 64 = 5 then (if kno t T C x.1 = true then 5 else 6) else mnt t T L C x / 64) + 8 * (mnt t T L C x % 64) + 512 * x.2.2.1
end PU
section RP
variable {t : List Int32} {T : List lxT} {L : List pSc} {C : List pOc}
theorem ax_ps (hA : Ax T L C) {p : Int} (h0 : 0 < p) (h1 : p < (L.length : Int) + 1) : 0 ≤ (0 :: sP L).getD p.toNat 0 ∧ (0 :: sP L).getD p.toNat 0 < p := by
  obtain ⟨i, hi⟩ : ∃ i, p.toNat = i + 1 := ⟨p.toNat - 1, by omega⟩
  have hil : i < L.length := by omega
  obtain ⟨A, B, r, hL, hAl⟩ : ∃ A B r, L = A ++ r :: B ∧ A.length = i := ⟨L.take i, L.drop (i + 1), L[i], by rw [List.getElem_cons_drop, List.take_append_drop], List.length_take_of_le (by omega)⟩
  have h2 := ax_p hA hL
  have e : (0 :: sP L).getD p.toNat 0 = r.2.1 := by
    rw [hi]
    show (sP L).getD i 0 = _
    unfold sP
    rw [hL, List.map_append, getD_app, if_neg (by rw [List.length_map]; omega), List.length_map, hAl, Nat.sub_self]
    rfl
  rw [e]
  omega
theorem srch_b (hA : Ax T L C) (i : Nat) : ∀ (k : Nat) (p : Int), 0 ≤ p → p < (L.length : Int) + 1 → srch t T L C k p i = -1 ∨ (0 < srch t T L C k p i ∧ srch t T L C k p i < p) := by
  intro k
  induction k with
  | zero => intro p _ _; exact Or.inl rfl
  | succ k ih =>
    intro p h0 h1
    unfold srch
    split
    · exact Or.inl rfl
    · rename_i hp
      obtain ⟨g1, g2⟩ := ax_ps hA (p := p) (by omega) h1
      split
      · exact Or.inl rfl
      · rename_i hq
        have hr := ih ((0 :: sP L).getD p.toNat 0) g1 (by omega)
        split
        · rcases hr with e | e
          · exact Or.inl e
          · exact Or.inr ⟨e.1, by omega⟩
        · split
          · exact Or.inl rfl
          · split
            · exact Or.inr ⟨by omega, g2⟩
            · rcases hr with e | e
              · exact Or.inl e
              · exact Or.inr ⟨e.1, by omega⟩
end RP
section MN
variable (xs : Option (List Int32)) (d : Nat) {t : List Int32} {T : List lxT} {L : List pSc} {C : List pOc} {s : zS}
theorem nR_s (hN : nR T L C s) (a : Int32) (h0 : 0 ≤ a.toInt) (h1 : a.toInt < (L.length : Int) + 1) : zX (s.2 44) a.toInt ∧ (zg (s.2 44) a.toInt).toInt = (0 :: sS L).getD a.toInt.toNat 0 := by
  have e : (mRow T :: L).map (fun x => x.1) = 0 :: sS L := rfl
  refine ⟨(wX hN.2.1 h0 (by rw [List.length_cons]; omega)).1, ?_⟩
  rw [← e]
  exact zP_get hN.2.1.2.1 h0 (by rw [List.length_map, List.length_cons]; omega)
theorem ct_173a (hd : 4 ≤ d) (hN : nR T L C s) (hA : Ax T L C) (ht : tM t s) (hB : tkB t T) {i : Nat} (hi : i < T.length) (sc r q : Int) (a1 a2 a3 a4 : Int32) (h1 : a1.toInt = sc) (h2 : a2.toInt = i) (h3 : a3.toInt = r) (h4 : a4.toInt = q) (Q : Int32 → zS → Prop) (hQ : Q (zb (sAll t T C sc i r q)) s) : zWi xs d 173 0 [(0, .ref 32), (1, .int a1), (2, .int a2), (3, .int a3), (4, .int a4), (5, .int (s.1 32))] s Q := ct_173 xs d hd hN hA ht hB hi sc r q C.length (Nat.le_refl _) a1 a2 a3 a4 _ h1 h2 h3 h4 hN.2.2.2.1 Q hQ
theorem ct_174l (hd : 5 ≤ d) (hN : nR T L C s) (hA : Ax T L C) (ht : tM t s) (hB : tkB t T) {i : Nat} (hi : i < T.length) (a2 : Int32) (h2 : a2.toInt = i) (Q : Int32 → zS → Prop) : ∀ (k : Nat) (a3 : Int32), 0 ≤ a3.toInt → a3.toInt < (L.length : Int) + 1 → a3.toInt.toNat ≤ k → (∀ v : Int32, v.toInt = srch t T L C k a3.toInt i → Q v s) → zWi xs d 174 2 [(0, .ref 32), (2, .int a2), (3, .int a3)] s Q := by
  obtain ⟨d, rfl⟩ : ∃ e, d = e + 1 := ⟨d - 1, by omega⟩
  have em : ∀ x : Int, x = -1 → ((-1 : Int32)).toInt = x := fun x hx => by rw [hx]; decide
  intro k
  induction k with
  | zero =>
    intro a3 h0 h1 hk hQ
    exact vc_174_2 xs d s a2 a3 Q ⟨fun _ => hQ (-1) (em _ rfl), fun h => by omega⟩
  | succ k ih =>
    intro a3 h0 h1 hk hQ
    refine vc_174_2 xs d s a2 a3 Q ⟨fun h => hQ (-1) (em _ (by rw [srch, if_pos h])), fun h => ?_⟩
    obtain ⟨g1, g2⟩ := ax_ps hA (p := a3.toInt) (by omega) h1
    refine ct_167 xs d (by omega) hN hA a3 h0 h1 _ (fun v hv => ?_)
    rw [← hv] at g1 g2
    refine ⟨fun hz => ?_, fun hz => ?_⟩
    · refine vc_174_2 xs d s a2 v Q ⟨fun _ => hQ (-1) (em _ ?_), fun h => absurd hz h⟩
      rw [srch, if_neg h, if_pos (by rw [← hv]; exact hz)]
    · obtain ⟨z1, z2⟩ := nR_s hN v g1 (by omega)
      have hgo : srch t T L C (k + 1) a3.toInt i = srch t T L C k v.toInt i → zWi xs (d + 1) 174 2 [(0, .ref 32), (2, .int a2), (3, .int v)] s Q := fun e => ih v g1 (by omega) (by omega) (fun w hw => hQ w (by rw [e]; exact hw))
      rw [z2]
      refine ⟨z1, fun hs => hgo ?_, fun hs => ct_173a xs d (by omega) hN hA ht hB hi v.toInt 4 4 v a2 4 4 rfl h2 rfl rfl _ ?_⟩
      · rw [srch, if_neg h, ← hv, if_neg hz, if_pos hs]
      · cases h4 : sAll t T C v.toInt i 4 4 with
        | true =>
          refine ⟨fun h => absurd h (by decide), fun _ => hQ (-1) (em _ ?_)⟩
          rw [srch, if_neg h, ← hv, if_neg hz, if_neg hs, if_pos h4]
        | false =>
          refine ⟨fun _ => ct_173a xs d (by omega) hN hA ht hB hi v.toInt 1 3 v a2 1 3 rfl h2 rfl rfl _ ?_, fun h => absurd rfl h⟩
          cases h13 : sAll t T C v.toInt i 1 3 with
          | false =>
            refine ⟨fun _ => hgo ?_, fun h => absurd rfl h⟩
            rw [srch, if_neg h, ← hv, if_neg hz, if_neg hs, if_neg (by rw [h4]; decide), if_neg (by rw [h13]; intro e; exact absurd e.1 (by decide))]
          | true =>
            refine ⟨fun h => absurd h (by decide), fun _ => ct_173a xs d (by omega) hN hA ht hB hi v.toInt 5 5 v a2 5 5 rfl h2 rfl rfl _ ?_⟩
            cases h5 : sAll t T C v.toInt i 5 5 with
            | false =>
              refine ⟨fun _ => hQ v ?_, fun h => absurd rfl h⟩
              rw [srch, if_neg h, ← hv, if_neg hz, if_neg hs, if_neg (by rw [h4]; decide), if_pos ⟨h13, h5⟩]
            | true =>
              refine ⟨fun h => absurd h (by decide), fun _ => hgo ?_⟩
              rw [srch, if_neg h, ← hv, if_neg hz, if_neg hs, if_neg (by rw [h4]; decide), if_neg (by rw [h5]; intro e; exact absurd e.2 (by decide))]
/-- search -/
theorem ct_174 (hd : 5 ≤ d) (hN : nR T L C s) (hA : Ax T L C) (ht : tM t s) (hB : tkB t T) {i : Nat} (hi : i < T.length) (a1 a2 : Int32) (h0 : 0 ≤ a1.toInt) (h1 : a1.toInt < (L.length : Int) + 1) (h2 : a2.toInt = i) (Q : Int32 → zS → Prop) (hQ : ∀ v : Int32, v.toInt = srch t T L C a1.toInt.toNat a1.toInt i → Q v s) : zWi xs d 174 0 [(0, .ref 32), (1, .int a1), (2, .int a2)] s Q := by
  have hd0 := hd
  obtain ⟨d, rfl⟩ : ∃ e, d = e + 1 := ⟨d - 1, by omega⟩
  exact vc_174_0 xs d s a1 a2 Q (ct_174l xs (d + 1) hd0 hN hA ht hB hi a2 h2 Q _ a1 h0 h1 (Nat.le_refl _) hQ)
/-- meant -/
theorem ct_179 (hd : 6 ≤ d) (hN : nR T L C s) (hA : Ax T L C) (ht : tM t s) (hB : tkB t T) {o : Nat} {x : pOc} (hx : C[o]? = some x) (a1 : Int32) (h1 : a1.toInt = o) (Q : Int32 → zS → Prop) (hQ : ∀ v : Int32, v.toInt = mnt t T L C x → Q v s) : zWi xs d 179 0 [(0, .ref 32), (1, .int a1)] s Q := by
  obtain ⟨d, rfl⟩ : ∃ e, d = e + 1 := ⟨d - 1, by omega⟩
  have hm : x ∈ C := List.mem_of_getElem? hx
  have hi := (hA.tok x hm).1
  obtain ⟨n1, n2⟩ := nR_nm hN hx
  have hb := ax_b hA hm
  have hLl : (L.length : Int) + 1 ≤ 40 := by
    have := hN.2.1.2.1.2.1
    rw [List.length_map, List.length_cons] at this
    omega
  refine vc_179_0 xs d s a1 Q ?_
  rw [h1]
  refine ⟨n1, ct_168 xs d (by omega) hN hA hx a1 h1 _ (fun v hv => ct_173a xs d (by omega) hN hA ht hB hi x.2.2.1 4 4 v _ 4 4 hv n2 rfl rfl _ ?_)⟩
  have hsrch : (sAll t T C x.2.2.1 x.1 4 4 = false) → (¬ x.2.2.1 = 0) → ¬ (sAll t T C x.2.2.1 x.1 5 5 = false ∧ sAll t T C x.2.2.1 x.1 1 3 = true) → ∀ (w : Int32), w.toInt = srch t T L C v.toInt.toNat v.toInt x.1 → (w.toInt < 0 → Q 320 s) ∧ (¬ w.toInt < 0 → Q (192 + w) s) := by
    intro q4 q0 q5 w hw
    rw [hv] at hw
    refine ⟨fun hneg => hQ 320 ?_, fun hneg => hQ (192 + w) ?_⟩
    · unfold mnt
      rw [if_neg (by rw [q4]; decide), if_neg q0, if_neg q5, ← hw, if_pos hneg]
      rfl
    · unfold mnt
      rw [if_neg (by rw [q4]; decide), if_neg q0, if_neg q5, ← hw, if_neg hneg]
      have hb2 := srch_b (t := t) hA x.1 x.2.2.1.toNat x.2.2.1 hb.1 hb.2
      rw [← hw] at hb2
      have e192 : ((192 : Int32)).toInt = 192 := rfl
      rw [ti_add (by rw [e192]; exact ⟨by omega, by omega⟩), e192]
  cases h4 : sAll t T C x.2.2.1 x.1 4 4 with
  | true =>
    refine ⟨fun h => absurd h (by decide), fun _ => hQ 256 ?_⟩
    unfold mnt
    rw [if_pos h4]
    rfl
  | false =>
    refine ⟨fun _ => ct_173a xs d (by omega) hN hA ht hB hi x.2.2.1 5 5 v _ 5 5 hv n2 rfl rfl _ ?_, fun h => absurd rfl h⟩
    rw [hv]
    refine ⟨fun h0 => hQ 320 ?_, fun h0 => ?_⟩
    · unfold mnt
      rw [if_neg (by rw [h4]; decide), if_pos h0]
      rfl
    · cases h5 : sAll t T C x.2.2.1 x.1 5 5 with
      | true =>
        refine ⟨fun h => absurd h (by decide), fun _ => ct_174 xs d (by omega) hN hA ht hB hi v _ (by omega) (by omega) n2 _ (fun w hw => hsrch h4 h0 (by rw [h5]; intro e; exact absurd e.1 (by decide)) w hw)⟩
      | false =>
        refine ⟨fun _ => ct_173a xs d (by omega) hN hA ht hB hi x.2.2.1 1 3 v _ 1 3 hv n2 rfl rfl _ ?_, fun h => absurd rfl h⟩
        cases h13 : sAll t T C x.2.2.1 x.1 1 3 with
        | false => exact ⟨fun _ => ct_174 xs d (by omega) hN hA ht hB hi v _ (by omega) (by omega) n2 _ (fun w hw => hsrch h4 h0 (by rw [h13]; intro e; exact absurd e.2 (by decide)) w hw), fun h => absurd rfl h⟩
        | true =>
          refine ⟨fun h => absurd h (by decide), fun _ => hQ (64 + v) ?_⟩
          unfold mnt
          rw [if_neg (by rw [h4]; decide), if_neg h0, if_pos ⟨h5, h13⟩]
          have e64 : ((64 : Int32)).toInt = 64 := rfl
          rw [ti_add (by rw [e64]; exact ⟨by omega, by omega⟩), e64, hv]
end MN
