/-! The reference: smallerThan, extent. -/
theorem cS_app (A B : List (Int × Int)) (p w : Int) : cS (A ++ B) p w = cS A p w + cS B p w := by
  unfold cS
  rw [List.filter_append, List.length_append]
theorem cS_s {E : List (Int × Int)} {j : Nat} {e : Int × Int} (hj : E[j]? = some e) (p w : Int) : cS (pdd (E.take (j + 1))) p w = if e ∈ E.take j then cS (pdd (E.take j)) p w else if smE p w e = true then cS (pdd (E.take j)) p w + 1 else cS (pdd (E.take j)) p w := by
  have et : E.take (j + 1) = E.take j ++ [e] := by rw [List.take_add_one, hj]; rfl
  rw [et, pdd_s]
  unfold pdd1
  by_cases h : e ∈ E.take j
  · rw [if_pos ((pdd_mem _ _).mpr h), if_pos h]
  · rw [if_neg (fun g => h ((pdd_mem _ _).mp g)), if_neg h, cS_app]
    cases hs : smE p w e with
    | true => rw [if_pos rfl]; unfold cS; rw [List.filter_cons_of_pos hs]; rfl
    | false => rw [if_neg (by decide)]; unfold cS; rw [List.filter_cons_of_neg (by rw [hs]; decide)]; rfl
theorem cS_le (D : List (Int × Int)) (p w : Int) : cS D p w ≤ D.length := List.length_filter_le _ _
section XM
variable (xs : Option (List Int32)) (d : Nat) {s : zS} {E : List (Int × Int)}
theorem ct_190i (hE : eR E s) {j : Nat} {e : Int × Int} (hj : E[j]? = some e) (a1 a2 a3 a4 : Int32) (h4 : a4.toInt = j) (Q : Int32 → zS → Prop) (h0 : e ∈ E.take j → zWi xs d 190 5 [(0, .ref 32), (1, .int a1), (2, .int a2), (3, .int a3), (4, .int (a4 + 1))] s Q) (h1 : e ∉ E.take j → zWi xs d 190 5 [(0, .ref 32), (1, .int a1), (2, .int a2), (3, .int (a3 + 1)), (4, .int (a4 + 1))] s Q) : ∀ (n i : Nat) (a7 : Int32), j - i = n → i ≤ j → a7.toInt = i → e ∉ E.take i → zWi xs d 190 80 [(0, .ref 32), (1, .int a1), (2, .int a2), (3, .int a3), (4, .int a4), (5, .int 1), (6, .int 0), (7, .int a7)] s Q := by
  have hl : E.length ≤ 1000 := by have := hE.2.1.2.1; rw [List.length_map] at this; exact this
  have hjl : j < E.length := by
    by_cases hh : j < E.length
    · exact hh
    · rw [List.getElem?_eq_none (by omega)] at hj; cases hj
  obtain ⟨m1, m2⟩ := gx_m hE.2.1 (by decide) hj h4
  obtain ⟨n1, n2⟩ := gx_m hE.2.2 (by decide) hj h4
  intro n
  induction n with
  | zero =>
    intro i a7 hn hi h7 hne
    have e0 : i = j := by omega
    subst e0
    exact vc_190_80 xs d s a1 a2 a3 a4 1 0 a7 Q ⟨fun h => by omega, fun _ => ⟨fun h => absurd h (by decide), fun _ => ⟨fun _ => h1 hne, fun h => absurd rfl h⟩⟩⟩
  | succ n ih =>
    intro i a7 hn hi h7 hne
    have hil : i < E.length := by omega
    have hgi : E[i]? = some E[i] := List.getElem?_eq_getElem hil
    have et : E.take (i + 1) = E.take i ++ [E[i]] := by rw [List.take_add_one, hgi]; rfl
    obtain ⟨u1, u2⟩ := gx_m hE.2.1 (by decide) hgi h7
    obtain ⟨w1, w2⟩ := gx_m hE.2.2 (by decide) hgi h7
    have e7 : (a7 + 1).toInt = ((i + 1 : Nat) : Int) := ti_inc h7 (by omega)
    have no : ¬ E[i] = e → zWi xs d 190 80 [(0, .ref 32), (1, .int a1), (2, .int a2), (3, .int a3), (4, .int a4), (5, .int 1), (6, .int 0), (7, .int (a7 + 1))] s Q := fun hx => ih (i + 1) (a7 + 1) (by omega) (by omega) e7 (fun g => by
      rw [et] at g
      rcases List.mem_append.mp g with g | g
      · exact hne g
      · exact hx (List.mem_singleton.mp g).symm)
    refine vc_190_80 xs d s a1 a2 a3 a4 1 0 a7 Q ⟨fun _ => ⟨fun h => absurd h (by decide), fun _ => ⟨fun _ => ?_, fun h => absurd rfl h⟩⟩, fun h => by omega⟩
    rw [m2, n2, u2, w2]
    refine ⟨u1, m1, fun hq1 => ⟨w1, n1, fun hq2 => ?_, fun hq2 => no (fun hx => hq2 (by rw [hx]))⟩, fun hq1 => no (fun hx => hq1 (by rw [hx]))⟩
    have hx : E[i] = e := Prod.ext hq1 hq2
    have hmem : e ∈ E.take j := by
      have h5 : E.take (i + 1) = (E.take j).take (i + 1) := by rw [List.take_take, Nat.min_eq_left (by omega)]
      have h6 : e ∈ E.take (i + 1) := by rw [et, hx]; exact List.mem_append_right _ (List.mem_singleton.mpr rfl)
      rw [h5] at h6
      exact List.mem_of_mem_take h6
    exact vc_190_80 xs d s a1 a2 a3 a4 1 1 (a7 + 1) Q ⟨fun _ => ⟨fun h => absurd h (by decide), fun _ => ⟨fun h => absurd h (by decide), fun _ => h0 hmem⟩⟩, fun _ => ⟨fun h => absurd h (by decide), fun _ => ⟨fun h => absurd h (by decide), fun _ => h0 hmem⟩⟩⟩
theorem ct_190l (hE : eR E s) (hB : xB E) {i : Nat} {f : Int × Int} (hf : E[i]? = some f) (a1 a2 : Int32) (h1 : a1.toInt = i) (hh : hdE a2.toInt f = true) (Q : Int32 → zS → Prop) (hQ : ∀ v : Int32, v.toInt = (cS (pdd E) a2.toInt (wdE f) : Int) → Q v s) : ∀ (n j : Nat) (a3 a4 : Int32), E.length - j = n → j ≤ E.length → a4.toInt = j → a3.toInt = (cS (pdd (E.take j)) a2.toInt (wdE f) : Int) → zWi xs d 190 5 [(0, .ref 32), (1, .int a1), (2, .int a2), (3, .int a3), (4, .int a4)] s Q := by
  have h30 : (s.1 30).toInt = (E.length : Int) := hE.1
  have hl : E.length ≤ 1000 := by have := hE.2.1.2.1; rw [List.length_map] at this; exact this
  obtain ⟨g1, g2⟩ := gx_m hE.2.1 (by decide) hf h1
  obtain ⟨k1, k2⟩ := gx_m hE.2.2 (by decide) hf h1
  have fb := hB f (List.mem_of_getElem? hf)
  have fh := hd_b hh
  intro n
  induction n with
  | zero =>
    intro j a3 a4 hn hj h4 h3
    have e0 : j = E.length := by omega
    subst e0
    refine vc_190_5 xs d s a1 a2 a3 a4 Q ⟨fun h => by omega, fun _ => hQ a3 ?_⟩
    rw [List.take_length] at h3
    exact h3
  | succ n ih =>
    intro j a3 a4 hn hj h4 h3
    have hjl : j < E.length := by omega
    have hgj : E[j]? = some E[j] := List.getElem?_eq_getElem hjl
    obtain ⟨m1, m2⟩ := gx_m hE.2.1 (by decide) hgj h4
    obtain ⟨n1, n2⟩ := gx_m hE.2.2 (by decide) hgj h4
    have eb := hB E[j] (List.mem_of_getElem? hgj)
    have e4 : (a4 + 1).toInt = ((j + 1 : Nat) : Int) := ti_inc h4 (by omega)
    have hst := cS_s hgj a2.toInt (wdE f)
    have hcl := cS_le (pdd (E.take j)) a2.toInt (wdE f)
    have hpl := pdd_le (E.take j)
    rw [List.length_take] at hpl
    have far : ∀ a5 a6 a7 : Int32, a5 = 0 → smE a2.toInt (wdE f) E[j] = false → zWi xs d 190 80 [(0, .ref 32), (1, .int a1), (2, .int a2), (3, .int a3), (4, .int a4), (5, .int a5), (6, .int a6), (7, .int a7)] s Q := by
      intro a5 a6 a7 h5 hs
      subst h5
      have nx : zWi xs d 190 5 [(0, .ref 32), (1, .int a1), (2, .int a2), (3, .int a3), (4, .int (a4 + 1))] s Q := ih (j + 1) a3 (a4 + 1) (by omega) (by omega) e4 (by
        rw [hst, hs, if_neg (show ¬ (false = true) by decide)]
        split <;> exact h3)
      exact vc_190_80 xs d s a1 a2 a3 a4 0 a6 a7 Q ⟨fun _ => ⟨fun _ => nx, fun h => absurd rfl h⟩, fun _ => ⟨fun _ => nx, fun h => absurd rfl h⟩⟩
    refine vc_190_5 xs d s a1 a2 a3 a4 Q ⟨fun _ => ?_, fun h => by omega⟩
    rw [m2, n2, g2, k2]
    refine ⟨m1, fun hq => far _ _ _ rfl ?_, fun hq => ⟨n1, fun hq2 => ⟨k1, g1, ⟨by omega, by omega⟩, ⟨by omega, by omega⟩, fun hw => ?_, fun hw => far _ _ _ rfl ?_⟩, fun hq2 => far _ _ _ rfl ?_⟩⟩
    · unfold smE hdE; rw [decide_eq_false (show ¬ (E[j]).1 ≤ a2.toInt by omega)]; rfl
    · have hs : smE a2.toInt (wdE f) E[j] = true := by
        unfold smE hdE
        rw [decide_eq_true (show (E[j]).1 ≤ a2.toInt by omega), decide_eq_true hq2, decide_eq_true (show wdE E[j] < wdE f from hw)]; rfl
      rw [hs, if_pos rfl] at hst
      have e3 : (a3 + 1).toInt = a3.toInt + 1 := ti_1 rfl (by omega) (by omega)
      refine ct_190i xs d hE hgj a1 a2 a3 a4 h4 Q (fun hm => ih (j + 1) a3 (a4 + 1) (by omega) (by omega) e4 ?_) (fun hm => ih (j + 1) (a3 + 1) (a4 + 1) (by omega) (by omega) e4 ?_) j 0 0 rfl (Nat.zero_le _) rfl (by rw [List.take_zero]; exact List.not_mem_nil)
      · rw [hst, if_pos hm]; exact h3
      · rw [hst, if_neg hm, e3, h3]; omega
    · unfold smE; rw [decide_eq_false (show ¬ wdE E[j] < wdE f from hw), Bool.and_false]
    · unfold smE hdE; rw [decide_eq_false hq2, Bool.and_false, Bool.false_and]
/-- smallerThan -/
theorem ct_190 (hE : eR E s) (hB : xB E) {i : Nat} {f : Int × Int} (hf : E[i]? = some f) (a1 a2 : Int32) (h1 : a1.toInt = i) (hh : hdE a2.toInt f = true) (Q : Int32 → zS → Prop) (hQ : ∀ v : Int32, v.toInt = (cS (pdd E) a2.toInt (wdE f) : Int) → Q v s) : zWi xs d 190 0 [(0, .ref 32), (1, .int a1), (2, .int a2)] s Q :=
  vc_190_0 xs d s a1 a2 Q (ct_190l xs d hE hB hf a1 a2 h1 hh Q hQ _ 0 0 0 rfl (Nat.zero_le _) rfl rfl)
/-- extent, its loop -/
theorem ct_189l (hE : eR E s) (hB : xB E) (h28 : (s.1 28).toInt = 0) (a1 a2 : Int32) (Q : Int32 → zS → Prop) : ∀ (B : List (Int × Int)) (j : Nat) (a3 a4 : Int32), E.drop j = B → a4.toInt = j → (∀ v : Int32, v.toInt = xLst (pdd E) a1.toInt a2.toInt a3.toInt B → Q v s) → zWi xs (d + 1) 189 9 [(0, .ref 32), (1, .int a1), (2, .int a2), (3, .int a3), (4, .int a4)] s Q := by
  have h30 : (s.1 30).toInt = (E.length : Int) := hE.1
  have hl : E.length ≤ 1000 := by have := hE.2.1.2.1; rw [List.length_map] at this; exact this
  intro B
  induction B with
  | nil =>
    intro j a3 a4 hdr h4 hQ
    have := List.drop_eq_nil_iff.mp hdr
    exact vc_189_9 xs d s a1 a2 a3 a4 Q ⟨fun h => by omega, fun _ => hQ a3 rfl⟩
  | cons e B ih =>
    intro j a3 a4 hdr h4 hQ
    obtain ⟨hj, hd2, hlt⟩ := dr_gx hdr
    have e4 : (a4 + 1).toInt = ((j + 1 : Nat) : Int) := ti_inc h4 (by omega)
    obtain ⟨m1, m2⟩ := gx_m hE.2.1 (by decide) hj h4
    obtain ⟨n1, n2⟩ := gx_m hE.2.2 (by decide) hj h4
    have eb := hB e (List.mem_of_getElem? hj)
    have no : fPE (pdd E) a1.toInt a2.toInt e = false → zWi xs (d + 1) 189 9 [(0, .ref 32), (1, .int a1), (2, .int a2), (3, .int a3), (4, .int (a4 + 1))] s Q := fun hn => ih (j + 1) a3 (a4 + 1) hd2 e4 (fun v hv => hQ v (by
      show v.toInt = xLst (pdd E) a1.toInt a2.toInt (if fPE (pdd E) a1.toInt a2.toInt e = true then vE e else a3.toInt) B
      rw [if_neg (by rw [hn]; decide)]; exact hv))
    refine vc_189_9 xs d s a1 a2 a3 a4 Q ⟨fun _ => ⟨fun _ => ?_, fun h => absurd h28 h⟩, fun h => by omega⟩
    rw [m2, n2]
    refine ⟨m1, fun hq => no ?_, fun hq => ⟨n1, fun hq2 => ?_, fun hq2 => no ?_⟩⟩
    · unfold fPE hdE; rw [decide_eq_false (show ¬ e.1 ≤ a1.toInt by omega)]; rfl
    · have hh : hdE a1.toInt e = true := by unfold hdE; rw [decide_eq_true (show e.1 ≤ a1.toInt by omega), decide_eq_true hq2]; rfl
      refine ct_190 xs d hE hB hj a4 a1 h4 hh _ (fun v hv => ?_)
      rw [hv]
      refine ⟨fun hc => ⟨m1, n1, ih (j + 1) _ (a4 + 1) hd2 e4 (fun u hu => hQ u ?_)⟩, fun hc => no ?_⟩
      · show u.toInt = xLst (pdd E) a1.toInt a2.toInt (if fPE (pdd E) a1.toInt a2.toInt e = true then vE e else a3.toInt) B
        rw [if_pos (by unfold fPE; rw [hh, decide_eq_true hc]; rfl), ← vE_32 m2 n2 eb (by omega)]
        exact hu
      · unfold fPE; rw [decide_eq_false hc, Bool.and_false]
    · unfold fPE hdE; rw [decide_eq_false hq2, Bool.and_false, Bool.false_and]
end XM
