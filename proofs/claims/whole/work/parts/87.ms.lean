/-! The reference: sorting its scopes, lies, parent, names. -/
theorem zP_sw {n : Nat} {l r : List Int} {x y : Int} {a : List Int32} {i : Int} (h : zP n (l ++ x :: y :: r) a) (hi : i = l.length) : zP n (l ++ y :: x :: r) (zu (zu a i (zg a (i + 1))) (i + 1) (zg a i)) := by
  have l1 : (l ++ x :: y :: r).length = l.length + (r.length + 1 + 1) := by rw [List.length_append, List.length_cons, List.length_cons]
  have g1 : (zg a i).toInt = x := by
    rw [zP_get h (by omega) (by omega), show i.toNat = l.length by omega, getD_app, if_neg (by omega), Nat.sub_self]; rfl
  have g2 : (zg a (i + 1)).toInt = y := by
    rw [zP_get h (by omega) (by omega), show (i + 1).toNat = l.length + 1 by omega, getD_app, if_neg (by omega), Nat.add_sub_cancel_left]; rfl
  have h1 := zP_mid (v := zg a (i + 1)) h hi
  rw [g2] at h1
  have h2 : zP n ((l ++ [y]) ++ y :: r) (zu a i (zg a (i + 1))) := by
    rw [List.append_assoc]; exact h1
  have h3 := zP_mid (v := zg a i) (i := i + 1) h2 (by rw [List.length_append, List.length_singleton]; omega)
  rw [g1, List.append_assoc] at h3
  exact h3
theorem wX {W : List pSc} {s : zS} (h : wR W s) {i : Int} (h0 : 0 ≤ i) (h1 : i < (W.length : Int)) : zX (s.2 44) i ∧ zX (s.2 45) i ∧ zX (s.2 46) i ∧ zX (s.2 47) i ∧ zX (s.2 48) i ∧ zX (s.2 49) i ∧ zX (s.2 50) i := by
  obtain ⟨w0, w1, w2, w3, w4, w5, w6, w7⟩ := h
  have hl := w1.2.1
  rw [List.length_map] at hl
  exact ⟨zP_X w1 (by decide) h0 (by omega), zP_X w2 (by decide) h0 (by omega), zP_X w3 (by decide) h0 (by omega), zP_X w4 (by decide) h0 (by omega), zP_X w5 (by decide) h0 (by omega), zP_X w6 (by decide) h0 (by omega), zP_X w7 (by decide) h0 (by omega)⟩
theorem wG {f : pSc → Int} {A B : List pSc} {r : pSc} {a : List Int32} {i : Int} (h : zP 40 ((A ++ r :: B).map f) a) (hi : i = A.length) : (zg a i).toInt = f r := by
  have hl : ((A ++ r :: B).map f).length = A.length + (B.length + 1) := by rw [List.length_map, List.length_append, List.length_cons]
  rw [zP_get h (by omega) (by omega), List.map_append, getD_app, if_neg (by rw [List.length_map]; omega), List.length_map, show i.toNat - A.length = 0 by omega]
  rfl
theorem zX_u {l : List Int32} {i j : Int} {v : Int32} (h : zX l i) : zX (zu l j v) i := ⟨h.1, by rw [zu_len]; exact h.2.1, by rw [zu_len]; exact h.2.2⟩
section MS
variable (xs : Option (List Int32)) (d : Nat) {s : zS}
theorem ct_164 {A B : List pSc} {x y : pSc} (h : wR (A ++ x :: y :: B) s) (a : Int32) (ha : a.toInt = A.length) (Q : zS → Prop) (hQ : ∀ s1, wR (A ++ y :: x :: B) s1 → zE [] [44, 45, 46, 47, 48, 49, 50] s s1 → Q s1) : zWv xs d 164 0 [(0, .ref 32), (1, .int a)] s Q := by
  have hl : (A ++ x :: y :: B).length = A.length + (B.length + 1 + 1) := by rw [List.length_append, List.length_cons, List.length_cons]
  obtain ⟨x1, x2, x3, x4, x5, x6, x7⟩ := wX h (i := a.toInt) (by omega) (by omega)
  obtain ⟨y1, y2, y3, y4, y5, y6, y7⟩ := wX h (i := a.toInt + 1) (by omega) (by omega)
  refine vc_164_0 xs d s a Q ⟨x1, x2, x3, x4, x5, x6, x7, y1, y2, y3, y4, y5, y6, y7, zX_u y1, zX_u y2, zX_u y3, zX_u y4, zX_u y5, zX_u y6, zX_u y7, hQ _ ?_ (zE_a (zE_a (zE_a (zE_a (zE_a (zE_a (zE_a (zE_a (zE_a (zE_a (zE_a (zE_a (zE_a (zE_a (zE_r s) rfl) rfl) rfl) rfl) rfl) rfl) rfl) rfl) rfl) rfl) rfl) rfl) rfl) rfl)⟩
  obtain ⟨w0, w1, w2, w3, w4, w5, w6, w7⟩ := h
  have sw : ∀ (f : pSc → Int) {c : List Int32}, zP 40 ((A ++ x :: y :: B).map f) c → zP 40 ((A ++ y :: x :: B).map f) (zu (zu c a.toInt (zg c (a.toInt + 1))) (a.toInt + 1) (zg c a.toInt)) := by
    intro f c hc
    rw [List.map_append] at hc ⊢
    exact zP_sw hc (by rw [List.length_map]; exact ha)
  have hl2 : (A ++ y :: x :: B).length = (A ++ x :: y :: B).length := by rw [List.length_append, List.length_append]; rfl
  refine ⟨?_, sw (fun x => x.1) w1, sw (fun x => x.2.2.2.1) w2, sw (fun x => x.2.2.2.2.1) w3, sw (fun x => x.2.2.2.2.2.1) w4, sw (fun x => x.2.2.2.2.2.2.1) w5, sw (fun x => x.2.2.2.2.2.2.2.1) w6, sw (fun x => x.2.2.2.2.2.2.2.2) w7⟩
  rw [hl2]
  exact w0
theorem ct_163i (a1 : Int32) (Q : zS → Prop) : ∀ (B A : List pSc) (x : pSc) (s : zS) (a2 : Int32), wR (A ++ x :: B) s → a2.toInt = A.length → (∀ s1, wR (A ++ bp x B) s1 → zE [] [44, 45, 46, 47, 48, 49, 50] s s1 → zWv xs (d + 1) 163 2 [(0, .ref 32), (1, .int (a1 + 1))] s1 Q) → zWv xs (d + 1) 163 12 [(0, .ref 32), (1, .int a1), (2, .int a2)] s Q := by
  intro B
  induction B with
  | nil =>
    intro A x s a2 h ha hQ
    have hl : (A ++ [x]).length = A.length + 1 := List.length_append
    have hc : (s.1 31).toInt = ((A ++ [x]).length : Int) := h.1
    have hb : (A ++ [x]).length ≤ 40 := by have := h.2.1.2.1; rw [List.length_map] at this; exact this
    refine vc_163_12 xs d s a1 a2 Q ⟨⟨by omega, by omega⟩, fun hh => by omega, fun _ => hQ s h (zE_r s)⟩
  | cons y B ih =>
    intro A x s a2 h ha hQ
    have hl : (A ++ x :: y :: B).length = A.length + (B.length + 1 + 1) := by rw [List.length_append, List.length_cons, List.length_cons]
    have hc : (s.1 31).toInt = ((A ++ x :: y :: B).length : Int) := h.1
    have hb : (A ++ x :: y :: B).length ≤ 40 := by have := h.2.1.2.1; rw [List.length_map] at this; exact this
    obtain ⟨_, x2, _⟩ := wX h (i := a2.toInt) (by omega) (by omega)
    obtain ⟨_, y2, _⟩ := wX h (i := a2.toInt + 1) (by omega) (by omega)
    have e1 : (zg (s.2 45) a2.toInt).toInt = rF x := wG (f := fun x => x.2.2.2.1) h.2.2.1 ha
    have h' : zP 40 (((A ++ [x]) ++ y :: B).map (fun x => x.2.2.2.1)) (s.2 45) := by
      rw [List.append_assoc]; exact h.2.2.1
    have e2 : (zg (s.2 45) (a2.toInt + 1)).toInt = rF y := wG (f := fun x => x.2.2.2.1) h' (by rw [List.length_append, List.length_singleton]; omega)
    have e3 : (a2 + 1).toInt = ((A.length + 1 : Nat) : Int) := ti_inc ha (by omega)
    refine vc_163_12 xs d s a1 a2 Q ⟨⟨by omega, by omega⟩, fun _ => ⟨x2, y2, ?_⟩, fun hh => by omega⟩
    rw [e1, e2]
    refine ⟨fun hlt => ct_164 xs d h a2 ha _ (fun s1 g1 g2 => ?_), fun hlt => ?_⟩
    · have g1' : wR ((A ++ [y]) ++ x :: B) s1 := by rw [List.append_assoc]; exact g1
      refine ih (A ++ [y]) x s1 _ g1' (by rw [e3, List.length_append, List.length_singleton]) (fun s2 w1 w2 => hQ s2 ?_ (zE_t g2 w2))
      rw [bp, if_pos hlt]
      rw [List.append_assoc] at w1
      exact w1
    · have h2 : wR ((A ++ [x]) ++ y :: B) s := by rw [List.append_assoc]; exact h
      refine ih (A ++ [x]) y s _ h2 (by rw [e3, List.length_append, List.length_singleton]) (fun s2 w1 w2 => hQ s2 ?_ w2)
      rw [bp, if_neg hlt]
      rw [List.append_assoc] at w1
      exact w1
theorem ct_163o (m : pSc) (Q : zS → Prop) : ∀ (n : Nat) (l : List pSc) (s : zS) (a1 : Int32), 0 ≤ a1.toInt → a1.toInt + n = (l.length : Int) + 1 → wR (m :: l) s → (∀ s1, wR (m :: bps n l) s1 → zE [] [44, 45, 46, 47, 48, 49, 50] s s1 → Q s1) → zWv xs (d + 1) 163 2 [(0, .ref 32), (1, .int a1)] s Q := by
  intro n
  induction n with
  | zero =>
    intro l s a1 h0 hn h hQ
    have hc : (s.1 31).toInt = ((m :: l).length : Int) := h.1
    rw [List.length_cons] at hc
    exact vc_163_2 xs d s a1 Q ⟨fun hh => by omega, fun _ => hQ s h (zE_r s)⟩
  | succ n ih =>
    intro l s a1 h0 hn h hQ
    have hc : (s.1 31).toInt = ((m :: l).length : Int) := h.1
    have hb : (m :: l).length ≤ 40 := by have := h.2.1.2.1; rw [List.length_map] at this; exact this
    rw [List.length_cons] at hc hb
    have e1 : (a1 + 1).toInt = a1.toInt + 1 := ti_1 rfl (by omega) (by omega)
    refine vc_163_2 xs d s a1 Q ⟨fun _ => ?_, fun hh => by omega⟩
    cases l with
    | nil =>
      refine vc_163_12 xs d s a1 1 Q ⟨⟨by decide, by decide⟩, fun hh => ?_, fun _ => ?_⟩
      · have : (1 : Int32).toInt = 1 := rfl
        rw [List.length_nil] at hc
        omega
      · exact ih [] s (a1 + 1) (by omega) (by omega) h hQ
    | cons x B =>
      have h2 : wR ([m] ++ x :: B) s := h
      refine ct_163i xs d a1 Q B [m] x s 1 h2 rfl (fun s1 g1 g2 => ih (bp x B) s1 (a1 + 1) (by omega) ?_ g1 (fun s2 w1 w2 => hQ s2 w1 (zE_t g2 w2)))
      have := (bp_perm B x).length_eq
      omega
/-- sortScopes -/
theorem ct_163 (hd : 1 ≤ d) {m : pSc} {l L : List pSc} (h : wR (m :: l) s) (hp : l.Perm L) (hL : L.Pairwise lF) (Q : zS → Prop) (hQ : ∀ s1, wR (m :: L) s1 → zE [] [44, 45, 46, 47, 48, 49, 50] s s1 → Q s1) : zWv xs d 163 0 [(0, .ref 32)] s Q := by
  obtain ⟨d, rfl⟩ : ∃ e, d = e + 1 := ⟨d - 1, by omega⟩
  refine vc_163_0 xs d s Q (ct_163o xs d m Q (l.length + 1) l s 0 (by decide) ?_ h (fun s1 g1 g2 => hQ s1 ?_ g2))
  · show (0 : Int) + _ = _; omega
  · rw [bps_eq hp hL (by omega)] at g1
    exact g1
/-- inSource -/
theorem ct_165 {A B : List pSc} {r : pSc} (h : wR (A ++ r :: B) s) (a1 a2 : Int32) (ha : a1.toInt = A.length) (Q : Int32 → zS → Prop) (hQ : Q (zb (inS r a2.toInt)) s) : zWi xs d 165 0 [(0, .ref 32), (1, .int a1), (2, .int a2)] s Q := by
  have hl : (A ++ r :: B).length = A.length + (B.length + 1) := by rw [List.length_append, List.length_cons]
  obtain ⟨x1, _, _, _, x5, x6, _⟩ := wX h (i := a1.toInt) (by omega) (by omega)
  obtain ⟨w0, w1, w2, w3, w4, w5, w6, w7⟩ := h
  have e1 : (zg (s.2 44) a1.toInt).toInt = r.1 := wG (f := fun x => x.1) w1 ha
  have e5 : (zg (s.2 48) a1.toInt).toInt = rSf r := wG (f := fun x => x.2.2.2.2.2.2.1) w5 ha
  have e6 : (zg (s.2 49) a1.toInt).toInt = rSt r := wG (f := fun x => x.2.2.2.2.2.2.2.1) w6 ha
  refine vc_165_0 xs d s a1 a2 Q ?_
  rw [e1, e5, e6]
  unfold inS at hQ
  refine ⟨x1, fun h4 => ⟨x5, fun hlt => ?_, fun hlt => ⟨x6, fun hlt2 => ?_, fun hlt2 => ?_⟩⟩, fun h4 => ?_⟩
  · rw [decide_eq_false (p := rSf r ≤ a2.toInt) (by omega), Bool.false_and, Bool.and_false] at hQ; exact hQ
  · rw [decide_eq_true h4, decide_eq_true (p := rSf r ≤ a2.toInt) (by omega), decide_eq_true hlt2] at hQ; exact hQ
  · rw [decide_eq_false hlt2, Bool.and_false, Bool.and_false] at hQ; exact hQ
  · rw [decide_eq_false h4, Bool.false_and] at hQ; exact hQ
theorem ct_166l (a1 : Int32) (Q : Int32 → zS → Prop) : ∀ (B A : List pSc) (a2 a3 : Int32) (n acc : Int), wR (A ++ B) s → a3.toInt = A.length → a3.toInt = n → a2.toInt = acc → (∀ v : Int32, v.toInt = lcG gL B n acc a1.toInt → Q v s) → zWi xs (d + 1) 166 4 [(0, .ref 32), (1, .int a1), (2, .int a2), (3, .int a3)] s Q := by
  intro B
  induction B with
  | nil =>
    intro A a2 a3 n acc h ha hn h2 hQ
    have hc : (s.1 31).toInt = ((A ++ []).length : Int) := h.1
    rw [List.append_nil] at hc
    exact vc_166_4 xs d s a1 a2 a3 Q ⟨fun hh => by omega, fun _ => hQ a2 h2⟩
  | cons r B ih =>
    intro A a2 a3 n acc h ha hn h2 hQ
    have hl : (A ++ r :: B).length = A.length + (B.length + 1) := by rw [List.length_append, List.length_cons]
    have hc : (s.1 31).toInt = ((A ++ r :: B).length : Int) := h.1
    have hb : (A ++ r :: B).length ≤ 40 := by have := h.2.1.2.1; rw [List.length_map] at this; exact this
    obtain ⟨_, _, x3, x4, _⟩ := wX h (i := a3.toInt) (by omega) (by omega)
    have e3 : (zg (s.2 46) a3.toInt).toInt = rFr r := wG (f := fun x => x.2.2.2.2.1) h.2.2.2.1 ha
    have e4 : (zg (s.2 47) a3.toInt).toInt = rTo r := wG (f := fun x => x.2.2.2.2.2.1) h.2.2.2.2.1 ha
    have e5 : (a3 + 1).toInt = ((A.length + 1 : Nat) : Int) := ti_inc ha (by omega)
    have h' : wR ((A ++ [r]) ++ B) s := by rw [List.append_assoc]; exact h
    have yes : cont r a1.toInt = true → zWi xs (d + 1) 166 4 [(0, .ref 32), (1, .int a1), (2, .int a3), (3, .int (a3 + 1))] s Q := by
      intro hcn
      refine ih (A ++ [r]) a3 (a3 + 1) (n + 1) n h' (by rw [e5, List.length_append, List.length_singleton]) (by omega) hn (fun v hv => hQ v ?_)
      show _ = lcG gL B (n + 1) (if cont r a1.toInt = true then n else acc) a1.toInt
      rw [if_pos hcn]; exact hv
    have no : cont r a1.toInt = false → zWi xs (d + 1) 166 4 [(0, .ref 32), (1, .int a1), (2, .int a2), (3, .int (a3 + 1))] s Q := by
      intro hcn
      refine ih (A ++ [r]) a2 (a3 + 1) (n + 1) acc h' (by rw [e5, List.length_append, List.length_singleton]) (by omega) h2 (fun v hv => hQ v ?_)
      show _ = lcG gL B (n + 1) (if cont r a1.toInt = true then n else acc) a1.toInt
      rw [hcn, if_neg (by decide)]; exact hv
    refine vc_166_4 xs d s a1 a2 a3 Q ⟨fun _ => ⟨x3, ?_⟩, fun hh => by omega⟩
    rw [e3, e4]
    refine ⟨fun hlt => no (cont_lo hlt), fun hlt => ⟨x4, fun hlt2 => ct_165 xs d h a3 a1 ha _ ?_, fun hlt2 => no (cont_hi (by omega))⟩⟩
    have hcc : cont r a1.toInt = !inS r a1.toInt := by
      unfold cont
      rw [decide_eq_true (p := rFr r ≤ a1.toInt) (by omega), decide_eq_true hlt2]
      rfl
    cases hi : inS r a1.toInt with
    | true => exact ⟨fun h => absurd h (by decide), fun _ => no (by rw [hcc, hi]; rfl)⟩
    | false => exact ⟨fun _ => yes (by rw [hcc, hi]; rfl), fun h => absurd rfl h⟩
/-- lies -/
theorem ct_166 (hd : 1 ≤ d) {m : pSc} {L : List pSc} (h : wR (m :: L) s) (a1 : Int32) (Q : Int32 → zS → Prop) (hQ : ∀ v : Int32, v.toInt = lcG gL L 1 0 a1.toInt → Q v s) : zWi xs d 166 0 [(0, .ref 32), (1, .int a1)] s Q := by
  obtain ⟨d, rfl⟩ : ∃ e, d = e + 1 := ⟨d - 1, by omega⟩
  exact vc_166_0 xs d s a1 Q (ct_166l xs d a1 Q L [m] 0 1 1 0 h rfl rfl rfl hQ)
end MS
