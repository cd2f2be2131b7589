/-! Where := belongs; sources; targets; parameters stand before declarations. -/
def sS (W : List pSc) : List Int := W.map (fun r => r.1)
def sP (W : List pSc) : List Int := W.map (fun r => r.2.1)
theorem sS_l (W : List pSc) : (sS W).length = W.length := List.length_map _
theorem sP_l (W : List pSc) : (sP W).length = W.length := List.length_map _
def R3 (c : pC) (st s : pS) (o : pO) : Prop := ∀ ss ps : List Int, ss.length = st.2.2.1 → ps.length = st.2.2.1 → (∃ k, k < ss.length ∧ pch ss ps k c.1 c.2.2.1) → ∀ x ∈ o.2.2.2.2.1, wal x → ∃ k, k < (ss ++ sS o.2.2.1).length ∧ pch (ss ++ sS o.2.2.1) (ps ++ sP o.2.2.1) k x.2.1 x.2.2.1
theorem pch_e {ss ps s2 p2 : List Int} {c ow : Int} (hl : ps.length = ss.length) (h : ∃ k, k < ss.length ∧ pch ss ps k c ow) : ∃ k, k < (ss ++ s2).length ∧ pch (ss ++ s2) (ps ++ p2) k c ow := by
  obtain ⟨k, h1, h2⟩ := h
  exact ⟨k, by rw [List.length_append]; omega, pch_app hl h2⟩
theorem R3_pp {T : List lxT} : ∀ (k tag : Nat) (ctx : pC) (nest : Nat) (x : Int) (st : pS), (tag = 7 ∨ tag = 8 → x = 4 ∨ x = 8) → pH (pp T k tag ctx nest x st) (fun s o => R1 T ctx st s o ∧ R3 ctx st s o) := by
  refine pp_ind3 ?_ ?_ ?_ ?_ ?_ ?_
  · intro c st s o h1 h2 h3 ss ps l1 l2 hk x hx
    rw [h3] at hx
    exact absurd hx List.not_mem_nil
  · intro c a b e o1 o2 q1 q2 h1 h2 ss ps l1 l2 hk x hx hw
    have e1 : ss ++ sS (pAp o1 o2).2.2.1 = (ss ++ sS o1.2.2.1) ++ sS o2.2.2.1 := by
      show ss ++ sS (o1.2.2.1 ++ o2.2.2.1) = _
      unfold sS
      rw [List.map_append, List.append_assoc]
    have e2 : ps ++ sP (pAp o1 o2).2.2.1 = (ps ++ sP o1.2.2.1) ++ sP o2.2.2.1 := by
      show ps ++ sP (o1.2.2.1 ++ o2.2.2.1) = _
      unfold sP
      rw [List.map_append, List.append_assoc]
    have n1 := sS_l o1.2.2.1
    have n2 := sP_l o1.2.2.1
    have n3 := q1.2.1
    rw [e1, e2]
    rcases List.mem_append.mp hx with h | h
    · exact pch_e (by rw [List.length_append, List.length_append]; omega) (h1 ss ps l1 l2 hk x h hw)
    · exact h2 _ _ (by rw [List.length_append]; omega) (by rw [List.length_append]; omega) (pch_e (by omega) hk) x h hw
  · intro c st r hr h ss ps l1 l2 hk x hx hw
    have hx2 : x ∈ [((st.1, c.1, c.1, r) : pOc)] := hx
    rw [List.mem_singleton] at hx2
    subst hx2
    have hw2 : r = 34 ∨ r = 98 := hw
    omega
  · intro c st h ss ps l1 l2 hk x hx hw
    have hx2 : x ∈ [((st.1, c.1, c.2.2.1, if 0 < c.2.2.2 then 98 else 34) : pOc)] := hx
    rw [List.mem_singleton] at hx2
    subst hx2
    exact pch_e (by omega) hk
  · intro sort c j st s3 s4 s o1 op o hs q1 h1 hh hj hj2 hxj hp q2 h2 ss ps l1 l2 hk x hx hw
    obtain ⟨k0, k1, k2, k3, k4, k5, k6, k7⟩ := hh
    have p2 : s4.2.2.1 = s3.2.2.1 + 1 := hp.2.1
    have es : (pAp o1 (pSd sort c.1 st.1 j s (pAp op o))).2.2.1 = (sort, c.1, -1, (st.1 : Int), (j : Int), (s.1 : Int), -1, (s.1 : Int), -1) :: o.2.2.1 := by
      show o1.2.2.1 ++ _ :: (op.2.2.1 ++ o.2.2.1) = _
      rw [k4, hp.2.2.2.2.2.1]; rfl
    rw [es]
    have e1 : ss ++ sS ((sort, c.1, -1, (st.1 : Int), (j : Int), (s.1 : Int), -1, (s.1 : Int), -1) :: o.2.2.1) = (ss ++ [sort]) ++ sS o.2.2.1 := by
      unfold sS
      rw [List.map_cons, List.append_assoc]; rfl
    have e2 : ps ++ sP ((sort, c.1, -1, (st.1 : Int), (j : Int), (s.1 : Int), -1, (s.1 : Int), -1) :: o.2.2.1) = (ps ++ [c.1]) ++ sP o.2.2.1 := by
      unfold sP
      rw [List.map_cons, List.append_assoc]; rfl
    rw [e1, e2]
    rcases List.mem_append.mp hx with h | h
    · have e := k7 x h
      have hw2 : x.2.2.2 = 34 ∨ x.2.2.2 = 98 := hw
      rw [e] at hw2
      have hw3 : (2 : Int) = 34 ∨ (2 : Int) = 98 := hw2
      omega
    · rcases List.mem_append.mp h with h | h
      · rw [hp.2.2.2.2.2.2.2.2.1] at h
        obtain ⟨t, ht, e⟩ := List.mem_map.mp h
        subst e
        have hw3 : (18 : Int) = 34 ∨ (18 : Int) = 98 := hw
        omega
      · refine h2 _ _ (by rw [List.length_append, List.length_singleton]; omega) (by rw [List.length_append, List.length_singleton]; omega) ⟨0, by rw [List.length_append, List.length_singleton]; omega, ?_, ?_, ?_, rfl⟩ x h hw
        · show (0 : Int) ≤ (s3.2.2.1 : Int); omega
        · show (s3.2.2.1 : Int) < ((ss ++ [sort]).length : Int)
          rw [List.length_append, List.length_singleton]; omega
        · show (ss ++ [sort]).getD ((s3.2.2.1 : Int)).toNat 0 ≠ 4
          rw [show ((s3.2.2.1 : Int)).toNat = ss.length by omega, getD_app, if_neg (by omega), Nat.sub_self]
          show sort ≠ 4
          omega
  · intro c st s3 s6 s7 o1 o3 y1 y2 t91 q1 h1 t0 t24 q3 h3 t93 h7 ss ps l1 l2 hk x hx hw
    have a2 : s3.2.2.1 = st.2.2.1 + 1 + o1.2.2.1.length := q1.2.1
    have n1 := sS_l o1.2.2.1
    have n2 := sP_l o1.2.2.1
    obtain ⟨rec, hrec⟩ : ∃ rec : pSc, rec = (4, c.1, (s3.2.2.2 : Int), (st.1 : Int), (st.1 : Int) + 1, (s6.1 : Int), ((s3.1 + 2 : Nat) : Int), (s6.1 : Int), (s3.1 : Int)) := ⟨_, rfl⟩
    simp only
    rw [← hrec]
    have e1 : ss ++ sS (rec :: (o1.2.2.1 ++ o3.2.2.1)) = ((ss ++ [4]) ++ sS o1.2.2.1) ++ sS o3.2.2.1 := by
      unfold sS
      rw [List.map_cons, List.map_append, List.append_assoc, List.append_assoc, hrec]; rfl
    have e2 : ps ++ sP (rec :: (o1.2.2.1 ++ o3.2.2.1)) = ((ps ++ [c.1]) ++ sP o1.2.2.1) ++ sP o3.2.2.1 := by
      unfold sP
      rw [List.map_cons, List.map_append, List.append_assoc, List.append_assoc, hrec]; rfl
    rw [e1, e2]
    have hl : (ps ++ [c.1]).length = (ss ++ [(4 : Int)]).length := by rw [List.length_append, List.length_append, l1, l2]; rfl
    have hl4 : (ss ++ [(4 : Int)]).length = st.2.2.1 + 1 := by rw [List.length_append, l1]; rfl
    have hl5 : (ps ++ [c.1]).length = st.2.2.1 + 1 := by rw [List.length_append, l2]; rfl
    have hl2 : ((ps ++ [c.1]) ++ sP o1.2.2.1).length = ((ss ++ [(4 : Int)]) ++ sS o1.2.2.1).length := by simp only [List.length_append, List.length_singleton]; omega
    have ch4 : ∃ k, k < (ss ++ [(4 : Int)]).length ∧ pch (ss ++ [4]) (ps ++ [c.1]) k (st.2.2.1 : Int) c.2.2.1 := by
      obtain ⟨k, g1, g2⟩ := hk
      refine ⟨k + 1, by omega, by omega, by omega, ?_, ?_⟩
      · rw [show ((st.2.2.1 : Int)).toNat = ss.length by omega, getD_app, if_neg (by omega), Nat.sub_self]; rfl
      · rw [show ((st.2.2.1 : Int)).toNat = ps.length by omega, getD_app, if_neg (by omega), Nat.sub_self]
        exact pch_app (by omega) g2
    rcases List.mem_append.mp hx with h | h
    · exact pch_e hl2 (h1 (ss ++ [4]) (ps ++ [c.1]) hl4 hl5 ch4 x h hw)
    · rcases List.mem_append.mp h with h | h
      · rw [List.mem_singleton] at h
        subst h
        have hw3 : (2 : Int) = 34 ∨ (2 : Int) = 98 := hw
        omega
      · exact h3 _ _ (by rw [List.length_append]; show _ = s3.2.2.1; omega) (by rw [List.length_append]; show _ = s3.2.2.1; omega) (pch_e hl (pch_e (by omega) hk)) x h hw
/-- := in a source -/
def R4 (c : pC) (st s : pS) (o : pO) : Prop := (∀ x ∈ o.2.2.2.2.1, wal x → (x.2.2.2 = 98 ↔ (0 < c.2.2.2 ∨ ∃ r ∈ o.2.2.1, inS r (x.1 : Int) = true))) ∧ (∀ r ∈ o.2.2.1, ∀ t : Int, inS r t = true → (st.1 : Int) ≤ t ∧ t < (s.1 : Int))
theorem inS_t {r : pSc} {t : Int} (h : inS r t = true) : r.1 = 4 ∧ rSf r ≤ t ∧ t < rSt r := by
  unfold inS at h
  rw [Bool.and_eq_true, Bool.and_eq_true] at h
  exact ⟨of_decide_eq_true h.1, of_decide_eq_true h.2.1, of_decide_eq_true h.2.2⟩
theorem tok_r {T : List lxT} {c : pC} {st s : pS} {o : pO} (h : R1 T c st s o) {x : pOc} (hx : x ∈ o.2.2.2.2.1) : st.1 ≤ x.1 ∧ x.1 < s.1 := by
  have h8 := h.2.2.2.2.2.2.2.1 ((x.1 : Int), x.2.1) (List.mem_map.mpr ⟨x, hx, rfl⟩)
  have h1 : (st.1 : Int) ≤ (x.1 : Int) := h8.1
  have h2 : (x.1 : Int) < (s.1 : Int) := h8.2.1
  omega
theorem R4_pp {T : List lxT} : ∀ (k tag : Nat) (ctx : pC) (nest : Nat) (x : Int) (st : pS), (tag = 7 ∨ tag = 8 → x = 4 ∨ x = 8) → pH (pp T k tag ctx nest x st) (fun s o => R1 T ctx st s o ∧ R4 ctx st s o) := by
  refine pp_ind3 ?_ ?_ ?_ ?_ ?_ ?_
  · intro c st s o h1 h2 h3
    unfold R4
    rw [h2, h3]
    exact ⟨fun x hx => absurd hx List.not_mem_nil, fun x hx => absurd hx List.not_mem_nil⟩
  · intro c a b e o1 o2 q1 q2 h1 h2
    have hab := q1.1
    have hbe := q2.1
    refine ⟨fun x hx hw => ?_, fun r hr t ht => ?_⟩
    · rcases List.mem_append.mp hx with h | h
      · rw [h1.1 x h hw]
        refine ⟨fun hh => hh.elim Or.inl (fun ⟨r, hr, hi⟩ => Or.inr ⟨r, List.mem_append_left _ hr, hi⟩), fun hh => hh.elim Or.inl (fun ⟨r, hr, hi⟩ => ?_)⟩
        rcases List.mem_append.mp hr with g | g
        · exact Or.inr ⟨r, g, hi⟩
        · have := h2.2 r g _ hi
          have := tok_r q1 h
          omega
      · rw [h2.1 x h hw]
        refine ⟨fun hh => hh.elim Or.inl (fun ⟨r, hr, hi⟩ => Or.inr ⟨r, List.mem_append_right _ hr, hi⟩), fun hh => hh.elim Or.inl (fun ⟨r, hr, hi⟩ => ?_)⟩
        rcases List.mem_append.mp hr with g | g
        · have := h1.2 r g _ hi
          have := tok_r q2 h
          omega
        · exact Or.inr ⟨r, g, hi⟩
    · rcases List.mem_append.mp hr with g | g
      · have := h1.2 r g t ht; omega
      · have := h2.2 r g t ht; omega
  · intro c st r hr h
    refine ⟨fun x hx hw => ?_, fun x hx => absurd hx List.not_mem_nil⟩
    have hx2 : x ∈ [((st.1, c.1, c.1, r) : pOc)] := hx
    rw [List.mem_singleton] at hx2
    subst hx2
    have hw2 : r = 34 ∨ r = 98 := hw
    omega
  · intro c st h
    refine ⟨fun x hx hw => ?_, fun x hx => absurd hx List.not_mem_nil⟩
    have hx2 : x ∈ [((st.1, c.1, c.2.2.1, if 0 < c.2.2.2 then 98 else 34) : pOc)] := hx
    rw [List.mem_singleton] at hx2
    subst hx2
    show (if 0 < c.2.2.2 then (98 : Int) else 34) = 98 ↔ _
    refine ⟨fun e => ?_, fun hh => ?_⟩
    · split at e
      · rename_i h0; exact Or.inl h0
      · omega
    · rcases hh with h0 | ⟨r, hr, _⟩
      · rw [if_pos h0]
      · exact absurd hr List.not_mem_nil
  · intro sort c j st s3 s4 s o1 op o hs q1 h1 hh hj hj2 hxj hp q2 h2
    obtain ⟨k0, k1, k2, k3, k4, k5, k6, k7⟩ := hh
    have p1 : s3.1 ≤ s4.1 := hp.1
    have hbe := q2.1
    have es : (pAp o1 (pSd sort c.1 st.1 j s (pAp op o))).2.2.1 = (sort, c.1, -1, (st.1 : Int), (j : Int), (s.1 : Int), -1, (s.1 : Int), -1) :: o.2.2.1 := by
      show o1.2.2.1 ++ _ :: (op.2.2.1 ++ o.2.2.1) = _
      rw [k4, hp.2.2.2.2.2.1]; rfl
    unfold R4
    rw [es]
    have hno : ∀ t, inS ((sort, c.1, -1, (st.1 : Int), (j : Int), (s.1 : Int), -1, (s.1 : Int), -1) : pSc) t ≠ true := fun t ht => by
      have h4 : sort = 4 := (inS_t ht).1
      omega
    refine ⟨fun x hx hw => ?_, fun r hr t ht => ?_⟩
    · rcases List.mem_append.mp hx with h | h
      · have e := k7 x h
        have hw2 : x.2.2.2 = 34 ∨ x.2.2.2 = 98 := hw
        rw [e] at hw2
        have hw3 : (2 : Int) = 34 ∨ (2 : Int) = 98 := hw2
        omega
      · rcases List.mem_append.mp h with h | h
        · rw [hp.2.2.2.2.2.2.2.2.1] at h
          obtain ⟨t, ht, e⟩ := List.mem_map.mp h
          subst e
          have hw3 : (18 : Int) = 34 ∨ (18 : Int) = 98 := hw
          omega
        · rw [h2.1 x h hw]
          refine ⟨fun hh => hh.elim Or.inl (fun ⟨r, hr, hi⟩ => Or.inr ⟨r, List.mem_cons_of_mem _ hr, hi⟩), fun hh => hh.elim Or.inl (fun ⟨r, hr, hi⟩ => ?_)⟩
          rcases List.mem_cons.mp hr with g | g
          · subst g; exact absurd hi (hno _)
          · exact Or.inr ⟨r, g, hi⟩
    · rcases List.mem_cons.mp hr with g | g
      · subst g; exact absurd ht (hno t)
      · have := h2.2 r g t ht; omega
  · intro c st s3 s6 s7 o1 o3 y1 y2 t91 q1 h1 t0 t24 q3 h3 t93 h7
    subst h7
    have a1 : st.1 + 1 ≤ s3.1 := q1.1
    have b1 : s3.1 + 2 ≤ s6.1 := q3.1
    have h1b : ∀ r ∈ o1.2.2.1, ∀ t : Int, inS r t = true → ((st.1 + 1 : Nat) : Int) ≤ t ∧ t < (s3.1 : Int) := h1.2
    have h3b : ∀ r ∈ o3.2.2.1, ∀ t : Int, inS r t = true → ((s3.1 + 2 : Nat) : Int) ≤ t ∧ t < (s6.1 : Int) := h3.2
    obtain ⟨rec, hrec⟩ : ∃ rec : pSc, rec = (4, c.1, (s3.2.2.2 : Int), (st.1 : Int), (st.1 : Int) + 1, (s6.1 : Int), ((s3.1 + 2 : Nat) : Int), (s6.1 : Int), (s3.1 : Int)) := ⟨_, rfl⟩
    have c1 : rec.1 = 4 := by rw [hrec]
    have c6 : rSf rec = ((s3.1 + 2 : Nat) : Int) := by rw [hrec]; rfl
    have c7 : rSt rec = s6.1 := by rw [hrec]; rfl
    have h67 : (pAv T s6).1 = s6.1 + 1 := rfl
    unfold R4
    simp only
    rw [← hrec, h67]
    have hrt : ∀ t, inS rec t = true → ((s3.1 + 2 : Nat) : Int) ≤ t ∧ t < (s6.1 : Int) := fun t ht => by
      obtain ⟨_, g1, g2⟩ := inS_t ht
      omega
    refine ⟨fun x hx hw => ?_, fun r hr t ht => ?_⟩
    · rcases List.mem_append.mp hx with h | h
      · have hb := tok_r q1 h
        rw [h1.1 x h hw]
        refine ⟨fun hh => hh.elim Or.inl (fun ⟨r, hr, hi⟩ => Or.inr ⟨r, List.mem_cons_of_mem _ (List.mem_append_left _ hr), hi⟩), fun hh => hh.elim Or.inl (fun ⟨r, hr, hi⟩ => ?_)⟩
        rcases List.mem_cons.mp hr with g | g
        · subst g
          have := hrt _ hi
          omega
        · rcases List.mem_append.mp g with g | g
          · exact Or.inr ⟨r, g, hi⟩
          · have := h3b r g _ hi
            omega
      · rcases List.mem_append.mp h with h | h
        · rw [List.mem_singleton] at h
          subst h
          have hw3 : (2 : Int) = 34 ∨ (2 : Int) = 98 := hw
          omega
        · have hb : s3.1 + 2 ≤ x.1 ∧ x.1 < s6.1 := tok_r q3 h
          have h98 := (h3.1 x h hw).mpr (Or.inl (Nat.succ_pos _))
          refine ⟨fun _ => Or.inr ⟨rec, List.mem_cons_self .., ?_⟩, fun _ => h98⟩
          unfold inS
          rw [decide_eq_true c1, decide_eq_true (p := rSf rec ≤ (x.1 : Int)) (by omega), decide_eq_true (p := (x.1 : Int) < rSt rec) (by omega)]
          rfl
    · rcases List.mem_cons.mp hr with g | g
      · subst g
        have := hrt t ht
        omega
      · rcases List.mem_append.mp g with g | g
        · have := h1b r g t ht; omega
        · have := h3b r g t ht; omega
