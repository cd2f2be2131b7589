/-! The targets of comprehensions; parameters stand before declarations. -/
def rLp (r : pSc) : Int := r.2.2.2.2.2.2.2.2
def R5 (_ : pC) (st _ : pS) (o : pO) : Prop := ∀ r ∈ o.2.2.1, r.1 = 4 → ∃ (j : Nat) (y : pOc), r.2.2.1 = (st.2.2.2 : Int) + j ∧ o.2.2.2.2.1[j]? = some y ∧ (y.1 : Int) = rLp r
theorem ge_l {l r : List pOc} {j : Nat} {y : pOc} (h : l[j]? = some y) : (l ++ r)[j]? = some y := by
  rw [List.getElem?_append_left (by
    by_cases h2 : j < l.length
    · exact h2
    · rw [List.getElem?_eq_none (by omega)] at h; cases h)]
  exact h
theorem ge_r {l r : List pOc} {j : Nat} {y : pOc} (h : r[j]? = some y) : (l ++ r)[l.length + j]? = some y := by
  rw [List.getElem?_append_right (by omega), Nat.add_sub_cancel_left]
  exact h
theorem R5_pp {T : List lxT} : ∀ (k tag : Nat) (ctx : pC) (nest : Nat) (x : Int) (st : pS), (tag = 7 ∨ tag = 8 → x = 4 ∨ x = 8) → pH (pp T k tag ctx nest x st) (fun s o => R1 T ctx st s o ∧ R5 ctx st s o) := by
  refine pp_ind3 ?_ ?_ ?_ ?_ ?_ ?_
  · intro c st s o h1 h2 h3 r hr
    rw [h2] at hr
    exact absurd hr List.not_mem_nil
  · intro c a b e o1 o2 q1 q2 h1 h2 r hr h4
    have n3 := q1.2.2.1
    rcases List.mem_append.mp hr with h | h
    · obtain ⟨j, y, g1, g2, g3⟩ := h1 r h h4
      exact ⟨j, y, g1, ge_l g2, g3⟩
    · obtain ⟨j, y, g1, g2, g3⟩ := h2 r h h4
      exact ⟨o1.2.2.2.2.1.length + j, y, by omega, ge_r g2, g3⟩
  · intro c st r hr h q hq; exact absurd hq List.not_mem_nil
  · intro c st h q hq; exact absurd hq List.not_mem_nil
  · intro sort c j st s3 s4 s o1 op o hs q1 h1 hh hj hj2 hxj hp q2 h2 r hr h4
    obtain ⟨k0, k1, k2, k3, k4, k5, k6, k7⟩ := hh
    have p3 : s4.2.2.2 = s3.2.2.2 + op.2.2.2.2.1.length := hp.2.2.1
    have n3 := q1.2.2.1
    have es : (pAp o1 (pSd sort c.1 st.1 j s (pAp op o))).2.2.1 = (sort, c.1, -1, (st.1 : Int), (j : Int), (s.1 : Int), -1, (s.1 : Int), -1) :: o.2.2.1 := by
      show o1.2.2.1 ++ _ :: (op.2.2.1 ++ o.2.2.1) = _
      rw [k4, hp.2.2.2.2.2.1]; rfl
    rw [es] at hr
    rcases List.mem_cons.mp hr with h | h
    · subst h
      have h4' : sort = 4 := h4
      omega
    · obtain ⟨i, y, g1, g2, g3⟩ := h2 r h h4
      exact ⟨o1.2.2.2.2.1.length + (op.2.2.2.2.1.length + i), y, by omega, ge_r (ge_r g2), g3⟩
  · intro c st s3 s6 s7 o1 o3 y1 y2 t91 q1 h1 t0 t24 q3 h3 t93 h7 r hr h4
    have a3 : s3.2.2.2 = st.2.2.2 + o1.2.2.2.2.1.length := q1.2.2.1
    rcases List.mem_cons.mp hr with h | h
    · subst h
      refine ⟨o1.2.2.2.2.1.length, (s3.1, (st.2.2.1 : Int), (st.2.2.1 : Int), 2), by show (s3.2.2.2 : Int) = _; omega, ?_, rfl⟩
      exact ge_r (j := 0) rfl
    · rcases List.mem_append.mp h with h | h
      · obtain ⟨i, y, g1, g2, g3⟩ := h1 r h h4
        have g1' : r.2.2.1 = (st.2.2.2 : Int) + i := g1
        exact ⟨i, y, g1', ge_l g2, g3⟩
      · obtain ⟨i, y, g1, g2, g3⟩ := h3 r h h4
        have g1' : r.2.2.1 = ((s3.2.2.2 + 1 : Nat) : Int) + i := g1
        exact ⟨o1.2.2.2.2.1.length + (1 + i), y, by omega, ge_r (ge_r (l := [(s3.1, (st.2.2.1 : Int), (st.2.2.1 : Int), 2)]) g2), g3⟩
/-- parameters of a scope stand before its declarations -/
def pD (a b : pOc) : Prop := b.2.2.2 = 18 → (a.2.2.2 = 4 ∨ a.2.2.2 = 8) → a.2.2.1 ≠ b.2.2.1
def R6 (c : pC) (st _ : pS) (o : pO) : Prop := c.1 < (st.2.2.1 : Int) → c.2.2.1 < (st.2.2.1 : Int) → (∀ x ∈ o.2.2.2.2.1, x.2.2.1 < (st.2.2.1 : Int) + o.2.2.1.length) ∧ (∀ x ∈ o.2.2.2.2.1, x.2.2.2 = 18 → (st.2.2.1 : Int) ≤ x.2.2.1) ∧ o.2.2.2.2.1.Pairwise pD
theorem pD_2 {a b : pOc} (h1 : a.2.2.2 ≠ 4) (h2 : a.2.2.2 ≠ 8) : pD a b := fun _ h => by omega
theorem R6_pp {T : List lxT} : ∀ (k tag : Nat) (ctx : pC) (nest : Nat) (x : Int) (st : pS), (tag = 7 ∨ tag = 8 → x = 4 ∨ x = 8) → pH (pp T k tag ctx nest x st) (fun s o => R1 T ctx st s o ∧ R6 ctx st s o) := by
  refine pp_ind3 ?_ ?_ ?_ ?_ ?_ ?_
  · intro c st s o h1 h2 h3 _ _
    rw [h2, h3]
    exact ⟨fun x hx => absurd hx List.not_mem_nil, fun x hx => absurd hx List.not_mem_nil, List.Pairwise.nil⟩
  · intro c a b e o1 o2 q1 q2 h1 h2 hc1 hc2
    have n3 := q1.2.1
    obtain ⟨a1, a2, a3⟩ := h1 hc1 hc2
    obtain ⟨b1, b2, b3⟩ := h2 (by omega) (by omega)
    have el : (pAp o1 o2).2.2.1.length = o1.2.2.1.length + o2.2.2.1.length := pAp_l1 o1 o2
    rw [el]
    refine ⟨fun x hx => ?_, fun x hx h18 => ?_, List.pairwise_append.mpr ⟨a3, b3, fun x hx y hy h18 h48 => ?_⟩⟩
    · rcases List.mem_append.mp hx with h | h
      · have := a1 x h; omega
      · have := b1 x h; omega
    · rcases List.mem_append.mp hx with h | h
      · exact a2 x h h18
      · have := b2 x h h18; omega
    · have := a1 x hx
      have := b2 y hy h18
      omega
  · intro c st r hr h hc1 hc2
    refine ⟨fun x hx => ?_, fun x hx h18 => ?_, List.pairwise_singleton _ _⟩
    · have hx2 : x ∈ [((st.1, c.1, c.1, r) : pOc)] := hx
      rw [List.mem_singleton] at hx2
      subst hx2
      show c.1 < (st.2.2.1 : Int) + ((0 : Nat) : Int)
      omega
    · have hx2 : x ∈ [((st.1, c.1, c.1, r) : pOc)] := hx
      rw [List.mem_singleton] at hx2
      subst hx2
      have h18' : r = 18 := h18
      omega
  · intro c st h hc1 hc2
    refine ⟨fun x hx => ?_, fun x hx h18 => ?_, List.pairwise_singleton _ _⟩
    · have hx2 : x ∈ [((st.1, c.1, c.2.2.1, if 0 < c.2.2.2 then 98 else 34) : pOc)] := hx
      rw [List.mem_singleton] at hx2
      subst hx2
      show c.2.2.1 < (st.2.2.1 : Int) + ((0 : Nat) : Int)
      omega
    · have hx2 : x ∈ [((st.1, c.1, c.2.2.1, if 0 < c.2.2.2 then 98 else 34) : pOc)] := hx
      rw [List.mem_singleton] at hx2
      subst hx2
      have h18' : (if 0 < c.2.2.2 then (98 : Int) else 34) = 18 := h18
      split at h18' <;> omega
  · intro sort c j st s3 s4 s o1 op o hs q1 h1 hh hj hj2 hxj hp q2 h2 hc1 hc2
    obtain ⟨k0, k1, k2, k3, k4, k5, k6, k7⟩ := hh
    have p2 : s4.2.2.1 = s3.2.2.1 + 1 := hp.2.1
    have p9 := hp.2.2.2.2.2.2.2.2.1
    obtain ⟨a1, a2, a3⟩ := h1 hc1 hc2
    have hc3 : (s3.2.2.1 : Int) < (s4.2.2.1 : Int) := by omega
    obtain ⟨b1, b2, b3⟩ := h2 hc3 hc3
    have es : (pAp o1 (pSd sort c.1 st.1 j s (pAp op o))).2.2.1 = (sort, c.1, -1, (st.1 : Int), (j : Int), (s.1 : Int), -1, (s.1 : Int), -1) :: o.2.2.1 := by
      show o1.2.2.1 ++ _ :: (op.2.2.1 ++ o.2.2.1) = _
      rw [k4, hp.2.2.2.2.2.1]; rfl
    rw [es, List.length_cons]
    rw [k4, List.length_nil] at a1
    have hop : ∀ x ∈ op.2.2.2.2.1, x.2.2.1 = (s3.2.2.1 : Int) ∧ x.2.2.2 = 18 := by
      intro x hx
      rw [p9] at hx
      obtain ⟨t, ht, e⟩ := List.mem_map.mp hx
      subst e
      exact ⟨rfl, rfl⟩
    have ho1 : ∀ x ∈ o1.2.2.2.2.1, x.2.2.2 = 2 := fun x hx => by rw [k7 x hx]
    refine ⟨fun x hx => ?_, fun x hx h18 => ?_, ?_⟩
    · rcases List.mem_append.mp hx with h | h
      · have := a1 x h; omega
      · rcases List.mem_append.mp h with h | h
        · have := (hop x h).1; omega
        · have := b1 x h; omega
    · rcases List.mem_append.mp hx with h | h
      · exact a2 x h h18
      · rcases List.mem_append.mp h with h | h
        · have := (hop x h).1; omega
        · have := b2 x h h18; omega
    · show (o1.2.2.2.2.1 ++ (op.2.2.2.2.1 ++ o.2.2.2.2.1)).Pairwise pD
      refine List.pairwise_append.mpr ⟨a3, List.pairwise_append.mpr ⟨?_, b3, fun x hx y hy => ?_⟩, fun x hx y hy => ?_⟩
      · rw [p9, List.pairwise_map]
        exact List.pairwise_of_forall (fun x y => pD_2 (by show (18 : Int) ≠ 4; decide) (by show (18 : Int) ≠ 8; decide))
      · have := (hop x hx).2
        exact pD_2 (by omega) (by omega)
      · have := ho1 x hx
        exact pD_2 (by omega) (by omega)
  · intro c st s3 s6 s7 o1 o3 y1 y2 t91 q1 h1 t0 t24 q3 h3 t93 h7 hc1 hc2
    have n1 : s3.2.2.1 = st.2.2.1 + 1 + o1.2.2.1.length := q1.2.1
    have h1' : (st.2.2.1 : Int) < ((st.2.2.1 + 1 : Nat) : Int) → c.2.2.1 < ((st.2.2.1 + 1 : Nat) : Int) → (∀ x ∈ o1.2.2.2.2.1, x.2.2.1 < ((st.2.2.1 + 1 : Nat) : Int) + o1.2.2.1.length) ∧ (∀ x ∈ o1.2.2.2.2.1, x.2.2.2 = 18 → ((st.2.2.1 + 1 : Nat) : Int) ≤ x.2.2.1) ∧ o1.2.2.2.2.1.Pairwise pD := h1
    have h3' : c.1 < (s3.2.2.1 : Int) → c.2.2.1 < (s3.2.2.1 : Int) → (∀ x ∈ o3.2.2.2.2.1, x.2.2.1 < (s3.2.2.1 : Int) + o3.2.2.1.length) ∧ (∀ x ∈ o3.2.2.2.2.1, x.2.2.2 = 18 → (s3.2.2.1 : Int) ≤ x.2.2.1) ∧ o3.2.2.2.2.1.Pairwise pD := h3
    obtain ⟨a1, a2, a3⟩ := h1' (by omega) (by omega)
    obtain ⟨b1, b2, b3⟩ := h3' (by omega) (by omega)
    simp only
    rw [List.length_cons, List.length_append]
    refine ⟨fun x hx => ?_, fun x hx h18 => ?_, List.pairwise_append.mpr ⟨a3, List.pairwise_append.mpr ⟨List.pairwise_singleton _ _, b3, fun x hx y hy => ?_⟩, fun x hx y hy => ?_⟩⟩
    · rcases List.mem_append.mp hx with h | h
      · have := a1 x h; omega
      · rcases List.mem_append.mp h with h | h
        · rw [List.mem_singleton] at h
          subst h
          show (st.2.2.1 : Int) < _
          omega
        · have := b1 x h; omega
    · rcases List.mem_append.mp hx with h | h
      · have := a2 x h h18; omega
      · rcases List.mem_append.mp h with h | h
        · rw [List.mem_singleton] at h
          subst h
          have : (2 : Int) = 18 := h18
          omega
        · have := b2 x h h18; omega
    · rw [List.mem_singleton] at hx
      subst hx
      exact pD_2 (by show (2 : Int) ≠ 4; decide) (by show (2 : Int) ≠ 8; decide)
    · intro h18 h48
      rcases List.mem_append.mp hy with h | h
      · rw [List.mem_singleton] at h
        subst h
        have : (2 : Int) = 18 := h18
        omega
      · have := a1 x hx
        have := b2 y h h18
        omega
