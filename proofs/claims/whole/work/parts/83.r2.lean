/-! More that each step keeps, over what is known already. -/
section R2
variable {T : List lxT} {X : pC → pS → pS → pO → Prop}
theorem R1_r (c : pC) (st : pS) : R1 T c st st pO0 := R1_0 (Nat.le_refl _) rfl rfl rfl rfl (by rw [nmT_0]; rfl) (fun x hx => absurd hx List.not_mem_nil) (by rw [rtT_0]; rfl)
theorem R1_av (c : pC) (st : pS) (h0 : tc T st.1 ≠ 0) (h28 : tc T st.1 ≠ 28) : R1 T c st (pAv T st) pO0 := by
  refine R1_0 (Nat.le_succ _) rfl rfl rfl rfl ?_ (fun x hx => absurd hx List.not_mem_nil) ?_
  · show [] = nmT T st.1 (st.1 + 1)
    rw [nmT_1, if_neg h0]
  · show [] = (rtT T st.1 (st.1 + 1)).filter _
    rw [rtT_1, if_neg h28]; rfl
theorem R1_nm (c : pC) (st : pS) (b r : Int) (h : tc T st.1 = 0) : R1 T c st ((pAv T st).1, (pAv T st).2.1, st.2.2.1, st.2.2.2 + 1) ([], [], [], [], [(st.1, c.1, b, r)], []) := by
  refine R1_0 (Nat.le_succ _) rfl rfl rfl rfl ?_ (fun x hx => ?_) ?_
  · show [st.1] = nmT T st.1 (st.1 + 1)
    rw [nmT_1, if_pos h]
  · have hx2 : x ∈ [((st.1, c.1, b, r) : pOc)] := hx
    rw [List.mem_singleton] at hx2
    subst hx2
    exact ⟨Nat.le_refl _, Nat.lt_succ_self _, rfl⟩
  · show [] = (rtT T st.1 (st.1 + 1)).filter _
    rw [rtT_1, if_neg (by omega)]; rfl
theorem R1_x (c : pC) (st : pS) (X1 X2 : List (Int × Int)) : R1 T c st st (X1, X2, [], [], [], []) := R1_0 (Nat.le_refl _) rfl rfl rfl rfl (by rw [nmT_0]; rfl) (fun x hx => absurd hx List.not_mem_nil) (by rw [rtT_0]; rfl)
theorem R1_ret (c : pC) (st : pS) (h : tc T st.1 = 28) : R1 T c st (pAv T st) ([], [], [], [], [], if c.2.1 = 1 then [] else [st.1]) := by
  refine R1_0 (Nat.le_succ _) rfl rfl rfl rfl ?_ (fun x hx => absurd hx List.not_mem_nil) ?_
  · show [] = nmT T st.1 (st.1 + 1)
    rw [nmT_1, if_neg (by omega)]
  · show (if c.2.1 = 1 then [] else [st.1]) = (rtT T st.1 (st.1 + 1)).filter _
    rw [rtT_1, if_pos h]
    by_cases e : c.2.1 = 1
    · rw [if_pos e, List.filter_cons_of_neg (by simpa using e)]; rfl
    · rw [if_neg e, List.filter_cons_of_pos (by simpa using e)]; rfl
/-- the induction for what gives rows and occurrences -/
theorem pp_ind3 (h0 : ∀ (c : pC) (st s : pS) (o : pO), s.2.2 = st.2.2 → o.2.2.1 = [] → o.2.2.2.2.1 = [] → X c st s o) (ht : ∀ c a b e o1 o2, R1 T c a b o1 → R1 T c b e o2 → X c a b o1 → X c b e o2 → X c a e (pAp o1 o2)) (hnm : ∀ (c : pC) (st : pS) (r : Int), (r = 1 ∨ r = 2 ∨ r = 4 ∨ r = 8) → tc T st.1 = 0 → X c st ((pAv T st).1, (pAv T st).2.1, st.2.2.1, st.2.2.2 + 1) ([], [], [], [], [(st.1, c.1, c.1, r)], [])) (hwl : ∀ (c : pC) (st : pS), tc T st.1 = 0 → X c st ((pAv T st).1, (pAv T st).2.1, st.2.2.1, st.2.2.2 + 1) ([], [], [], [], [(st.1, c.1, c.2.2.1, if 0 < c.2.2.2 then 98 else 34)], [])) (hsd : ∀ (sort : Int) (c : pC) (j : Nat) (st s3 s4 s : pS) (o1 op o : pO), (sort = 1 ∨ sort = 2 ∨ sort = 3) → R1 T c st s3 o1 → X c st s3 o1 → rHd T c.1 st s3 o1 → st.1 < j → j ≤ s3.1 → (∀ x ∈ o1.2.2.2.2.1, x.1 < j) → rPar T (s3.2.2.1 : Int) (pNw s3) s4 op → R1 T ((s3.2.2.1 : Int), sort, (s3.2.2.1 : Int), c.2.2.2) s4 s o → X ((s3.2.2.1 : Int), sort, (s3.2.2.1 : Int), c.2.2.2) s4 s o → X c st s (pAp o1 (pSd sort c.1 st.1 j s (pAp op o)))) (hcm : ∀ (c : pC) (st s3 s6 s7 : pS) (o1 o3 : pO) (y1 y2 : Int), tc T st.1 = 91 → R1 T ((st.2.2.1 : Int), 4, c.2.2.1, c.2.2.2) (pAv T (pNw st)) s3 o1 → X ((st.2.2.1 : Int), 4, c.2.2.1, c.2.2.2) (pAv T (pNw st)) s3 o1 → tc T s3.1 = 0 → tc T (s3.1 + 1) = 24 → R1 T (c.1, c.2.1, c.2.2.1, c.2.2.2 + 1) (s3.1 + 2, y1, s3.2.2.1, s3.2.2.2 + 1) s6 o3 → X (c.1, c.2.1, c.2.2.1, c.2.2.2 + 1) (s3.1 + 2, y1, s3.2.2.1, s3.2.2.2 + 1) s6 o3 → tc T s6.1 = 93 → s7 = pAv T s6 → X c st s7 (o1.1 ++ o3.1, o1.2.1 ++ o3.2.1, (4, c.1, (s3.2.2.2 : Int), (st.1 : Int), (st.1 : Int) + 1, (s6.1 : Int), ((s3.1 + 2 : Nat) : Int), (s6.1 : Int), (s3.1 : Int)) :: (o1.2.2.1 ++ o3.2.2.1), o1.2.2.2.1 ++ (4, c.1, (s3.2.2.2 : Int), (st.1 : Int), (st.1 : Int) + 1, (s6.1 : Int), ((s3.1 + 2 : Nat) : Int), (s6.1 : Int), (s3.1 : Int)) :: o3.2.2.2.1, o1.2.2.2.2.1 ++ ([(s3.1, (st.2.2.1 : Int), (st.2.2.1 : Int), 2)] ++ o3.2.2.2.2.1), o1.2.2.2.2.2 ++ o3.2.2.2.2.2)) : ∀ (k tag : Nat) (ctx : pC) (nest : Nat) (x : Int) (st : pS), (tag = 7 ∨ tag = 8 → x = 4 ∨ x = 8) → pH (pp T k tag ctx nest x st) (fun s o => R1 T ctx st s o ∧ X ctx st s o) := by
  refine pp_ind2 (R := fun c st s o => R1 T c st s o ∧ X c st s o) ?_ ?_ ?_ ?_ ?_ ?_ ?_ ?_ ?_ ?_
  · intro c st; exact ⟨R1_r c st, h0 c st st _ rfl rfl rfl⟩
  · intro c a b e o1 o2 h1 h2; exact ⟨R1_t h1.1 h2.1, ht c a b e o1 o2 h1.1 h2.1 h1.2 h2.2⟩
  · intro c st h1 h28; exact ⟨R1_av c st h1 h28, h0 c st _ _ rfl rfl rfl⟩
  · intro c st r hr h; exact ⟨R1_nm c st c.1 r h, hnm c st r hr h⟩
  · intro c st h; exact ⟨R1_nm c st _ _ h, hwl c st h⟩
  · intro c st b; exact ⟨R1_x c st _ _, h0 c st st _ rfl rfl rfl⟩
  · intro c st b; exact ⟨R1_x c st _ _, h0 c st st _ rfl rfl rfl⟩
  · intro c st h; exact ⟨R1_ret c st h, h0 c st _ _ rfl rfl rfl⟩
  · intro sort c j st s3 s4 s o1 op o hs h1 hh hj hj2 hx hp h2
    exact ⟨R1_sd sort c j st s3 s4 s o1 op o hs h1.1 hh hj hj2 hx hp h2.1, hsd sort c j st s3 s4 s o1 op o hs h1.1 h1.2 hh hj hj2 hx hp h2.1 h2.2⟩
  · intro c st s3 s6 s7 o1 o3 y1 y2 t91 h1 t0 t24 h3 t93 h7
    exact ⟨R1_cm c st s3 s6 s7 o1 o3 y1 y2 t91 h1.1 t0 t24 h3.1 t93 h7, hcm c st s3 s6 s7 o1 o3 y1 y2 t91 h1.1 h1.2 t0 t24 h3.1 h3.2 t93 h7⟩
end R2
/-- is it the := of a name -/
def wal (x : pOc) : Prop := x.2.2.2 = 34 ∨ x.2.2.2 = 98
/-- roles; where a name belongs that := doesn't bind; sorts -/
def R2 (c : pC) (st s : pS) (o : pO) : Prop := (∀ x ∈ o.2.2.2.2.1, (x.2.2.2 = 1 ∨ x.2.2.2 = 2 ∨ x.2.2.2 = 4 ∨ x.2.2.2 = 8 ∨ x.2.2.2 = 18 ∨ x.2.2.2 = 34 ∨ x.2.2.2 = 98) ∧ (¬ wal x → x.2.2.1 = x.2.1)) ∧ (∀ r ∈ o.2.2.1, r.1 = 1 ∨ r.1 = 2 ∨ r.1 = 3 ∨ r.1 = 4)
theorem R2_pp {T : List lxT} : ∀ (k tag : Nat) (ctx : pC) (nest : Nat) (x : Int) (st : pS), (tag = 7 ∨ tag = 8 → x = 4 ∨ x = 8) → pH (pp T k tag ctx nest x st) (fun s o => R1 T ctx st s o ∧ R2 ctx st s o) := by
  refine pp_ind3 ?_ ?_ ?_ ?_ ?_ ?_
  · intro c st s o h1 h2 h3
    unfold R2
    rw [h2, h3]
    exact ⟨fun x hx => absurd hx List.not_mem_nil, fun x hx => absurd hx List.not_mem_nil⟩
  · intro c a b e o1 o2 _ _ h1 h2
    refine ⟨fun x hx => ?_, fun r hr => ?_⟩
    · rcases List.mem_append.mp hx with h | h
      · exact h1.1 x h
      · exact h2.1 x h
    · rcases List.mem_append.mp hr with h | h
      · exact h1.2 r h
      · exact h2.2 r h
  · intro c st r hr h
    refine ⟨fun x hx => ?_, fun x hx => absurd hx List.not_mem_nil⟩
    have hx2 : x ∈ [((st.1, c.1, c.1, r) : pOc)] := hx
    rw [List.mem_singleton] at hx2
    subst hx2
    exact ⟨by show r = 1 ∨ r = 2 ∨ r = 4 ∨ r = 8 ∨ r = 18 ∨ r = 34 ∨ r = 98; omega, fun _ => rfl⟩
  · intro c st h
    refine ⟨fun x hx => ?_, fun x hx => absurd hx List.not_mem_nil⟩
    have hx2 : x ∈ [((st.1, c.1, c.2.2.1, if 0 < c.2.2.2 then 98 else 34) : pOc)] := hx
    rw [List.mem_singleton] at hx2
    subst hx2
    have hw : wal ((st.1, c.1, c.2.2.1, if 0 < c.2.2.2 then 98 else 34) : pOc) := by
      show (if 0 < c.2.2.2 then (98 : Int) else 34) = 34 ∨ (if 0 < c.2.2.2 then (98 : Int) else 34) = 98
      split <;> omega
    refine ⟨?_, fun hn => absurd hw hn⟩
    rcases hw with h | h
    · exact Or.inr (Or.inr (Or.inr (Or.inr (Or.inr (Or.inl h)))))
    · exact Or.inr (Or.inr (Or.inr (Or.inr (Or.inr (Or.inr h)))))
  · intro sort c j st s3 s4 s o1 op o hs _ h1 hh hj hj2 hx hp _ h2
    refine ⟨fun x hx => ?_, fun r hr => ?_⟩
    · rcases List.mem_append.mp hx with h | h
      · exact h1.1 x h
      · rcases List.mem_append.mp h with h | h
        · rw [hp.2.2.2.2.2.2.2.2.1] at h
          obtain ⟨t, ht, e⟩ := List.mem_map.mp h
          subst e
          exact ⟨Or.inr (Or.inr (Or.inr (Or.inr (Or.inl rfl)))), fun _ => rfl⟩
        · exact h2.1 x h
    · rcases List.mem_append.mp hr with h | h
      · exact h1.2 r h
      · rcases List.mem_cons.mp h with h | h
        · subst h
          show sort = 1 ∨ sort = 2 ∨ sort = 3 ∨ sort = 4
          omega
        · rcases List.mem_append.mp h with h | h
          · rw [hp.2.2.2.2.2.1] at h
            exact absurd h List.not_mem_nil
          · exact h2.2 r h
  · intro c st s3 s6 s7 o1 o3 y1 y2 t91 _ h1 t0 t24 _ h3 t93 h7
    refine ⟨fun x hx => ?_, fun r hr => ?_⟩
    · rcases List.mem_append.mp hx with h | h
      · exact h1.1 x h
      · rcases List.mem_append.mp h with h | h
        · rw [List.mem_singleton] at h
          subst h
          exact ⟨Or.inr (Or.inl rfl), fun _ => rfl⟩
        · exact h3.1 x h
    · rcases List.mem_cons.mp hr with h | h
      · subst h
        exact Or.inr (Or.inr (Or.inr rfl))
      · rcases List.mem_append.mp h with h | h
        · exact h1.2 r h
        · exact h3.2 r h
