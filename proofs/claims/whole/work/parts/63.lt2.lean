/-! A text's tokens: places, how many names. -/
section LT
variable {t : List Int32}
theorem gt_rep {m : Nat} {x y : lxT} {j : Nat} (h : j < m) : (List.replicate m x ++ [y]).getD j (7, 0, 0) = x := by
  rw [gt_app, if_pos (by rw [List.length_replicate]; exact h), List.getD_eq_getElem?_getD, List.getElem?_replicate, if_pos h]
  rfl
/-- a potential that rises from token to token -/
theorem lx_pot {A : List lxT} {m : Nat} {L : Int} {T : List lxT} (hT : T = A ++ List.replicate m (6, L, L) ++ [(7, L, L)]) (g w : lxT → Int) (hg : ∀ i, i + 1 < A.length → g (A.getD i (7, 0, 0)) + w (A.getD i (7, 0, 0)) ≤ g (A.getD (i + 1) (7, 0, 0))) (hl : A ≠ [] → g (lxL A) + w (lxL A) ≤ L + 1) (h6 : w (6, L, L) = 0) : ∀ i, i + 1 < T.length → (if i < A.length then g (T.getD i (7, 0, 0)) else L + 1) + w (T.getD i (7, 0, 0)) ≤ (if i + 1 < A.length then g (T.getD (i + 1) (7, 0, 0)) else L + 1) := by
  intro i hi
  rw [hT] at hi ⊢
  rw [List.append_assoc] at hi ⊢
  rw [List.length_append, List.length_append, List.length_replicate, List.length_singleton] at hi
  by_cases h1 : i + 1 < A.length
  · have x1 : (A ++ (List.replicate m (6, L, L) ++ [(7, L, L)])).getD i (7, 0, 0) = A.getD i (7, 0, 0) := by rw [gt_app, if_pos (by omega)]
    have x2 : (A ++ (List.replicate m (6, L, L) ++ [(7, L, L)])).getD (i + 1) (7, 0, 0) = A.getD (i + 1) (7, 0, 0) := by rw [gt_app, if_pos h1]
    rw [if_pos (by omega), if_pos h1, x1, x2]
    exact hg i h1
  · rw [if_neg h1]
    by_cases h2 : i < A.length
    · rw [if_pos h2, gt_app, if_pos h2]
      have hn : A ≠ [] := fun e => by rw [e] at h2; exact absurd h2 (Nat.not_lt_zero i)
      have h3 := hl hn
      unfold lxL at h3
      rw [show A.length - 1 = i by omega] at h3
      exact h3
    · rw [if_neg h2, gt_app, if_neg h2, gt_rep (by omega), h6]
      omega
theorem lx_tkW (hc : ∀ c ∈ t, ed_ok c = true) : ∃ pl : Nat → Int, tkW (lx t) pl ∧ 0 ≤ pl 0 ∧ ∀ i, pl i ≤ (t.length : Int) + 1 := by
  obtain ⟨A, m, hT, hP, hB, hL⟩ := lx_form hc
  have hmem : ∀ i, i < A.length → A.getD i (7, 0, 0) ∈ A := by
    intro i hi
    rw [List.getD_eq_getElem?_getD, List.getElem?_eq_getElem hi]
    exact List.getElem_mem hi
  have hpot := lx_pot hT (fun x => x.2.1) (fun x => (pwl x.1 : Int)) (fun i hi => (hP i hi).2.1) (fun hn => by rw [(hL hn).1]; show _ + ((1 : Nat) : Int) ≤ _; have := (hL hn).2; omega) rfl
  refine ⟨fun i => if i < A.length then ((lx t).getD i (7, 0, 0)).2.1 else (t.length : Int) + 1, ⟨?_, ?_, ?_⟩, ?_, ?_⟩
  · rw [hT, List.length_append]; simp
  · show (lxL (lx t)).1 = 7
    rw [hT, lxL_s]
  · intro i hi
    refine ⟨?_, hpot i hi⟩
    unfold tc
    rw [hT] at hi ⊢
    rw [List.append_assoc] at hi ⊢
    rw [List.length_append, List.length_append, List.length_replicate, List.length_singleton] at hi
    by_cases h1 : i + 1 < A.length
    · rw [gt_app, if_pos (by omega)]
      exact (hP i h1).1
    · by_cases h2 : i < A.length
      · rw [gt_app, if_pos h2]
        have hn : A ≠ [] := fun e => by rw [e] at h2; exact absurd h2 (Nat.not_lt_zero i)
        have h3 := (hL hn).1
        unfold lxL at h3
        rw [show A.length - 1 = i by omega] at h3
        rw [h3]; decide
      · rw [gt_app, if_neg h2, gt_rep (by omega)]
        show (6 : Int) ≠ 7
        decide
  · show 0 ≤ (if 0 < A.length then ((lx t).getD 0 (7, 0, 0)).2.1 else (t.length : Int) + 1)
    split
    · rename_i h
      rw [hT, List.append_assoc, gt_app, if_pos h]
      exact (hB _ (hmem 0 h)).1
    · omega
  · intro i
    show (if i < A.length then ((lx t).getD i (7, 0, 0)).2.1 else (t.length : Int) + 1) ≤ _
    split
    · rename_i h
      rw [hT, List.append_assoc, gt_app, if_pos h]
      have := hB _ (hmem i h)
      omega
    · omega
theorem lx_nms (hc : ∀ c ∈ t, ed_ok c = true) : ∃ f : Nat → Int, (∀ i, i + 1 < (lx t).length → f i + (if tc (lx t) i = 0 then 2 else 0) ≤ f (i + 1)) ∧ 0 ≤ f 0 ∧ ∀ i, f i ≤ (t.length : Int) + 1 := by
  obtain ⟨A, m, hT, hP, hB, hL⟩ := lx_form hc
  have hmem : ∀ i, i < A.length → A.getD i (7, 0, 0) ∈ A := by
    intro i hi
    rw [List.getD_eq_getElem?_getD, List.getElem?_eq_getElem hi]
    exact List.getElem_mem hi
  have hpot := lx_pot hT g2 (fun x => if x.1 = 0 then 2 else 0) (fun i hi => (hP i hi).2.2) (fun hn => by rw [(hL hn).1]; have := (hL hn).2; have := (g2_ge (lxL A)).2; rw [if_neg (by decide)]; omega) rfl
  refine ⟨fun i => if i < A.length then g2 ((lx t).getD i (7, 0, 0)) else (t.length : Int) + 1, hpot, ?_, ?_⟩
  · show 0 ≤ (if 0 < A.length then g2 ((lx t).getD 0 (7, 0, 0)) else (t.length : Int) + 1)
    split
    · rename_i h
      rw [hT, List.append_assoc, gt_app, if_pos h]
      have := (hB _ (hmem 0 h)).1
      have := (g2_ge (A.getD 0 (7, 0, 0))).1
      omega
    · omega
  · intro i
    show (if i < A.length then g2 ((lx t).getD i (7, 0, 0)) else (t.length : Int) + 1) ≤ _
    split
    · rename_i h
      rw [hT, List.append_assoc, gt_app, if_pos h]
      have := hB _ (hmem i h)
      have := (g2_ge (A.getD i (7, 0, 0))).2
      omega
    · omega
theorem lx_tb (hc : ∀ c ∈ t, ed_ok c = true) (i : Nat) : 0 ≤ tb (lx t) i ∧ tb (lx t) i ≤ te (lx t) i ∧ te (lx t) i ≤ (t.length : Int) := by
  obtain ⟨A, m, hT, hP, hB, hL⟩ := lx_form hc
  have hall : lxB (t.length : Int) (lx t) := by
    rw [hT]
    refine lxB_a (lxB_a hB (fun x hx => ?_)) (lxB_1 (by omega) (Int.le_refl _) (Int.le_refl _))
    rw [(List.mem_replicate.mp hx).2]
    exact ⟨by show (0 : Int) ≤ (t.length : Int); omega, Int.le_refl _, Int.le_refl _⟩
  unfold tb te
  rw [List.getD_eq_getElem?_getD]
  by_cases h : i < (lx t).length
  · rw [List.getElem?_eq_getElem h]
    exact hall _ (List.getElem_mem h)
  · rw [List.getElem?_eq_none (by omega)]
    exact ⟨Int.le_refl _, Int.le_refl _, by show (0 : Int) ≤ _; omega⟩
end LT
