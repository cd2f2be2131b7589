/-! A relation that each step keeps holds of all that is read. -/
section PI
variable {T : List lxT} {R : pS → pS → pO → Prop}
theorem pR_bd (ht : ∀ a b c o1 o2, R a b o1 → R b c o2 → R a c (pAp o1 o2)) {st : pS} {r : pR} {g : pS → pR} (h1 : pH r (R st)) (h2 : ∀ s1, pH (g s1) (R s1)) : pH (pBd r g) (R st) := pH_bd (pH_m h1 (fun s1 _ g1 => pH_m (h2 s1) (fun _ _ g2 => ht _ _ _ _ _ g1 g2)))
theorem pp_ind (hr : ∀ st, R st st pO0) (ht : ∀ a b c o1 o2, R a b o1 → R b c o2 → R a c (pAp o1 o2)) (hav : ∀ st, R st (pAv T st) pO0) (hnm : ∀ (st : pS) (r c b : Int), tc T st.1 = 0 → R st ((pAv T st).1, (pAv T st).2.1, st.2.2.1, st.2.2.2 + 1) ([], [], [], [], [(st.1, c, b, r)], [])) (hx : ∀ (st : pS) (b : Int), R st st ([(b, st.2.1)], [(b, st.2.1)], [], [], [], [])) (hxm : ∀ (st : pS) (b : Int), R st st ([], [(b, st.2.1)], [], [], [], [])) (hout : ∀ (st : pS) (rt : List Nat), R st st ([], [], [], [], [], rt)) (hsd : ∀ (sort parent : Int) (i j : Nat) (st s : pS) (o : pO), R (pNw st) s o → R st s (pSd sort parent i j s o)) (hcm : ∀ (c : Int) (i : Nat) (st s3 s5 s6 s7 : pS) (o1 o2 o3 : pO), R (pNw st) s3 o1 → R s3 s5 o2 → R s5 s6 o3 → R s6 s7 pO0 → R st s7 (o1.1 ++ o3.1, o1.2.1 ++ o3.2.1, (4, c, (s3.2.2.2 : Int), (i : Int), (i : Int) + 1, (s6.1 : Int), (s5.1 : Int), (s6.1 : Int), (s3.1 : Int)) :: (o1.2.2.1 ++ o3.2.2.1), o1.2.2.2.1 ++ (4, c, (s3.2.2.2 : Int), (i : Int), (i : Int) + 1, (s6.1 : Int), (s5.1 : Int), (s6.1 : Int), (s3.1 : Int)) :: o3.2.2.2.1, o1.2.2.2.2.1 ++ (o2.2.2.2.2.1 ++ o3.2.2.2.2.1), o1.2.2.2.2.2 ++ o3.2.2.2.2.2)) : ∀ (k tag : Nat) (ctx : pC) (nest : Nat) (x : Int) (st : pS), pH (pp T k tag ctx nest x st) (R st) := by
  have tk : ∀ (c : Int) (s : pS), pH (pTk T c s) (R s) := by
    intro c s
    unfold pTk
    split
    · exact hav s
    · exact trivial
  have td : ∀ (c : Int) (n : Nat) (s : pS), pH (pTd T c n s) (R s) := by
    intro c n s
    unfold pTd
    split
    · split
      · exact trivial
      · exact hav s
    · exact trivial
  have nm : ∀ (r c b : Int) (s : pS), pH (pNm T r c b s) (R s) := by
    intro r c b s
    unfold pNm
    split
    · rename_i h
      exact hnm s r c b h
    · exact trivial
  have px : ∀ (b : Int) (s : pS), pH (pX b s) (R s) := fun b s => hx s b
  have pxm : ∀ (b : Int) (s : pS), pH (pXm b s) (R s) := fun b s => hxm s b
  have ok : ∀ s : pS, pH (pOk s) (R s) := fun s => hr s
  have bd : ∀ {st : pS} {r : pR} {g : pS → pR}, pH r (R st) → (∀ s1, pH (g s1) (R s1)) → pH (pBd r g) (R st) := fun h1 h2 => pR_bd ht h1 h2
  have sd : ∀ {st : pS} {r : pR} {sort parent : Int} {i j : Nat}, pH r (R (pNw st)) → pH (pWr (pSd sort parent i j) r) (R st) := fun h => pH_wr (pH_m h (fun s o g => hsd _ _ _ _ _ s o g))
  intro k
  induction k with
  | zero => intro tag ctx nest x st; exact trivial
  | succ k ih =>
    intro tag ctx nest x st
    match tag with
    | 0 =>
      show pH (ite _ _ _) _
      refine pQ_ite _ (fun _ => ?_) (fun _ => ?_)
      · exact bd (td 25 nest st) (fun s1 => bd (sd (bd (pQ_ite _ (fun _ => ih 7 _ _ _ _) (fun _ => ok _)) (fun s2 => bd (tk 58 s2) (fun s3 => ih 0 _ _ _ _)))) (fun s4 => px _ s4))
      · exact bd (ih 1 _ _ _ _) (fun s1 => bd (pxm _ s1) (fun s2 => bd (ih 2 _ _ _ _) (fun s3 => pxm _ s3)))
    | 1 =>
      show pH (pBd _ _) _
      exact bd (ih 3 _ _ _ _) (fun s1 => bd (px _ s1) (fun s2 => ih 4 _ _ _ _))
    | 2 =>
      show pH (ite _ _ _) _
      exact pQ_ite _ (fun _ => bd (tk 43 st) (fun s1 => bd (ih 1 _ _ _ _) (fun s2 => bd (px _ s2) (fun s3 => ih 2 _ _ _ _)))) (fun _ => ok _)
    | 3 =>
      show pH (ite _ _ _) _
      refine pQ_ite _ (fun _ => nm _ _ _ _) (fun _ => pQ_ite _ (fun _ => tk 1 st) (fun _ => pQ_ite _ (fun _ => ?_) (fun _ => pQ_ite _ (fun _ => pQ_ite _ (fun _ => ?_) (fun _ => ?_)) (fun _ => trivial))))
      · exact bd (td 40 nest st) (fun s1 => bd (pQ_ite _ (fun _ => bd (nm _ _ _ _) (fun s2 => tk 128 s2)) (fun _ => ok _)) (fun s3 => bd (ih 0 _ _ _ _) (fun s4 => tk 41 s4)))
      · refine pH_cm (pH_m (bd (td 91 nest (pNw st)) (fun s1 => bd (ih 0 _ _ _ _) (fun s2 => tk 20 s2))) (fun s3 o1 g1 => pH_m (bd (nm _ _ _ s3) (fun s4 => tk 24 s4)) (fun s5 o2 g2 => pH_m (ih 0 _ _ _ s5) (fun s6 o3 g3 => pH_m (pH_and (tk 93 s6) pTk_o) (fun s7 o4 g4 => ?_)))))
        exact hcm _ _ _ _ _ _ _ _ _ _ g1 g2 g3 (by rw [← g4.2]; exact g4.1)
      · exact bd (td 91 nest st) (fun s1 => bd (ih 0 _ _ _ _) (fun s2 => tk 93 s2))
    | 4 =>
      show pH (ite _ _ _) _
      exact pQ_ite _ (fun _ => bd (ih 5 _ _ _ _) (fun s1 => bd (px _ s1) (fun s2 => ih 4 _ _ _ _))) (fun _ => ok _)
    | 5 =>
      show pH (pBd _ _) _
      exact bd (td 40 nest st) (fun s1 => pQ_ite _ (fun _ => tk 41 s1) (fun _ => bd (ih 0 _ _ _ _) (fun s2 => bd (ih 6 _ _ _ _) (fun s3 => tk 41 s3))))
    | 6 =>
      show pH (ite _ _ _) _
      exact pQ_ite _ (fun _ => bd (tk 44 st) (fun s1 => bd (ih 0 _ _ _ _) (fun s2 => ih 6 _ _ _ _))) (fun _ => ok _)
    | 7 =>
      show pH (pBd _ _) _
      exact bd (nm _ _ _ _) (fun s1 => ih 8 _ _ _ _)
    | 8 =>
      show pH (ite _ _ _) _
      exact pQ_ite _ (fun _ => bd (tk 44 st) (fun s1 => bd (nm _ _ _ _) (fun s2 => ih 8 _ _ _ _))) (fun _ => ok _)
    | 9 =>
      show pH (pBd _ _) _
      refine bd ?_ (fun s1 => tk 4 s1)
      exact pQ_ite _ (fun _ => tk 27 st) (fun _ => pQ_ite _ (fun _ => bd (tk 21 st) (fun s1 => ih 7 _ _ _ _)) (fun _ => pQ_ite _ (fun _ => bd (tk 26 st) (fun s1 => ih 7 _ _ _ _)) (fun _ => pQ_ite _ (fun _ => bd (tk 18 st) (fun s1 => nm _ _ _ _)) (fun _ => pQ_ite _ (fun _ => bd (tk 23 st) (fun s1 => nm _ _ _ _)) (fun _ => pQ_ite _ (fun _ => bd (show pH (pOut _ st) (R st) from hout st _) (fun s0 => bd (tk 28 s0) (fun s1 => pQ_ite _ (fun _ => ok _) (fun _ => ih 0 _ _ _ _)))) (fun _ => pQ_ite _ (fun _ => bd (nm _ _ _ _) (fun s1 => bd (tk 61 s1) (fun s2 => ih 0 _ _ _ _))) (fun _ => ih 0 _ _ _ _)))))))
    | 10 =>
      rw [pp]
      refine bd ?_ (fun s1 => px _ s1)
      refine pQ_ite _ (fun _ => ?_) (fun _ => pQ_ite _ (fun _ => ?_) (fun _ => pQ_ite _ (fun _ => ?_) (fun _ => pQ_ite _ (fun _ => ?_) (fun _ => pQ_ite _ (fun _ => ?_) (fun _ => ih 9 _ _ _ _)))))
      · exact bd (tk 17 st) (fun s1 => bd (nm _ _ _ _) (fun s2 => bd (tk 40 s2) (fun s3 => sd (bd (pQ_ite _ (fun _ => ih 7 _ _ _ _) (fun _ => ok _)) (fun s4 => bd (tk 41 s4) (fun s5 => ih 11 _ _ _ _))))))
      · exact bd (tk 16 st) (fun s1 => bd (nm _ _ _ _) (fun s2 => sd (ih 11 _ _ _ _)))
      · exact bd (tk 22 st) (fun s1 => bd (ih 0 _ _ _ _) (fun s2 => bd (ih 11 _ _ _ _) (fun s3 => pQ_ite _ (fun _ => bd (tk 19 s3) (fun s4 => ih 11 _ _ _ _)) (fun _ => ok _))))
      · exact bd (tk 29 st) (fun s1 => bd (ih 0 _ _ _ _) (fun s2 => ih 11 _ _ _ _))
      · exact bd (tk 20 st) (fun s1 => bd (nm _ _ _ _) (fun s2 => bd (tk 24 s2) (fun s3 => bd (ih 0 _ _ _ _) (fun s4 => ih 11 _ _ _ _))))
    | 11 =>
      show pH (pBd _ _) _
      exact bd (td 58 nest st) (fun s1 => pQ_ite _ (fun _ => bd (tk 4 s1) (fun s2 => bd (tk 5 s2) (fun s3 => bd (ih 10 _ _ _ _) (fun s4 => ih 12 _ _ _ _)))) (fun _ => ih 9 _ _ _ _))
    | 12 =>
      show pH (ite _ _ _) _
      exact pQ_ite _ (fun _ => tk 6 st) (fun _ => bd (ih 10 _ _ _ _) (fun s1 => ih 12 _ _ _ _))
    | 13 =>
      show pH (ite _ _ _) _
      exact pQ_ite _ (fun _ => ok _) (fun _ => bd (ih 10 _ _ _ _) (fun s1 => ih 13 _ _ _ _))
    | n + 14 => exact trivial
end PI
/-- the occurrences are names, one behind another, from st to s -/
def rOc (T : List lxT) (st s : pS) (o : pO) : Prop := st.1 ≤ s.1 ∧ (∀ x ∈ o.2.2.2.2.1, st.1 ≤ x.1 ∧ x.1 < s.1 ∧ tc T x.1 = 0) ∧ o.2.2.2.2.1.Pairwise (fun a b => a.1 < b.1)
theorem rOc_app {T : List lxT} {a b c : Nat} {l r : List pOc} (hab : a ≤ b) (hbc : b ≤ c) (h1 : ∀ x ∈ l, a ≤ x.1 ∧ x.1 < b ∧ tc T x.1 = 0) (h2 : l.Pairwise (fun a b => a.1 < b.1)) (h3 : ∀ x ∈ r, b ≤ x.1 ∧ x.1 < c ∧ tc T x.1 = 0) (h4 : r.Pairwise (fun a b => a.1 < b.1)) : (∀ x ∈ l ++ r, a ≤ x.1 ∧ x.1 < c ∧ tc T x.1 = 0) ∧ (l ++ r).Pairwise (fun a b => a.1 < b.1) := by
  refine ⟨fun x hx => ?_, List.pairwise_append.mpr ⟨h2, h4, fun x hx y hy => ?_⟩⟩
  · rcases List.mem_append.mp hx with h | h
    · have := h1 x h; exact ⟨this.1, by omega, this.2.2⟩
    · have := h3 x h; exact ⟨by omega, this.2.1, this.2.2⟩
  · have := h1 x hx; have := h3 y hy; omega
theorem rOc_pp {T : List lxT} : ∀ (k tag : Nat) (ctx : pC) (nest : Nat) (x : Int) (st : pS), pH (pp T k tag ctx nest x st) (rOc T st) := by
  refine pp_ind (R := rOc T) ?_ ?_ ?_ ?_ ?_ ?_ ?_ ?_ ?_
  · intro st; exact ⟨Nat.le_refl _, fun x hx => absurd hx List.not_mem_nil, List.Pairwise.nil⟩
  · intro a b c o1 o2 h1 h2
    obtain ⟨g1, g2⟩ := rOc_app h1.1 h2.1 h1.2.1 h1.2.2 h2.2.1 h2.2.2
    exact ⟨Nat.le_trans h1.1 h2.1, g1, g2⟩
  · intro st; exact ⟨Nat.le_succ _, fun x hx => absurd hx List.not_mem_nil, List.Pairwise.nil⟩
  · intro st r c b h
    refine ⟨Nat.le_succ _, fun x hx => ?_, List.pairwise_singleton _ _⟩
    have hx2 : x ∈ [((st.1, c, b, r) : pOc)] := hx
    rw [List.mem_singleton] at hx2
    subst hx2
    exact ⟨Nat.le_refl _, Nat.lt_succ_self _, h⟩
  · intro st b; exact ⟨Nat.le_refl _, fun x hx => absurd hx List.not_mem_nil, List.Pairwise.nil⟩
  · intro st b; exact ⟨Nat.le_refl _, fun x hx => absurd hx List.not_mem_nil, List.Pairwise.nil⟩
  · intro st rt; exact ⟨Nat.le_refl _, fun x hx => absurd hx List.not_mem_nil, List.Pairwise.nil⟩
  · intro sort parent i j st s o h; exact h
  · intro c i st s3 s5 s6 s7 o1 o2 o3 h1 h2 h3 h4
    obtain ⟨g1, g2⟩ := rOc_app h2.1 h3.1 h2.2.1 h2.2.2 h3.2.1 h3.2.2
    obtain ⟨g3, g4⟩ := rOc_app h1.1 (Nat.le_trans h2.1 h3.1) h1.2.1 h1.2.2 g1 g2
    have h5 := h1.1
    have h6 := h2.1
    have h7 := h3.1
    have h8 := h4.1
    have h9 : st.1 ≤ s3.1 := h5
    exact ⟨by omega, fun x hx => by have := g3 x hx; exact ⟨this.1, by omega, this.2.2⟩, g4⟩
/-- so many names at most -/
theorem nm_cnt {T : List lxT} {f : Nat → Int} (hf : ∀ i, i + 1 < T.length → f i + (if tc T i = 0 then 2 else 0) ≤ f (i + 1)) : ∀ (l : List pOc) (a b : Nat), a ≤ b → b < T.length → (∀ x ∈ l, a ≤ x.1 ∧ x.1 < b ∧ tc T x.1 = 0) → l.Pairwise (fun a b => a.1 < b.1) → 2 * (l.length : Int) ≤ f b - f a := by
  have mono : ∀ (n a : Nat), a + n < T.length → f a ≤ f (a + n) := by
    intro n
    induction n with
    | zero => intro a _; exact Int.le_refl _
    | succ n ih =>
      intro a h
      have h1 := ih a (by omega)
      have h2 := hf (a + n) (by omega)
      rw [show a + (n + 1) = a + n + 1 by omega]
      split at h2 <;> omega
  intro l
  induction l with
  | nil =>
    intro a b hab hb _ _
    have := mono (b - a) a (by omega)
    rw [show a + (b - a) = b by omega] at this
    show 2 * ((0 : Nat) : Int) ≤ _
    omega
  | cons x r ih =>
    intro a b hab hb hx hp
    obtain ⟨x1, x2, x3⟩ := hx x (List.mem_cons_self ..)
    obtain ⟨p1, p2⟩ := List.pairwise_cons.mp hp
    have h1 := ih (x.1 + 1) b (by omega) hb (fun y hy => by have := hx y (List.mem_cons_of_mem _ hy); have := p1 y hy; exact ⟨by omega, by omega, by omega⟩) p2
    have h2 := mono (x.1 - a) a (by omega)
    rw [show a + (x.1 - a) = x.1 by omega] at h2
    have h3 := hf x.1 (by omega)
    rw [if_pos x3] at h3
    rw [List.length_cons]
    omega
/-- an accepted text stays under the class's bounds -/
theorem px_cap {t : List Int32} (hc : ∀ c ∈ t, ed_ok c = true) (ht : t.length ≤ 200) (hl : (lx t).length ≤ 272) {k : Nat} {ctx : pC} {st s : pS} {o : pO} (h0 : st.1 = 0) (h : pp (lx t) k 13 ctx 0 0 st = .inr (s, o)) : pCap (pMo pM0 o) ∧ o.2.1.length ≤ 816 ∧ o.2.2.2.1.length ≤ 28 := by
  obtain ⟨pl, hT, hp0, hpl⟩ := lx_tkW hc
  obtain ⟨f, hf, hf0, hfl⟩ := lx_nms hc
  have hi : st.1 < (lx t).length := by rw [h0]; exact hT.1
  obtain ⟨q1, q2, q3, q4, q5, q6, q7, q8⟩ := pH_i (pQ_pp hT k 13 ctx 0 0 st hi) h
  obtain ⟨r1, r2, r3⟩ := pH_i (rOc_pp k 13 ctx 0 0 st) h
  have hn := nm_cnt hf _ _ _ r1 q2 r2 r3
  have h1 := hpl s.1
  have h2 := hfl s.1
  rw [h0] at q6 q7 q8 hn
  simp only [p_e, p_f, p_w] at q6 q7 q8
  refine ⟨⟨?_, ?_, ?_⟩, ?_, ?_⟩
  · show (([0] : List Int) ++ o.2.2.1.map (fun (x : pSc) => x.1)).length ≤ 32
    rw [List.length_append, List.length_map, List.length_singleton]; omega
  · show (([] : List pOc) ++ o.2.2.2.2.1).length ≤ 100
    rw [List.nil_append]; omega
  · show (([] : List (Int × Int)) ++ o.1).length ≤ 204
    rw [List.nil_append]; omega
  · omega
  · omega
