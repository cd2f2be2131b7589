/-! A relation that each step keeps, with the scope in which it is taken. -/
def nmT (T : List lxT) (a b : Nat) : List Nat := (List.range' a (b - a)).filter (fun t => decide (tc T t = 0))
def rtT (T : List lxT) (a b : Nat) : List Nat := (List.range' a (b - a)).filter (fun t => decide (tc T t = 28))
theorem rg_app (f : Nat → Bool) {a b c : Nat} (h1 : a ≤ b) (h2 : b ≤ c) : (List.range' a (c - a)).filter f = (List.range' a (b - a)).filter f ++ (List.range' b (c - b)).filter f := by
  rw [← List.filter_append]
  have h := List.range'_append (s := a) (m := b - a) (n := c - b) (step := 1)
  rw [show a + 1 * (b - a) = b by omega, show b - a + (c - b) = c - a by omega] at h
  rw [h]
theorem nmT_a {T : List lxT} {a b c : Nat} (h1 : a ≤ b) (h2 : b ≤ c) : nmT T a c = nmT T a b ++ nmT T b c := rg_app _ h1 h2
theorem rtT_a {T : List lxT} {a b c : Nat} (h1 : a ≤ b) (h2 : b ≤ c) : rtT T a c = rtT T a b ++ rtT T b c := rg_app _ h1 h2
theorem nmT_0 {T : List lxT} {a : Nat} : nmT T a a = [] := by unfold nmT; rw [Nat.sub_self]; rfl
theorem rtT_0 {T : List lxT} {a : Nat} : rtT T a a = [] := by unfold rtT; rw [Nat.sub_self]; rfl
theorem nmT_1 {T : List lxT} {a : Nat} : nmT T a (a + 1) = if tc T a = 0 then [a] else [] := by
  unfold nmT
  rw [show a + 1 - a = 1 by omega]
  show (List.filter _ [a]) = _
  by_cases h : tc T a = 0
  · rw [if_pos h, List.filter_cons_of_pos (by simpa using h)]; rfl
  · rw [if_neg h, List.filter_cons_of_neg (by simpa using h)]; rfl
theorem rtT_1 {T : List lxT} {a : Nat} : rtT T a (a + 1) = if tc T a = 28 then [a] else [] := by
  unfold rtT
  rw [show a + 1 - a = 1 by omega]
  show (List.filter _ [a]) = _
  by_cases h : tc T a = 28
  · rw [if_pos h, List.filter_cons_of_pos (by simpa using h)]; rfl
  · rw [if_neg h, List.filter_cons_of_neg (by simpa using h)]; rfl
theorem rtT_m {T : List lxT} {a b t : Nat} (h : t ∈ rtT T a b) : a ≤ t ∧ (t < b) := by
  unfold rtT at h
  have h1 := (List.mem_filter.mp h).1
  rw [List.mem_range'_1] at h1
  omega
theorem rtT_no {T : List lxT} {a b : Nat} (h : ∀ t, a ≤ t → t < b → tc T t ≠ 28) : rtT T a b = [] := by
  unfold rtT
  rw [List.filter_eq_nil_iff]
  intro t ht
  rw [List.mem_range'_1] at ht
  have := h t (by omega) (by omega)
  simpa using this
/-- parameters: names of one scope -/
def rPar (T : List lxT) (n : Int) (st s : pS) (o : pO) : Prop := st.1 ≤ s.1 ∧ s.2.2.1 = st.2.2.1 ∧ s.2.2.2 = st.2.2.2 + o.2.2.2.2.1.length ∧ o.1 = [] ∧ o.2.1 = [] ∧ o.2.2.1 = [] ∧ o.2.2.2.1 = [] ∧ o.2.2.2.2.2 = [] ∧ o.2.2.2.2.1 = (nmT T st.1 s.1).map (fun t => (t, n, n, 18)) ∧ rtT T st.1 s.1 = []
theorem rPar_t {T : List lxT} {n : Int} {a b c : pS} {o1 o2 : pO} (h1 : rPar T n a b o1) (h2 : rPar T n b c o2) : rPar T n a c (pAp o1 o2) := by
  obtain ⟨a1, a2, a3, a4, a5, a6, a7, a8, a9, a10⟩ := h1
  obtain ⟨b1, b2, b3, b4, b5, b6, b7, b8, b9, b10⟩ := h2
  unfold pAp
  refine ⟨by omega, by omega, ?_, ?_, ?_, ?_, ?_, ?_, ?_, ?_⟩
  · show _ = _ + (o1.2.2.2.2.1 ++ o2.2.2.2.2.1).length
    rw [List.length_append]; omega
  · show o1.1 ++ o2.1 = []; rw [a4, b4]; rfl
  · show o1.2.1 ++ o2.2.1 = []; rw [a5, b5]; rfl
  · show o1.2.2.1 ++ o2.2.2.1 = []; rw [a6, b6]; rfl
  · show o1.2.2.2.1 ++ o2.2.2.2.1 = []; rw [a7, b7]; rfl
  · show o1.2.2.2.2.2 ++ o2.2.2.2.2.2 = []; rw [a8, b8]; rfl
  · show o1.2.2.2.2.1 ++ o2.2.2.2.2.1 = _
    rw [a9, b9, nmT_a a1 b1, List.map_append]
  · rw [rtT_a a1 b1, a10, b10]; rfl
theorem rPar_nm {T : List lxT} {n : Int} {st : pS} : pH (pNm T 18 n n st) (rPar T n st) := by
  unfold pNm
  split
  · rename_i h
    refine ⟨Nat.le_succ _, rfl, rfl, rfl, rfl, rfl, rfl, rfl, ?_, ?_⟩
    · show [(st.1, n, n, 18)] = (nmT T st.1 (st.1 + 1)).map _
      rw [nmT_1, if_pos h]; rfl
    · show rtT T st.1 (st.1 + 1) = []
      rw [rtT_1, if_neg (by omega)]
  · exact trivial
theorem rPar_tk {T : List lxT} {n c : Int} {st : pS} (h0 : c ≠ 0) (h28 : c ≠ 28) : pH (pTk T c st) (rPar T n st) := by
  unfold pTk
  split
  · rename_i h
    refine ⟨Nat.le_succ _, rfl, rfl, rfl, rfl, rfl, rfl, rfl, ?_, ?_⟩
    · show [] = (nmT T st.1 (st.1 + 1)).map _
      rw [nmT_1, if_neg (by omega)]; rfl
    · show rtT T st.1 (st.1 + 1) = []
      rw [rtT_1, if_neg (by omega)]
  · exact trivial
theorem rPar_0 {T : List lxT} {n : Int} {st : pS} : rPar T n st st pO0 := ⟨Nat.le_refl _, rfl, rfl, rfl, rfl, rfl, rfl, rfl, by rw [nmT_0]; rfl, rtT_0⟩
theorem rPar_8 {T : List lxT} {ctx : pC} {nest : Nat} : ∀ (k : Nat) (st : pS), pH (pp T k 8 ctx nest 18 st) (rPar T ctx.1 st) := by
  intro k
  induction k with
  | zero => intro st; exact trivial
  | succ k ih =>
    intro st
    show pH (ite _ _ _) _
    refine pQ_ite _ (fun _ => ?_) (fun _ => rPar_0)
    exact pH_bd (pH_m (rPar_tk (by decide) (by decide)) (fun s1 o1 g1 => pH_bd (pH_m rPar_nm (fun s2 o2 g2 => pH_m (ih s2) (fun s3 o3 g3 => rPar_t g1 (rPar_t g2 g3))))))
theorem rPar_pp {T : List lxT} {ctx : pC} {nest k : Nat} {st : pS} : pH (if tc T st.1 = 0 then pp T k 7 ctx nest 18 st else pOk st) (rPar T ctx.1 st) := by
  refine pQ_ite _ (fun _ => ?_) (fun _ => rPar_0)
  cases k with
  | zero => exact trivial
  | succ k =>
    show pH (pBd _ _) _
    exact pH_bd (pH_m rPar_nm (fun s1 o1 g1 => pH_m (rPar_8 k s1) (fun s2 o2 g2 => rPar_t g1 g2)))
/-- what stands before a scope: its word, its name -/
def rHd (T : List lxT) (c : Int) (st s : pS) (o : pO) : Prop := rtT T st.1 s.1 = [] ∧ s.2.2.1 = st.2.2.1 ∧ o.1 = [] ∧ o.2.1 = [] ∧ o.2.2.1 = [] ∧ o.2.2.2.1 = [] ∧ o.2.2.2.2.2 = [] ∧ (∀ x ∈ o.2.2.2.2.1, x.2 = (c, c, 2))
theorem pAp_as (a b c : pO) : pAp (pAp a b) c = pAp a (pAp b c) := by
  unfold pAp
  simp only [List.append_assoc]
theorem pAp_l (o : pO) : pAp pO0 o = o := rfl
theorem pTd_f {T : List lxT} {c : Int} {n : Nat} {st : pS} : pH (pTd T c n st) (fun s o => tc T st.1 = c ∧ s = pAv T st ∧ o = pO0) := by
  unfold pTd
  split
  · split
    · exact trivial
    · rename_i h _; exact ⟨h, rfl, rfl⟩
  · exact trivial
theorem pTk_f {T : List lxT} {c : Int} {st : pS} : pH (pTk T c st) (fun s o => tc T st.1 = c ∧ s = pAv T st ∧ o = pO0) := by
  unfold pTk
  split
  · rename_i h; exact ⟨h, rfl, rfl⟩
  · exact trivial
theorem pNm_f {T : List lxT} {r c b : Int} {st : pS} : pH (pNm T r c b st) (fun s o => tc T st.1 = 0 ∧ s = ((pAv T st).1, (pAv T st).2.1, st.2.2.1, st.2.2.2 + 1) ∧ o = ([], [], [], [], [(st.1, c, b, r)], [])) := by
  unfold pNm
  split
  · rename_i h; exact ⟨h, rfl, rfl⟩
  · exact trivial
section PI
variable {T : List lxT} {R : pC → pS → pS → pO → Prop}
theorem pp_ind2 (hr : ∀ c st, R c st st pO0) (ht : ∀ c a b e o1 o2, R c a b o1 → R c b e o2 → R c a e (pAp o1 o2)) (hav : ∀ c (st : pS), tc T st.1 ≠ 0 → tc T st.1 ≠ 28 → R c st (pAv T st) pO0) (hnm : ∀ (c : pC) (st : pS) (r : Int), (r = 1 ∨ r = 2 ∨ r = 4 ∨ r = 8) → tc T st.1 = 0 → R c st ((pAv T st).1, (pAv T st).2.1, st.2.2.1, st.2.2.2 + 1) ([], [], [], [], [(st.1, c.1, c.1, r)], [])) (hwl : ∀ (c : pC) (st : pS), tc T st.1 = 0 → R c st ((pAv T st).1, (pAv T st).2.1, st.2.2.1, st.2.2.2 + 1) ([], [], [], [], [(st.1, c.1, c.2.2.1, if 0 < c.2.2.2 then 98 else 34)], [])) (hx : ∀ (c : pC) (st : pS) (b : Int), R c st st ([(b, st.2.1)], [(b, st.2.1)], [], [], [], [])) (hxm : ∀ (c : pC) (st : pS) (b : Int), R c st st ([], [(b, st.2.1)], [], [], [], [])) (hret : ∀ (c : pC) (st : pS), tc T st.1 = 28 → R c st (pAv T st) ([], [], [], [], [], if c.2.1 = 1 then [] else [st.1])) (hsd : ∀ (sort : Int) (c : pC) (j : Nat) (st s3 s4 s : pS) (o1 op o : pO), (sort = 1 ∨ sort = 2 ∨ sort = 3) → R c st s3 o1 → rHd T c.1 st s3 o1 → st.1 < j → j ≤ s3.1 → (∀ x ∈ o1.2.2.2.2.1, x.1 < j) → rPar T (s3.2.2.1 : Int) (pNw s3) s4 op → R ((s3.2.2.1 : Int), sort, (s3.2.2.1 : Int), c.2.2.2) s4 s o → R c st s (pAp o1 (pSd sort c.1 st.1 j s (pAp op o)))) (hcm : ∀ (c : pC) (st s3 s6 s7 : pS) (o1 o3 : pO) (y1 y2 : Int), tc T st.1 = 91 → R ((st.2.2.1 : Int), 4, c.2.2.1, c.2.2.2) (pAv T (pNw st)) s3 o1 → tc T s3.1 = 0 → tc T (s3.1 + 1) = 24 → R (c.1, c.2.1, c.2.2.1, c.2.2.2 + 1) (s3.1 + 2, y1, s3.2.2.1, s3.2.2.2 + 1) s6 o3 → tc T s6.1 = 93 → s7 = pAv T s6 → R c st s7 (o1.1 ++ o3.1, o1.2.1 ++ o3.2.1, (4, c.1, (s3.2.2.2 : Int), (st.1 : Int), (st.1 : Int) + 1, (s6.1 : Int), ((s3.1 + 2 : Nat) : Int), (s6.1 : Int), (s3.1 : Int)) :: (o1.2.2.1 ++ o3.2.2.1), o1.2.2.2.1 ++ (4, c.1, (s3.2.2.2 : Int), (st.1 : Int), (st.1 : Int) + 1, (s6.1 : Int), ((s3.1 + 2 : Nat) : Int), (s6.1 : Int), (s3.1 : Int)) :: o3.2.2.2.1, o1.2.2.2.2.1 ++ ([(s3.1, (st.2.2.1 : Int), (st.2.2.1 : Int), 2)] ++ o3.2.2.2.2.1), o1.2.2.2.2.2 ++ o3.2.2.2.2.2)) : ∀ (k tag : Nat) (ctx : pC) (nest : Nat) (x : Int) (st : pS), (tag = 7 ∨ tag = 8 → x = 4 ∨ x = 8) → pH (pp T k tag ctx nest x st) (R ctx st) := by
  have tk : ∀ (ctx : pC) (c : Int) (s : pS), c ≠ 0 → c ≠ 28 → pH (pTk T c s) (R ctx s) := by
    intro ctx c s h0 h28
    unfold pTk
    split
    · rename_i h; exact hav ctx s (by omega) (by omega)
    · exact trivial
  have td : ∀ (ctx : pC) (c : Int) (n : Nat) (s : pS), c ≠ 0 → c ≠ 28 → pH (pTd T c n s) (R ctx s) := by
    intro ctx c n s h0 h28
    unfold pTd
    split
    · split
      · exact trivial
      · rename_i h _; exact hav ctx s (by omega) (by omega)
    · exact trivial
  have nm : ∀ (ctx : pC) (r : Int) (s : pS), (r = 1 ∨ r = 2 ∨ r = 4 ∨ r = 8) → pH (pNm T r ctx.1 ctx.1 s) (R ctx s) := by
    intro ctx r s hr
    unfold pNm
    split
    · rename_i h; exact hnm ctx s r hr h
    · exact trivial
  have px : ∀ (ctx : pC) (b : Int) (s : pS), pH (pX b s) (R ctx s) := fun ctx b s => hx ctx s b
  have pxm : ∀ (ctx : pC) (b : Int) (s : pS), pH (pXm b s) (R ctx s) := fun ctx b s => hxm ctx s b
  have ok : ∀ (ctx : pC) (s : pS), pH (pOk s) (R ctx s) := fun ctx s => hr ctx s
  have bd : ∀ {ctx : pC} {st : pS} {r : pR} {g : pS → pR}, pH r (R ctx st) → (∀ s1, pH (g s1) (R ctx s1)) → pH (pBd r g) (R ctx st) := fun h1 h2 => pH_bd (pH_m h1 (fun s1 _ g1 => pH_m (h2 s1) (fun _ _ g2 => ht _ _ _ _ _ _ g1 g2)))
  intro k
  induction k with
  | zero => intro tag ctx nest x st _; exact trivial
  | succ k ih =>
    intro tag ctx nest x st htag
    have ihx : ∀ (tag : Nat) (ctx : pC) (nest : Nat) (x : Int) (st : pS), tag ≠ 7 → tag ≠ 8 → pH (pp T k tag ctx nest x st) (R ctx st) := fun tag ctx nest x st h7 h8 => ih tag ctx nest x st (fun h => by omega)
    match tag, htag with
    | 0, _ =>
      show pH (ite _ _ _) _
      refine pQ_ite _ (fun _ => ?_) (fun _ => ?_)
      · refine pH_bd (pH_m pTd_f (fun s1 o1 g1 => pH_bd (pH_wr (pH_bd (pH_m rPar_pp (fun s2 op gp => pH_m (bd (ctx := ((s1.2.2.1 : Int), 3, (s1.2.2.1 : Int), ctx.2.2.2)) (tk _ 58 s2 (by decide) (by decide)) (fun s3 => ihx 0 _ _ _ _ (by decide) (by decide))) (fun s o g => ?_)))))))
        refine pH_m (px ctx (tb T st.1) s) (fun s5 o5 g5 => ?_)
        obtain ⟨e1, e2, e3⟩ := g1
        subst e2 e3
        rw [← pAp_as]
        refine ht _ _ _ _ _ _ (hsd 3 ctx (st.1 + 1) st (pAv T st) s2 s pO0 op o (Or.inr (Or.inr rfl)) (hav ctx st (by omega) (by omega)) ⟨(show rtT T st.1 (st.1 + 1) = [] by rw [rtT_1, if_neg (by omega)]), rfl, rfl, rfl, rfl, rfl, rfl, fun x hx => absurd hx List.not_mem_nil⟩ (Nat.lt_succ_self _) (Nat.le_refl _) (fun x hx => absurd hx List.not_mem_nil) gp g) g5
      · exact bd (ihx 1 _ _ _ _ (by decide) (by decide)) (fun s1 => bd (pxm _ _ s1) (fun s2 => bd (ihx 2 _ _ _ _ (by decide) (by decide)) (fun s3 => pxm _ _ s3)))
    | 1, _ =>
      show pH (pBd _ _) _
      exact bd (ihx 3 _ _ _ _ (by decide) (by decide)) (fun s1 => bd (px _ _ s1) (fun s2 => ihx 4 _ _ _ _ (by decide) (by decide)))
    | 2, _ =>
      show pH (ite _ _ _) _
      exact pQ_ite _ (fun _ => bd (tk _ 43 st (by decide) (by decide)) (fun s1 => bd (ihx 1 _ _ _ _ (by decide) (by decide)) (fun s2 => bd (px _ _ s2) (fun s3 => ihx 2 _ _ _ _ (by decide) (by decide))))) (fun _ => ok _ _)
    | 3, _ =>
      show pH (ite _ _ _) _
      refine pQ_ite _ (fun _ => nm _ _ _ (Or.inl rfl)) (fun _ => pQ_ite _ (fun _ => tk _ 1 st (by decide) (by decide)) (fun _ => pQ_ite _ (fun _ => ?_) (fun _ => pQ_ite _ (fun _ => pQ_ite _ (fun _ => ?_) (fun _ => ?_)) (fun _ => trivial))))
      · refine bd (td _ 40 nest st (by decide) (by decide)) (fun s1 => bd (pQ_ite _ (fun _ => bd ?_ (fun s2 => tk _ 128 s2 (by decide) (by decide))) (fun _ => ok _ _)) (fun s3 => bd (ihx 0 _ _ _ _ (by decide) (by decide)) (fun s4 => tk _ 41 s4 (by decide) (by decide))))
        unfold pNm
        split
        · rename_i h; exact hwl ctx s1 h
        · exact trivial
      · refine pH_cm (pH_m (P1 := fun s3 o1 => tc T st.1 = 91 ∧ R ((st.2.2.1 : Int), 4, ctx.2.2.1, ctx.2.2.2) (pAv T (pNw st)) s3 o1) ?_ (fun s3 o1 g1 => ?_))
        · refine pH_bd (pH_m pTd_f (fun s1 o1 g1 => pH_m (bd (ctx := ((st.2.2.1 : Int), 4, ctx.2.2.1, ctx.2.2.2)) (ihx 0 _ _ _ s1 (by decide) (by decide)) (fun s2 => tk _ 20 s2 (by decide) (by decide))) (fun s o g => ?_)))
          obtain ⟨e1, e2, e3⟩ := g1
          subst e2 e3
          exact ⟨e1, g⟩
        · refine pH_bd (pH_m pNm_f (fun s4 o4 g4 => pH_m pTk_f (fun s5 o5 g5 => ?_)))
          obtain ⟨a1, a2, a3⟩ := g4
          subst a2 a3
          obtain ⟨b1, b2, b3⟩ := g5
          subst b2 b3
          refine pH_m (ihx 0 _ _ _ _ (by decide) (by decide)) (fun s6 o3 g6 => pH_m pTk_f (fun s7 o7 g7 => ?_))
          exact hcm ctx st s3 s6 s7 o1 o3 (pAv T ((pAv T s3).1, (pAv T s3).2.1, s3.2.2.1, s3.2.2.2 + 1)).2.1 0 g1.1 g1.2 a1 b1 g6 g7.1 g7.2.1
      · exact bd (td _ 91 nest st (by decide) (by decide)) (fun s1 => bd (ihx 0 _ _ _ _ (by decide) (by decide)) (fun s2 => tk _ 93 s2 (by decide) (by decide)))
    | 4, _ =>
      show pH (ite _ _ _) _
      exact pQ_ite _ (fun _ => bd (ihx 5 _ _ _ _ (by decide) (by decide)) (fun s1 => bd (px _ _ s1) (fun s2 => ihx 4 _ _ _ _ (by decide) (by decide)))) (fun _ => ok _ _)
    | 5, _ =>
      show pH (pBd _ _) _
      exact bd (td _ 40 nest st (by decide) (by decide)) (fun s1 => pQ_ite _ (fun _ => tk _ 41 s1 (by decide) (by decide)) (fun _ => bd (ihx 0 _ _ _ _ (by decide) (by decide)) (fun s2 => bd (ihx 6 _ _ _ _ (by decide) (by decide)) (fun s3 => tk _ 41 s3 (by decide) (by decide)))))
    | 6, _ =>
      show pH (ite _ _ _) _
      exact pQ_ite _ (fun _ => bd (tk _ 44 st (by decide) (by decide)) (fun s1 => bd (ihx 0 _ _ _ _ (by decide) (by decide)) (fun s2 => ihx 6 _ _ _ _ (by decide) (by decide)))) (fun _ => ok _ _)
    | 7, h7 =>
      have hx48 := h7 (Or.inl rfl)
      show pH (pBd _ _) _
      exact bd (nm _ _ _ (by omega)) (fun s1 => ih 8 _ _ _ _ (fun _ => hx48))
    | 8, h8 =>
      have hx48 := h8 (Or.inr rfl)
      show pH (ite _ _ _) _
      exact pQ_ite _ (fun _ => bd (tk _ 44 st (by decide) (by decide)) (fun s1 => bd (nm _ _ _ (by omega)) (fun s2 => ih 8 _ _ _ _ (fun _ => hx48)))) (fun _ => ok _ _)
    | 9, _ =>
      show pH (pBd _ _) _
      refine bd ?_ (fun s1 => tk _ 4 s1 (by decide) (by decide))
      refine pQ_ite _ (fun _ => tk _ 27 st (by decide) (by decide)) (fun _ => pQ_ite _ (fun _ => bd (tk _ 21 st (by decide) (by decide)) (fun s1 => ih 7 _ _ _ _ (fun _ => Or.inl rfl))) (fun _ => pQ_ite _ (fun _ => bd (tk _ 26 st (by decide) (by decide)) (fun s1 => ih 7 _ _ _ _ (fun _ => Or.inr rfl))) (fun _ => pQ_ite _ (fun _ => bd (tk _ 18 st (by decide) (by decide)) (fun s1 => nm _ _ _ (Or.inr (Or.inl rfl)))) (fun _ => pQ_ite _ (fun _ => bd (tk _ 23 st (by decide) (by decide)) (fun s1 => nm _ _ _ (Or.inr (Or.inl rfl)))) (fun _ => pQ_ite _ (fun h28 => ?_) (fun _ => pQ_ite _ (fun _ => bd (nm _ _ _ (Or.inr (Or.inl rfl))) (fun s1 => bd (tk _ 61 s1 (by decide) (by decide)) (fun s2 => ihx 0 _ _ _ _ (by decide) (by decide)))) (fun _ => ihx 0 _ _ _ _ (by decide) (by decide))))))))
      refine pH_bd (show pH (pOut _ st) _ from ?_)
      refine pH_bd (pH_m pTk_f (fun s1 o1 g1 => pH_m (P1 := R ctx s1) (pQ_ite _ (fun _ => ok _ _) (fun _ => ihx 0 _ _ _ _ (by decide) (by decide))) (fun s o g => ?_)))
      obtain ⟨e1, e2, e3⟩ := g1
      subst e2 e3
      exact ht _ _ _ _ _ _ (hret ctx st h28) g
    | 10, _ =>
      rw [pp]
      refine bd ?_ (fun s1 => px _ _ s1)
      refine pQ_ite _ (fun _ => ?_) (fun _ => pQ_ite _ (fun _ => ?_) (fun _ => pQ_ite _ (fun _ => ?_) (fun _ => pQ_ite _ (fun _ => ?_) (fun _ => pQ_ite _ (fun _ => ?_) (fun _ => ihx 9 _ _ _ _ (by decide) (by decide))))))
      · refine pH_bd (pH_m pTk_f (fun s1 o1 g1 => pH_bd (pH_m pNm_f (fun s2 o2 g2 => pH_bd (pH_m pTk_f (fun s3 o3 g3 => pH_wr (pH_bd (pH_m rPar_pp (fun s4 op gp => pH_m (bd (ctx := ((s3.2.2.1 : Int), 1, (s3.2.2.1 : Int), ctx.2.2.2)) (tk _ 41 s4 (by decide) (by decide)) (fun s5 => ihx 11 _ _ _ _ (by decide) (by decide))) (fun s o g => ?_))))))))))
        obtain ⟨a1, a2, a3⟩ := g1
        subst a2 a3
        obtain ⟨b1, b2, b3⟩ := g2
        subst b2 b3
        obtain ⟨c1, c2, c3⟩ := g3
        subst c2 c3
        rw [pAp_l, pAp_l]
        refine hsd 1 ctx (st.1 + 2) st (pAv T ((pAv T (pAv T st)).1, (pAv T (pAv T st)).2.1, (pAv T st).2.2.1, (pAv T st).2.2.2 + 1)) s4 s ([], [], [], [], [((pAv T st).1, ctx.1, ctx.1, 2)], []) op o (Or.inl rfl) ?_ ⟨?_, rfl, rfl, rfl, rfl, rfl, rfl, fun x hx => ?_⟩ (by omega) (Nat.le_succ _) (fun x hx => ?_) gp g
        · exact ht _ _ _ _ _ _ (hav ctx st (by omega) (by omega)) (ht _ _ _ _ _ _ (hnm ctx (pAv T st) 2 (Or.inr (Or.inl rfl)) b1) (hav ctx _ (by rw [c1]; decide) (by rw [c1]; decide)))
        · exact rtT_no (fun t t1 t2 => by
            have t3 : t < st.1 + 3 := t2
            have b1' : tc T (st.1 + 1) = 0 := b1
            have c1' : tc T (st.1 + 2) = 40 := c1
            rcases (by omega : t = st.1 ∨ t = st.1 + 1 ∨ t = st.1 + 2) with e | e | e
            · subst e; omega
            · subst e; omega
            · subst e; omega)
        · rw [List.mem_singleton] at hx; subst hx; rfl
        · rw [List.mem_singleton] at hx; subst hx; exact Nat.lt_succ_self _
      · refine pH_bd (pH_m pTk_f (fun s1 o1 g1 => pH_bd (pH_m pNm_f (fun s2 o2 g2 => pH_wr (pH_m (ihx 11 _ _ _ _ (by decide) (by decide)) (fun s o g => ?_))))))
        obtain ⟨a1, a2, a3⟩ := g1
        subst a2 a3
        obtain ⟨b1, b2, b3⟩ := g2
        subst b2 b3
        rw [pAp_l]
        refine hsd 2 ctx (st.1 + 2) st ((pAv T (pAv T st)).1, (pAv T (pAv T st)).2.1, (pAv T st).2.2.1, (pAv T st).2.2.2 + 1) (pNw ((pAv T (pAv T st)).1, (pAv T (pAv T st)).2.1, (pAv T st).2.2.1, (pAv T st).2.2.2 + 1)) s ([], [], [], [], [((pAv T st).1, ctx.1, ctx.1, 2)], []) pO0 o (Or.inr (Or.inl rfl)) ?_ ⟨?_, rfl, rfl, rfl, rfl, rfl, rfl, fun x hx => ?_⟩ (by omega) (Nat.le_refl _) (fun x hx => ?_) rPar_0 g
        · exact ht _ _ _ _ _ _ (hav ctx st (by omega) (by omega)) (hnm ctx (pAv T st) 2 (Or.inr (Or.inl rfl)) b1)
        · exact rtT_no (fun t t1 t2 => by
            have t3 : t < st.1 + 2 := t2
            have b1' : tc T (st.1 + 1) = 0 := b1
            rcases (by omega : t = st.1 ∨ t = st.1 + 1) with e | e
            · subst e; omega
            · subst e; omega)
        · rw [List.mem_singleton] at hx; subst hx; rfl
        · rw [List.mem_singleton] at hx; subst hx; exact Nat.lt_succ_self _
      · exact bd (tk _ 22 st (by decide) (by decide)) (fun s1 => bd (ihx 0 _ _ _ _ (by decide) (by decide)) (fun s2 => bd (ihx 11 _ _ _ _ (by decide) (by decide)) (fun s3 => pQ_ite _ (fun _ => bd (tk _ 19 s3 (by decide) (by decide)) (fun s4 => ihx 11 _ _ _ _ (by decide) (by decide))) (fun _ => ok _ _))))
      · exact bd (tk _ 29 st (by decide) (by decide)) (fun s1 => bd (ihx 0 _ _ _ _ (by decide) (by decide)) (fun s2 => ihx 11 _ _ _ _ (by decide) (by decide)))
      · exact bd (tk _ 20 st (by decide) (by decide)) (fun s1 => bd (nm _ _ _ (Or.inr (Or.inl rfl))) (fun s2 => bd (tk _ 24 s2 (by decide) (by decide)) (fun s3 => bd (ihx 0 _ _ _ _ (by decide) (by decide)) (fun s4 => ihx 11 _ _ _ _ (by decide) (by decide)))))
    | 11, _ =>
      show pH (pBd _ _) _
      exact bd (td _ 58 nest st (by decide) (by decide)) (fun s1 => pQ_ite _ (fun _ => bd (tk _ 4 s1 (by decide) (by decide)) (fun s2 => bd (tk _ 5 s2 (by decide) (by decide)) (fun s3 => bd (ihx 10 _ _ _ _ (by decide) (by decide)) (fun s4 => ihx 12 _ _ _ _ (by decide) (by decide))))) (fun _ => ihx 9 _ _ _ _ (by decide) (by decide)))
    | 12, _ =>
      show pH (ite _ _ _) _
      exact pQ_ite _ (fun _ => tk _ 6 st (by decide) (by decide)) (fun _ => bd (ihx 10 _ _ _ _ (by decide) (by decide)) (fun s1 => ihx 12 _ _ _ _ (by decide) (by decide)))
    | 13, _ =>
      show pH (ite _ _ _) _
      exact pQ_ite _ (fun _ => ok _ _) (fun _ => bd (ihx 10 _ _ _ _ (by decide) (by decide)) (fun s1 => ihx 13 _ _ _ _ (by decide) (by decide)))
    | n + 14, _ => exact trivial
end PI
