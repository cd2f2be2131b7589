/-! What an expression does to the search for a comprehension. -/
theorem pbc_s {T : List lxT} {i : Nat} (hi : i < T.length) (dep : Int) : pbc (T.drop i) dep = (if (if tc T i = 40 ∨ tc T i = 91 then dep + 1 else if tc T i = 41 ∨ tc T i = 93 then dep - 1 else dep) < 0 then false else if (if tc T i = 40 ∨ tc T i = 91 then dep + 1 else if tc T i = 41 ∨ tc T i = 93 then dep - 1 else dep) = 0 ∧ tc T i = 20 then true else pbc (T.drop (i + 1)) (if tc T i = 40 ∨ tc T i = 91 then dep + 1 else if tc T i = 41 ∨ tc T i = 93 then dep - 1 else dep)) := by
  have et : (T[i]).1 = tc T i := by unfold tc; rw [List.getD_eq_getElem?_getD, List.getElem?_eq_getElem hi]; rfl
  rw [List.drop_eq_getElem_cons hi, pbc, et]
def pbE (T : List lxT) (a b : Nat) (st s : pS) : Prop := s.1 < T.length ∧ ∀ dep : Int, 0 ≤ dep → pbc (T.drop st.1) (dep + a) = pbc (T.drop s.1) (dep + b)
section PB
variable {T : List lxT} {pl : Nat → Int}
theorem pbE_t {a b c : Nat} {s1 s2 s3 : pS} (h1 : pbE T a b s1 s2) (h2 : pbE T b c s2 s3) : pbE T a c s1 s3 := ⟨h2.1, fun dep h => (h1.2 dep h).trans (h2.2 dep h)⟩
theorem pbE_u {s1 s2 : pS} (h : pbE T 0 0 s1 s2) : pbE T 1 1 s1 s2 := ⟨h.1, fun dep hd => by
  have := h.2 (dep + 1) (by omega)
  simp only [Int.add_assoc] at this
  exact this⟩
theorem pb_bd {a b c : Nat} {st : pS} {r : pR} {g : pS → pR} (h1 : pH r (fun s _ => pbE T a b st s)) (h2 : ∀ s1 : pS, s1.1 < T.length → pH (g s1) (fun s _ => pbE T b c s1 s)) : pH (pBd r g) (fun s _ => pbE T a c st s) := pH_bd (pH_m h1 (fun s1 _ g1 => pH_m (h2 s1 g1.1) (fun _ _ g2 => pbE_t g1 g2)))
theorem pb_1 {a b : Nat} (hT : tkW T pl) {c : Int} (h7 : c ≠ 7) {st : pS} (hi : st.1 < T.length) (h : tc T st.1 = c) (hab : (c ≠ 40 ∧ c ≠ 91 ∧ c ≠ 41 ∧ c ≠ 93 ∧ (c ≠ 20 ∨ a = 1) ∧ a = b) ∨ ((c = 40 ∨ c = 91) ∧ b = a + 1) ∨ ((c = 41 ∨ c = 93) ∧ a = b + 1)) (s : pS) (hs : s.1 = st.1 + 1) : pbE T a b st s := by
  have hn := (tk_nx hT hi h h7).1
  refine ⟨by omega, fun dep hd => ?_⟩
  rw [hs, pbc_s hi, h]
  rcases hab with ⟨c1, c2, c3, c4, c5, c6⟩ | ⟨c1, c2⟩ | ⟨c1, c2⟩
  · rw [if_neg (by omega), if_neg (by omega), if_neg (by omega), if_neg (by omega), c6]
  · rw [if_pos c1, if_neg (by omega), if_neg (by omega), show dep + (a : Int) + 1 = dep + (b : Int) by omega]
  · rw [if_neg (by omega), if_pos c1, if_neg (by omega), if_neg (by omega), show dep + (a : Int) - 1 = dep + (b : Int) by omega]
theorem pb_tk {a b : Nat} (hT : tkW T pl) (c : Int) (h7 : c ≠ 7) {st : pS} (hi : st.1 < T.length) (hab : (c ≠ 40 ∧ c ≠ 91 ∧ c ≠ 41 ∧ c ≠ 93 ∧ (c ≠ 20 ∨ a = 1) ∧ a = b) ∨ ((c = 40 ∨ c = 91) ∧ b = a + 1) ∨ ((c = 41 ∨ c = 93) ∧ a = b + 1)) : pH (pTk T c st) (fun s _ => pbE T a b st s) := by
  unfold pTk
  split
  · rename_i h; exact pb_1 hT h7 hi h hab _ rfl
  · exact trivial
theorem pb_td {a b : Nat} (hT : tkW T pl) (c : Int) (h7 : c ≠ 7) {n : Nat} {st : pS} (hi : st.1 < T.length) (hab : (c ≠ 40 ∧ c ≠ 91 ∧ c ≠ 41 ∧ c ≠ 93 ∧ (c ≠ 20 ∨ a = 1) ∧ a = b) ∨ ((c = 40 ∨ c = 91) ∧ b = a + 1) ∨ ((c = 41 ∨ c = 93) ∧ a = b + 1)) : pH (pTd T c n st) (fun s _ => pbE T a b st s) := by
  unfold pTd
  split
  · split
    · exact trivial
    · rename_i h _; exact pb_1 hT h7 hi h hab _ rfl
  · exact trivial
theorem pb_nm {a : Nat} (hT : tkW T pl) {r c b : Int} {st : pS} (hi : st.1 < T.length) : pH (pNm T r c b st) (fun s _ => pbE T a a st s) := by
  unfold pNm
  split
  · rename_i h; exact pb_1 hT (c := 0) (by decide) hi h (Or.inl ⟨by decide, by decide, by decide, by decide, Or.inl (by decide), rfl⟩) _ rfl
  · exact trivial
theorem pb_ok {a : Nat} {st : pS} (hi : st.1 < T.length) : pbE T a a st st := ⟨hi, fun _ _ => rfl⟩
theorem pb_pp (hT : tkW T pl) : ∀ (k tag : Nat) (ctx : pC) (nest : Nat) (x : Int) (st : pS), tag ≤ 8 → st.1 < T.length → pH (pp T k tag ctx nest x st) (fun s _ => pbE T 0 0 st s) := by
  have tk0 : ∀ (c : Int) (st : pS), st.1 < T.length → c ≠ 7 → c ≠ 40 → c ≠ 91 → c ≠ 41 → c ≠ 93 → c ≠ 20 → pH (pTk T c st) (fun s _ => pbE T 0 0 st s) := fun c st hi h7 h1 h2 h3 h4 h5 => pb_tk hT c h7 hi (Or.inl ⟨h1, h2, h3, h4, Or.inl h5, rfl⟩)
  have cl : ∀ (c : Int) (st : pS), st.1 < T.length → c = 41 ∨ c = 93 → pH (pTk T c st) (fun s _ => pbE T 1 0 st s) := fun c st hi hc => pb_tk hT c (by omega) hi (Or.inr (Or.inr ⟨hc, rfl⟩))
  have op : ∀ (c : Int) (n : Nat) (st : pS), st.1 < T.length → c = 40 ∨ c = 91 → pH (pTd T c n st) (fun s _ => pbE T 0 1 st s) := fun c n st hi hc => pb_td hT c (by omega) hi (Or.inr (Or.inl ⟨hc, rfl⟩))
  have up : ∀ {r : pR} {st : pS}, pH r (fun s _ => pbE T 0 0 st s) → pH r (fun s _ => pbE T 1 1 st s) := fun h => pH_m h (fun _ _ g => pbE_u g)
  have px : ∀ (b : Int) (s : pS), s.1 < T.length → pH (pX b s) (fun s1 _ => pbE T 0 0 s s1) := fun b s h => pb_ok h
  have pxm : ∀ (b : Int) (s : pS), s.1 < T.length → pH (pXm b s) (fun s1 _ => pbE T 0 0 s s1) := fun b s h => pb_ok h
  intro k
  induction k with
  | zero => intro tag ctx nest x st _ _; exact trivial
  | succ k ih =>
    intro tag ctx nest x st h8 hi
    match tag, h8 with
    | 0, _ =>
      show pH (ite _ _ _) _
      refine pQ_ite _ (fun _ => ?_) (fun _ => ?_)
      · refine pb_bd (b := 0) (pb_td hT 25 (by decide) hi (Or.inl ⟨by decide, by decide, by decide, by decide, Or.inl (by decide), rfl⟩)) (fun s1 h1 => pb_bd (b := 0) (pH_wr (pb_bd (b := 0) (pQ_ite _ (fun _ => ih 7 _ _ _ _ (by decide) h1) (fun _ => pb_ok h1)) (fun s2 h2 => pb_bd (b := 0) (tk0 58 s2 h2 (by decide) (by decide) (by decide) (by decide) (by decide) (by decide)) (fun s3 h3 => ih 0 _ _ _ _ (by decide) h3)))) (fun s4 h4 => px _ s4 h4))
      · exact pb_bd (b := 0) (ih 1 _ _ _ _ (by decide) hi) (fun s1 h1 => pb_bd (b := 0) (pxm _ s1 h1) (fun s2 h2 => pb_bd (b := 0) (ih 2 _ _ _ _ (by decide) h2) (fun s3 h3 => pxm _ s3 h3)))
    | 1, _ =>
      show pH (pBd _ _) _
      exact pb_bd (b := 0) (ih 3 _ _ _ _ (by decide) hi) (fun s1 h1 => pb_bd (b := 0) (px _ s1 h1) (fun s2 h2 => ih 4 _ _ _ _ (by decide) h2))
    | 2, _ =>
      show pH (ite _ _ _) _
      exact pQ_ite _ (fun _ => pb_bd (b := 0) (tk0 43 st hi (by decide) (by decide) (by decide) (by decide) (by decide) (by decide)) (fun s1 h1 => pb_bd (b := 0) (ih 1 _ _ _ _ (by decide) h1) (fun s2 h2 => pb_bd (b := 0) (px _ s2 h2) (fun s3 h3 => ih 2 _ _ _ _ (by decide) h3)))) (fun _ => pb_ok hi)
    | 3, _ =>
      show pH (ite _ _ _) _
      refine pQ_ite _ (fun _ => pb_nm hT hi) (fun _ => pQ_ite _ (fun _ => tk0 1 st hi (by decide) (by decide) (by decide) (by decide) (by decide) (by decide)) (fun _ => pQ_ite _ (fun _ => ?_) (fun _ => pQ_ite _ (fun _ => pQ_ite _ (fun _ => ?_) (fun _ => ?_)) (fun _ => trivial))))
      · exact pb_bd (b := 1) (op 40 nest st hi (Or.inl rfl)) (fun s1 h1 => pb_bd (b := 1) (pQ_ite _ (fun _ => pb_bd (b := 1) (pb_nm hT h1) (fun s2 h2 => pb_tk hT 128 (by decide) h2 (Or.inl ⟨by decide, by decide, by decide, by decide, Or.inl (by decide), rfl⟩))) (fun _ => pb_ok h1)) (fun s3 h3 => pb_bd (b := 1) (up (ih 0 _ _ _ _ (by decide) h3)) (fun s4 h4 => cl 41 s4 h4 (Or.inl rfl))))
      · have hi2 : (pNw st).1 < T.length := hi
        refine pH_cm (pH_m (pb_bd (b := 1) (op 91 nest (pNw st) hi2 (Or.inr rfl)) (fun s1 h1 => pb_bd (b := 1) (up (ih 0 _ _ _ _ (by decide) h1)) (fun s2 h2 => pb_tk (b := 1) hT 20 (by decide) h2 (Or.inl ⟨by decide, by decide, by decide, by decide, Or.inr rfl, rfl⟩)))) (fun s3 o1 g1 => pH_m (pb_bd (b := 1) (c := 1) (pb_nm hT g1.1) (fun s4 h4 => pb_tk hT 24 (by decide) h4 (Or.inl ⟨by decide, by decide, by decide, by decide, Or.inl (by decide), rfl⟩))) (fun s5 o2 g2 => pH_m (up (ih 0 _ _ _ _ (by decide) g2.1)) (fun s6 o3 g3 => pH_m (cl 93 s6 g3.1 (Or.inr rfl)) (fun s7 o4 g4 => ?_)))))
        exact pbE_t (s1 := pNw st) g1 (pbE_t g2 (pbE_t g3 g4))
      · exact pb_bd (b := 1) (op 91 nest st hi (Or.inr rfl)) (fun s1 h1 => pb_bd (b := 1) (up (ih 0 _ _ _ _ (by decide) h1)) (fun s2 h2 => cl 93 s2 h2 (Or.inr rfl)))
    | 4, _ =>
      show pH (ite _ _ _) _
      exact pQ_ite _ (fun _ => pb_bd (b := 0) (ih 5 _ _ _ _ (by decide) hi) (fun s1 h1 => pb_bd (b := 0) (px _ s1 h1) (fun s2 h2 => ih 4 _ _ _ _ (by decide) h2))) (fun _ => pb_ok hi)
    | 5, _ =>
      show pH (pBd _ _) _
      exact pb_bd (b := 1) (op 40 nest st hi (Or.inl rfl)) (fun s1 h1 => pQ_ite _ (fun _ => cl 41 s1 h1 (Or.inl rfl)) (fun _ => pb_bd (b := 1) (up (ih 0 _ _ _ _ (by decide) h1)) (fun s2 h2 => pb_bd (b := 1) (up (ih 6 _ _ _ _ (by decide) h2)) (fun s3 h3 => cl 41 s3 h3 (Or.inl rfl)))))
    | 6, _ =>
      show pH (ite _ _ _) _
      exact pQ_ite _ (fun _ => pb_bd (b := 0) (tk0 44 st hi (by decide) (by decide) (by decide) (by decide) (by decide) (by decide)) (fun s1 h1 => pb_bd (b := 0) (ih 0 _ _ _ _ (by decide) h1) (fun s2 h2 => ih 6 _ _ _ _ (by decide) h2))) (fun _ => pb_ok hi)
    | 7, _ =>
      show pH (pBd _ _) _
      exact pb_bd (b := 0) (pb_nm hT hi) (fun s1 h1 => ih 8 _ _ _ _ (by decide) h1)
    | 8, _ =>
      show pH (ite _ _ _) _
      exact pQ_ite _ (fun _ => pb_bd (b := 0) (tk0 44 st hi (by decide) (by decide) (by decide) (by decide) (by decide) (by decide)) (fun s1 h1 => pb_bd (b := 0) (pb_nm hT h1) (fun s2 h2 => ih 8 _ _ _ _ (by decide) h2))) (fun _ => pb_ok hi)
/-- behind the first expression of a list: for, or none comes -/
theorem pb_for (hT : tkW T pl) {k : Nat} {ctx : pC} {nest : Nat} {x : Int} {st s1 : pS} {o1 : pO} (hi : st.1 < T.length) (h : pp T k 0 ctx nest x st = .inr (s1, o1)) : (tc T s1.1 = 20 → pbc (T.drop st.1) 0 = true) ∧ (tc T s1.1 = 93 → pbc (T.drop st.1) 0 = false) := by
  obtain ⟨h1, h2⟩ := pH_i (pb_pp hT k 0 ctx nest x st (by decide) hi) h
  have h3 := h2 0 (Int.le_refl 0)
  simp only [Int.ofNat_eq_natCast, Int.natCast_zero, Int.add_zero] at h3
  rw [h3, pbc_s h1]
  refine ⟨fun e => ?_, fun e => ?_⟩
  · rw [e]; rfl
  · rw [e]; rfl
end PB
