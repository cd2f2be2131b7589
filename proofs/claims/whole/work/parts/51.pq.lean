/-! What holds of a piece that is read to its end. -/
def pH (r : pR) (P : pS → pO → Prop) : Prop := match r with
  | .inl _ => True
  | .inr (s, o) => P s o
theorem pH_bd {r : pR} {f : pS → pR} {P : pS → pO → Prop} (h : pH r (fun s1 o1 => pH (f s1) (fun s2 o2 => P s2 (pAp o1 o2)))) : pH (pBd r f) P := by
  unfold pBd
  match r, h with
  | .inl e, _ => exact trivial
  | .inr (s1, o1), h =>
    show pH (match f s1 with | .inl e => .inl e | .inr (st2, o2) => .inr (st2, pAp o1 o2)) P
    have h1 : pH (f s1) (fun s2 o2 => P s2 (pAp o1 o2)) := h
    match hf : f s1, h1 with
    | .inl e, _ => exact trivial
    | .inr (s2, o2), h1 => exact h1
theorem pH_wr {r : pR} {f : pS → pO → pO} {P : pS → pO → Prop} (h : pH r (fun s o => P s (f s o))) : pH (pWr f r) P := by
  match r, h with
  | .inl e, _ => exact trivial
  | .inr (s1, o1), h => exact h
theorem pH_m {r : pR} {P P1 : pS → pO → Prop} (h : pH r P1) (hp : ∀ s o, P1 s o → P s o) : pH r P := by
  match r, h with
  | .inl e, _ => exact trivial
  | .inr (s1, o1), h => exact hp s1 o1 h
theorem pH_cm {T : List lxT} {c : Int} {first : Nat} {r : pR} {tail src : pS → pR} {P : pS → pO → Prop} (h : pH r (fun s3 o1 => pH (tail s3) (fun s5 o2 => pH (src s5) (fun s6 o3 => pH (pTk T 93 s6) (fun s7 _ => P s7 (o1.1 ++ o3.1, o1.2.1 ++ o3.2.1, (4, c, (s3.2.2.2 : Int), (first : Int), (first : Int) + 1, (s6.1 : Int), (s5.1 : Int), (s6.1 : Int), (s3.1 : Int)) :: (o1.2.2.1 ++ o3.2.2.1), o1.2.2.2.1 ++ (4, c, (s3.2.2.2 : Int), (first : Int), (first : Int) + 1, (s6.1 : Int), (s5.1 : Int), (s6.1 : Int), (s3.1 : Int)) :: o3.2.2.2.1, o1.2.2.2.2.1 ++ (o2.2.2.2.2.1 ++ o3.2.2.2.2.1), o1.2.2.2.2.2 ++ o3.2.2.2.2.2)))))) : pH (pCm T c first r tail src) P := by
  unfold pCm
  match r, h with
  | .inl e, _ => exact trivial
  | .inr (s3, o1), h =>
    simp only
    have h1 : pH (tail s3) _ := h
    match ht : tail s3, h1 with
    | .inl e, _ => exact trivial
    | .inr (s5, o2), h1 =>
      simp only
      have h2 : pH (src s5) _ := h1
      match hs : src s5, h2 with
      | .inl e, _ => exact trivial
      | .inr (s6, o3), h2 =>
        simp only
        have h3 : pH (pTk T 93 s6) _ := h2
        match h9 : pTk T 93 s6, h3 with
        | .inl e, _ => exact trivial
        | .inr (s7, o7), h3 => exact h3
theorem pH_and {r : pR} {P P1 : pS → pO → Prop} (h : pH r P) (h1 : pH r P1) : pH r (fun s o => P s o ∧ P1 s o) := by
  match r, h, h1 with
  | .inl e, _, _ => exact trivial
  | .inr (s1, o1), h, h1 => exact ⟨h, h1⟩
theorem pTk_o {T : List lxT} {c : Int} {s : pS} : pH (pTk T c s) (fun _ o => o = pO0) := by
  unfold pTk
  split
  · exact rfl
  · exact trivial
theorem pNm_o {T : List lxT} {r c b : Int} {s : pS} : pH (pNm T r c b s) (fun _ o => o = ([], [], [], [], [(s.1, c, b, r)], [])) := by
  unfold pNm
  split
  · exact rfl
  · exact trivial
theorem pAp_0 (o : pO) : pAp o pO0 = o := by
  unfold pAp pO0
  simp only [List.append_nil]
def pwl (c : Int) : Nat := if c = 16 then 5 else if c = 17 then 3 else if c = 25 then 6 else if c = 20 then 3 else if c = 24 then 2 else if c = 0 ∨ c = 1 ∨ c = 4 ∨ 16 ≤ c then 1 else 0
/-- pl: a place for each token; the tokens' texts lie one behind another -/
def tkW (T : List lxT) (pl : Nat → Int) : Prop := 0 < T.length ∧ tc T (T.length - 1) = 7 ∧ (∀ i, i + 1 < T.length → tc T i ≠ 7 ∧ pl i + pwl (tc T i) ≤ pl (i + 1))
/-- from st to s with o: at least q tokens, room for e of the reference's and f of the class's spans more, w characters more than seven a scope -/
def pQ (T : List lxT) (pl : Nat → Int) (e f : Int) (q : Nat) (w : Int) (st s : pS) (o : pO) : Prop := st.1 + q ≤ s.1 ∧ s.1 < T.length ∧ s.2.2.1 = st.2.2.1 + o.2.2.1.length ∧ s.2.2.2 = st.2.2.2 + o.2.2.2.2.1.length ∧ o.2.2.2.1.length = o.2.2.1.length ∧ (o.2.1.length : Int) + e ≤ 3 * ((s.1 : Int) - st.1) ∧ (o.1.length : Int) + f ≤ pl s.1 - pl st.1 ∧ 7 * (o.2.2.1.length : Int) + w ≤ pl s.1 - pl st.1
theorem tk_nx {T : List lxT} {pl : Nat → Int} (hT : tkW T pl) {i : Nat} {c : Int} (hi : i < T.length) (hc : tc T i = c) (h7 : c ≠ 7) : i + 1 < T.length ∧ pl i + pwl c ≤ pl (i + 1) := by
  have h1 : i + 1 < T.length := by
    by_cases h : i + 1 < T.length
    · exact h
    · have e : T.length - 1 = i := by omega
      have := hT.2.1
      rw [e, hc] at this
      exact absurd this h7
  have h2 := hT.2.2 i h1
  rw [hc] at h2
  exact ⟨h1, h2.2⟩
section PQ
variable {T : List lxT} {pl : Nat → Int}
theorem pQ_1 (hT : tkW T pl) {c : Int} (h7 : c ≠ 7) {st : pS} (hi : st.1 < T.length) (h : tc T st.1 = c) (s : pS) (o : pO) (h1 : s.1 = st.1 + 1) (h2 : s.2.2.1 = st.2.2.1) (h3 : s.2.2.2 = st.2.2.2 + o.2.2.2.2.1.length) (h4 : o.2.2.1 = []) (h5 : o.2.2.2.1 = []) (h6 : o.2.1 = []) (h8 : o.1 = []) : pQ T pl 3 (pwl c) 1 (pwl c) st s o := by
  obtain ⟨g1, g2⟩ := tk_nx hT hi h h7
  unfold pQ
  rw [h1, h2, h3, h4, h5, h6, h8]
  refine ⟨Nat.le_refl _, g1, rfl, rfl, rfl, ?_, ?_, ?_⟩
  · show ((0 : Nat) : Int) + 3 ≤ 3 * (((st.1 + 1 : Nat) : Int) - st.1); omega
  · show ((0 : Nat) : Int) + _ ≤ _; omega
  · show 7 * ((0 : Nat) : Int) + _ ≤ _; omega
theorem pQ_tk (hT : tkW T pl) {c : Int} (h7 : c ≠ 7) {st : pS} (hi : st.1 < T.length) : pH (pTk T c st) (pQ T pl 3 (pwl c) 1 (pwl c) st) := by
  unfold pTk
  split
  · rename_i h; exact pQ_1 hT h7 hi h _ _ rfl rfl rfl rfl rfl rfl rfl
  · exact trivial
theorem pQ_td (hT : tkW T pl) {c : Int} (h7 : c ≠ 7) {nest : Nat} {st : pS} (hi : st.1 < T.length) : pH (pTd T c nest st) (pQ T pl 3 (pwl c) 1 (pwl c) st) := by
  unfold pTd
  split
  · split
    · exact trivial
    · rename_i h _; exact pQ_1 hT h7 hi h _ _ rfl rfl rfl rfl rfl rfl rfl
  · exact trivial
theorem pQ_nm (hT : tkW T pl) {r c b : Int} {st : pS} (hi : st.1 < T.length) : pH (pNm T r c b st) (pQ T pl 3 1 1 1 st) := by
  unfold pNm
  split
  · rename_i h; exact pQ_1 hT (c := 0) (by decide) hi h _ _ rfl rfl rfl rfl rfl rfl rfl
  · exact trivial
theorem pQ_ok {st : pS} (hi : st.1 < T.length) : pH (pOk st) (pQ T pl 0 0 0 0 st) := ⟨Nat.le_refl _, hi, rfl, rfl, rfl, by show ((0 : Nat) : Int) + 0 ≤ _; omega, by show ((0 : Nat) : Int) + 0 ≤ _; omega, by show 7 * ((0 : Nat) : Int) + 0 ≤ _; omega⟩
theorem pQ_out {st : pS} (rt : List Nat) (hi : st.1 < T.length) : pH (pOut ([], [], [], [], [], rt) st) (pQ T pl 0 0 0 0 st) := ⟨Nat.le_refl _, hi, rfl, rfl, rfl, by show ((0 : Nat) : Int) + 0 ≤ _; omega, by show ((0 : Nat) : Int) + 0 ≤ _; omega, by show 7 * ((0 : Nat) : Int) + 0 ≤ _; omega⟩
theorem pAp_l1 (a b : pO) : (pAp a b).2.2.1.length = a.2.2.1.length + b.2.2.1.length := List.length_append
theorem pAp_l2 (a b : pO) : (pAp a b).2.2.2.2.1.length = a.2.2.2.2.1.length + b.2.2.2.2.1.length := List.length_append
theorem pAp_l3 (a b : pO) : (pAp a b).2.2.2.1.length = a.2.2.2.1.length + b.2.2.2.1.length := List.length_append
theorem pAp_l4 (a b : pO) : (pAp a b).2.1.length = a.2.1.length + b.2.1.length := List.length_append
theorem pAp_l5 (a b : pO) : (pAp a b).1.length = a.1.length + b.1.length := List.length_append
/-- one piece behind another -/
theorem pQ_t {e1 f1 e2 f2 w1 w2 : Int} {q1 q2 : Nat} {st s1 s2 : pS} {o1 o2 : pO} (h1 : pQ T pl e1 f1 q1 w1 st s1 o1) (h2 : pQ T pl e2 f2 q2 w2 s1 s2 o2) : pQ T pl (e1 + e2) (f1 + f2) (q1 + q2) (w1 + w2) st s2 (pAp o1 o2) := by
  obtain ⟨a1, a2, a3, a4, a5, a6, a7, a8⟩ := h1
  obtain ⟨b1, b2, b3, b4, b5, b6, b7, b8⟩ := h2
  unfold pQ
  rw [pAp_l1, pAp_l2, pAp_l3, pAp_l4, pAp_l5]
  refine ⟨by omega, b2, by omega, by omega, by omega, by omega, by omega, by omega⟩
theorem pQ_w {e f e1 f1 w w1 : Int} {q q1 : Nat} {st s : pS} {o : pO} (h : pQ T pl e1 f1 q1 w1 st s o) (he : e ≤ e1) (hf : f ≤ f1) (hq : q ≤ q1) (hw : w ≤ w1) : pQ T pl e f q w st s o := by
  obtain ⟨a1, a2, a3, a4, a5, a6, a7, a8⟩ := h
  exact ⟨by omega, a2, a3, a4, a5, by omega, by omega, by omega⟩
theorem pQ_ww {e f e1 f1 w w1 : Int} {q q1 : Nat} {st : pS} {r : pR} (h : pH r (pQ T pl e1 f1 q1 w1 st)) (he : e ≤ e1) (hf : f ≤ f1) (hq : q ≤ q1) (hw : w ≤ w1) : pH r (pQ T pl e f q w st) := pH_m h (fun _ _ g => pQ_w g he hf hq hw)
/-- a piece, then another -/
theorem pQ_bd {e1 f1 e2 f2 w1 w2 : Int} {q1 q2 : Nat} {st : pS} {r : pR} {g : pS → pR} (h1 : pH r (pQ T pl e1 f1 q1 w1 st)) (h2 : ∀ s1 : pS, s1.1 < T.length → pH (g s1) (pQ T pl e2 f2 q2 w2 s1)) : pH (pBd r g) (pQ T pl (e1 + e2) (f1 + f2) (q1 + q2) (w1 + w2) st) :=
  pH_bd (pH_m h1 (fun s1 _ g1 => pH_m (h2 s1 g1.2.1) (fun _ _ g2 => pQ_t g1 g2)))
theorem pQ_x {b : Int} {st : pS} (hi : st.1 < T.length) : pH (pX b st) (pQ T pl (-1) (-1) 0 0 st) := by
  refine ⟨Nat.le_refl _, hi, rfl, rfl, rfl, ?_, ?_, ?_⟩
  · show ((1 : Nat) : Int) + (-1) ≤ _; omega
  · show ((1 : Nat) : Int) + (-1) ≤ _; omega
  · show 7 * ((0 : Nat) : Int) + 0 ≤ _; omega
theorem pQ_xm {b : Int} {st : pS} (hi : st.1 < T.length) : pH (pXm b st) (pQ T pl (-1) 0 0 0 st) := by
  refine ⟨Nat.le_refl _, hi, rfl, rfl, rfl, ?_, ?_, ?_⟩
  · show ((1 : Nat) : Int) + (-1) ≤ _; omega
  · show ((0 : Nat) : Int) + 0 ≤ _; omega
  · show 7 * ((0 : Nat) : Int) + 0 ≤ _; omega
/-- a scope around a piece that began with its number taken -/
theorem pQ_sd {e f w : Int} {q : Nat} {sort parent : Int} {i j : Nat} {st : pS} {r : pR} (h1 : pH r (pQ T pl e f q w (pNw st))) : pH (pWr (pSd sort parent i j) r) (pQ T pl e f q (w - 7) st) := by
  refine pH_wr (pH_m h1 (fun s1 o1 g1 => ?_))
  obtain ⟨a1, a2, a3, a4, a5, a6, a7, a8⟩ := g1
  refine ⟨a1, a2, ?_, a4, ?_, a6, a7, ?_⟩
  · show s1.2.2.1 = st.2.2.1 + (_ :: o1.2.2.1).length
    rw [List.length_cons, a3]
    show st.2.2.1 + 1 + _ = _
    omega
  · show (_ :: o1.2.2.2.1).length = (_ :: o1.2.2.1).length
    rw [List.length_cons, List.length_cons, a5]
  · show 7 * ((_ :: o1.2.2.1).length : Int) + (w - 7) ≤ pl s1.1 - pl st.1
    rw [List.length_cons]
    have a9 : 7 * (o1.2.2.1.length : Int) + w ≤ pl s1.1 - pl st.1 := a8
    omega
theorem pQ_ite {p : Prop} (dp : Decidable p) {a b : pR} {P : pS → pO → Prop} (h1 : p → pH a P) (h2 : ¬ p → pH b P) : pH (@ite _ p dp a b) P := by
  by_cases h : p
  · rw [if_pos h]; exact h1 h
  · rw [if_neg h]; exact h2 h
def p_e (tag : Nat) : Int := match tag with
  | 1 => 2
  | 3 => 3
  | 5 => 3
  | 7 => 3
  | 9 => 3
  | 10 => 2
  | 11 => 3
  | 12 => 3
  | _ => 0
def p_f (tag : Nat) : Int := match tag with
  | 3 => 1
  | 5 => 1
  | 7 => 1
  | 9 => 1
  | 11 => 1
  | _ => 0
def p_q (tag : Nat) : Nat := match tag with
  | 0 => 1
  | 1 => 1
  | 3 => 1
  | 5 => 1
  | 7 => 1
  | 9 => 1
  | 10 => 1
  | 11 => 1
  | 12 => 1
  | _ => 0
def p_w (tag : Nat) : Int := match tag with
  | 0 => 1
  | 1 => 1
  | 3 => 1
  | 5 => 1
  | 7 => 1
  | 9 => 1
  | 10 => 1
  | 11 => 2
  | _ => 0
theorem pQ_pp (hT : tkW T pl) : ∀ (k tag : Nat) (ctx : pC) (nest : Nat) (x : Int) (st : pS), st.1 < T.length → pH (pp T k tag ctx nest x st) (pQ T pl (p_e tag) (p_f tag) (p_q tag) (p_w tag) st) := by
  intro k
  induction k with
  | zero => intro tag ctx nest x st hi; exact trivial
  | succ k ih =>
    intro tag ctx nest x st hi
    have tk : ∀ (c : Int) (s : pS), s.1 < T.length → c ≠ 7 → pH (pTk T c s) (pQ T pl 3 (pwl c) 1 (pwl c) s) := fun c s hs h7 => pQ_tk hT h7 hs
    have td : ∀ (c : Int) (n : Nat) (s : pS), s.1 < T.length → c ≠ 7 → pH (pTd T c n s) (pQ T pl 3 (pwl c) 1 (pwl c) s) := fun c n s hs h7 => pQ_td hT h7 hs
    match tag with
    | 0 =>
      show pH (ite _ _ _) _
      refine pQ_ite _ (fun _ => ?_) (fun _ => ?_)
      · refine pQ_ww (pQ_bd (td 25 nest st hi (by decide)) (fun s1 h1 => pQ_bd (pQ_sd (pQ_bd (e1 := 0) (f1 := 0) (q1 := 0) (w1 := 0) (pQ_ite _ (fun _ => pQ_ww (ih 7 _ _ _ _ h1) (by decide) (by decide) (by decide) (by decide)) (fun _ => pQ_ok h1)) (fun s2 h2 => pQ_bd (tk 58 s2 h2 (by decide)) (fun s3 h3 => ih 0 _ _ _ _ h3)))) (fun s4 h4 => pQ_x h4))) ?_ ?_ ?_ ?_
        all_goals decide
      · refine pQ_ww (pQ_bd (ih 1 _ _ _ _ hi) (fun s1 h1 => pQ_bd (pQ_xm h1) (fun s2 h2 => pQ_bd (ih 2 _ _ _ _ h2) (fun s3 h3 => pQ_xm h3)))) ?_ ?_ ?_ ?_
        all_goals decide
    | 1 =>
      show pH (pBd _ _) _
      refine pQ_ww (pQ_bd (ih 3 _ _ _ _ hi) (fun s1 h1 => pQ_bd (pQ_x h1) (fun s2 h2 => ih 4 _ _ _ _ h2))) ?_ ?_ ?_ ?_
      all_goals decide
    | 2 =>
      show pH (ite _ _ _) _
      refine pQ_ite _ (fun _ => ?_) (fun _ => pQ_ok hi)
      refine pQ_ww (pQ_bd (tk 43 st hi (by decide)) (fun s1 h1 => pQ_bd (ih 1 _ _ _ _ h1) (fun s2 h2 => pQ_bd (pQ_x h2) (fun s3 h3 => ih 2 _ _ _ _ h3)))) ?_ ?_ ?_ ?_
      all_goals decide
    | 3 =>
      show pH (ite _ _ _) _
      refine pQ_ite _ (fun _ => pQ_nm hT hi) (fun _ => pQ_ite _ (fun _ => tk 1 st hi (by decide)) (fun _ => pQ_ite _ (fun _ => ?_) (fun _ => pQ_ite _ (fun _ => pQ_ite _ (fun _ => ?_) (fun _ => ?_)) (fun _ => trivial))))
      · refine pQ_ww (pQ_bd (td 40 nest st hi (by decide)) (fun s1 h1 => pQ_bd (e1 := 0) (f1 := 0) (q1 := 0) (w1 := 0) (pQ_ite _ (fun _ => pQ_ww (pQ_bd (pQ_nm hT h1) (fun s2 h2 => tk 128 s2 h2 (by decide))) (by decide) (by decide) (by decide) (by decide)) (fun _ => pQ_ok h1)) (fun s3 h3 => pQ_bd (ih 0 _ _ _ _ h3) (fun s4 h4 => tk 41 s4 h4 (by decide))))) ?_ ?_ ?_ ?_
        all_goals decide
      · have hi2 : (pNw st).1 < T.length := hi
        refine pH_cm (pH_m (pQ_bd (td 91 nest (pNw st) hi2 (by decide)) (fun s1 h1 => pQ_bd (ih 0 _ _ _ _ h1) (fun s2 h2 => tk 20 s2 h2 (by decide)))) (fun s3 o1 g1 => pH_m (pH_and (P1 := fun _ o => o.2.2.1 = []) (pQ_bd (pQ_nm hT g1.2.1) (fun s4 h4 => tk 24 s4 h4 (by decide))) (pH_bd (pH_m pNm_o (fun s4 o4 e4 => pH_m pTk_o (fun s5 o5 e5 => (show (pAp o4 o5).2.2.1 = [] by rw [e4, e5]; rfl)))))) (fun s5 o2 g2' => pH_m (ih 0 _ _ _ _ g2'.1.2.1) (fun s6 o3 g3 => pH_m (pH_and (tk 93 s6 g3.2.1 (by decide)) pTk_o) (fun s7 o4 g4' => ?_)))))
        obtain ⟨a1, a2, a3, a4, a5, a6, a7, a8⟩ := g1
        obtain ⟨g2, hz2⟩ := g2'
        obtain ⟨g4, hz4⟩ := g4'
        obtain ⟨b1, b2, b3, b4, b5, b6, b7, b8⟩ := g2
        obtain ⟨c1, c2, c3, c4, c5, c6, c7, c8⟩ := g3
        obtain ⟨d1, d2, d3, d4, d5, d6, d7, d8⟩ := g4
        simp only [p_e, p_f, p_q, p_w, show ((pwl 91 : Nat) : Int) = 1 from rfl, show ((pwl 20 : Nat) : Int) = 3 from rfl, show ((pwl 24 : Nat) : Int) = 2 from rfl, show ((pwl 93 : Nat) : Int) = 1 from rfl] at a1 a6 a7 a8 b1 b6 b7 b8 c1 c6 c7 c8 d1 d6 d7 d8 ⊢
        have n1 : (pNw st).1 = st.1 := rfl
        have n2 : (pNw st).2.2.1 = st.2.2.1 + 1 := rfl
        have n3 : (pNw st).2.2.2 = st.2.2.2 := rfl
        rw [n1] at a1 a6 a7 a8
        rw [n2] at a3
        rw [n3] at a4
        unfold pQ
        simp only [List.length_append, List.length_cons]
        have hz : o4.2.2.1.length = 0 ∧ o4.2.2.2.2.1.length = 0 ∧ o2.2.2.1.length = 0 := by rw [hz4, hz2]; exact ⟨rfl, rfl, rfl⟩
        refine ⟨by omega, d2, by omega, by omega, by omega, by omega, by omega, by omega⟩
      · refine pQ_ww (pQ_bd (td 91 nest st hi (by decide)) (fun s1 h1 => pQ_bd (ih 0 _ _ _ _ h1) (fun s2 h2 => tk 93 s2 h2 (by decide)))) ?_ ?_ ?_ ?_
        all_goals decide
    | 4 =>
      show pH (ite _ _ _) _
      refine pQ_ite _ (fun _ => ?_) (fun _ => pQ_ok hi)
      refine pQ_ww (pQ_bd (ih 5 _ _ _ _ hi) (fun s1 h1 => pQ_bd (pQ_x h1) (fun s2 h2 => ih 4 _ _ _ _ h2))) ?_ ?_ ?_ ?_
      all_goals decide
    | 5 =>
      show pH (pBd _ _) _
      refine pQ_ww (pQ_bd (td 40 nest st hi (by decide)) (fun s1 h1 => pQ_ite (P := pQ T pl 0 0 0 0 s1) _ (fun _ => pQ_ww (tk 41 s1 h1 (by decide)) (by decide) (by decide) (by decide) (by decide)) (fun _ => pQ_ww (pQ_bd (ih 0 _ _ _ _ h1) (fun s2 h2 => pQ_bd (ih 6 _ _ _ _ h2) (fun s3 h3 => tk 41 s3 h3 (by decide)))) (by decide) (by decide) (by decide) (by decide)))) ?_ ?_ ?_ ?_
      all_goals decide
    | 6 =>
      show pH (ite _ _ _) _
      refine pQ_ite _ (fun _ => ?_) (fun _ => pQ_ok hi)
      refine pQ_ww (pQ_bd (tk 44 st hi (by decide)) (fun s1 h1 => pQ_bd (ih 0 _ _ _ _ h1) (fun s2 h2 => ih 6 _ _ _ _ h2))) ?_ ?_ ?_ ?_
      all_goals decide
    | 7 =>
      show pH (pBd _ _) _
      refine pQ_ww (pQ_bd (pQ_nm hT hi) (fun s1 h1 => ih 8 _ _ _ _ h1)) ?_ ?_ ?_ ?_
      all_goals decide
    | 8 =>
      show pH (ite _ _ _) _
      refine pQ_ite _ (fun _ => ?_) (fun _ => pQ_ok hi)
      refine pQ_ww (pQ_bd (tk 44 st hi (by decide)) (fun s1 h1 => pQ_bd (pQ_nm hT h1) (fun s2 h2 => ih 8 _ _ _ _ h2))) ?_ ?_ ?_ ?_
      all_goals decide
    | 9 =>
      show pH (pBd _ _) _
      refine pQ_ww (pQ_bd (e1 := 0) (f1 := 0) (q1 := 0) (w1 := 0) ?_ (fun s1 h1 => tk 4 s1 h1 (by decide))) (by decide) (by decide) (by decide) (by decide)
      refine pQ_ite _ (fun _ => pQ_ww (tk 27 st hi (by decide)) (by decide) (by decide) (by decide) (by decide)) (fun _ => pQ_ite _ (fun _ => pQ_ww (pQ_bd (tk 21 st hi (by decide)) (fun s1 h1 => ih 7 _ _ _ _ h1)) (by decide) (by decide) (by decide) (by decide)) (fun _ => pQ_ite _ (fun _ => pQ_ww (pQ_bd (tk 26 st hi (by decide)) (fun s1 h1 => ih 7 _ _ _ _ h1)) (by decide) (by decide) (by decide) (by decide)) (fun _ => pQ_ite _ (fun _ => pQ_ww (pQ_bd (tk 18 st hi (by decide)) (fun s1 h1 => pQ_nm hT h1)) (by decide) (by decide) (by decide) (by decide)) (fun _ => pQ_ite _ (fun _ => pQ_ww (pQ_bd (tk 23 st hi (by decide)) (fun s1 h1 => pQ_nm hT h1)) (by decide) (by decide) (by decide) (by decide)) (fun _ => pQ_ite _ (fun _ => pQ_ww (pQ_bd (pQ_out _ hi) (fun s0 h0 => pQ_bd (tk 28 s0 h0 (by decide)) (fun s1 h1 => pQ_ite (P := pQ T pl 0 0 0 0 s1) _ (fun _ => pQ_ok h1) (fun _ => pQ_ww (ih 0 _ _ _ _ h1) (by decide) (by decide) (by decide) (by decide))))) (by decide) (by decide) (by decide) (by decide)) (fun _ => pQ_ite _ (fun _ => pQ_ww (pQ_bd (pQ_nm hT hi) (fun s1 h1 => pQ_bd (tk 61 s1 h1 (by decide)) (fun s2 h2 => ih 0 _ _ _ _ h2))) (by decide) (by decide) (by decide) (by decide)) (fun _ => pQ_ww (ih 0 _ _ _ _ hi) (by decide) (by decide) (by decide) (by decide))))))))
    | 10 =>
      rw [pp]
      refine pQ_ww (pQ_bd (e1 := 3) (f1 := 1) (q1 := 1) (w1 := 1) ?_ (fun s1 h1 => pQ_x h1)) (by decide) (by decide) (by decide) (by decide)
      refine pQ_ite _ (fun _ => ?_) (fun _ => pQ_ite _ (fun _ => ?_) (fun _ => pQ_ite _ (fun _ => ?_) (fun _ => pQ_ite _ (fun _ => ?_) (fun _ => pQ_ite _ (fun _ => ?_) (fun _ => ih 9 _ _ _ _ hi)))))
      · exact pQ_ww (pQ_bd (tk 17 st hi (by decide)) (fun s1 h1 => pQ_bd (pQ_nm hT h1) (fun s2 h2 => pQ_bd (tk 40 s2 h2 (by decide)) (fun s3 h3 => pQ_sd (pQ_bd (e1 := 0) (f1 := 0) (q1 := 0) (w1 := 0) (pQ_ite _ (fun _ => pQ_ww (ih 7 _ _ _ _ h3) (by decide) (by decide) (by decide) (by decide)) (fun _ => pQ_ok h3)) (fun s4 h4 => pQ_bd (tk 41 s4 h4 (by decide)) (fun s5 h5 => ih 11 _ _ _ _ h5))))))) (by decide) (by decide) (by decide) (by decide)
      · exact pQ_ww (pQ_bd (tk 16 st hi (by decide)) (fun s1 h1 => pQ_bd (pQ_nm hT h1) (fun s2 h2 => pQ_sd (ih 11 _ _ _ (pNw s2) h2)))) (by decide) (by decide) (by decide) (by decide)
      · exact pQ_ww (pQ_bd (tk 22 st hi (by decide)) (fun s1 h1 => pQ_bd (ih 0 _ _ _ _ h1) (fun s2 h2 => pQ_bd (ih 11 _ _ _ _ h2) (fun s3 h3 => pQ_ite (P := pQ T pl 0 0 0 0 s3) _ (fun _ => pQ_ww (pQ_bd (tk 19 s3 h3 (by decide)) (fun s4 h4 => ih 11 _ _ _ _ h4)) (by decide) (by decide) (by decide) (by decide)) (fun _ => pQ_ok h3))))) (by decide) (by decide) (by decide) (by decide)
      · exact pQ_ww (pQ_bd (tk 29 st hi (by decide)) (fun s1 h1 => pQ_bd (ih 0 _ _ _ _ h1) (fun s2 h2 => ih 11 _ _ _ _ h2))) (by decide) (by decide) (by decide) (by decide)
      · exact pQ_ww (pQ_bd (tk 20 st hi (by decide)) (fun s1 h1 => pQ_bd (pQ_nm hT h1) (fun s2 h2 => pQ_bd (tk 24 s2 h2 (by decide)) (fun s3 h3 => pQ_bd (ih 0 _ _ _ _ h3) (fun s4 h4 => ih 11 _ _ _ _ h4))))) (by decide) (by decide) (by decide) (by decide)
    | 11 =>
      show pH (pBd _ _) _
      refine pQ_ww (pQ_bd (e2 := 0) (f2 := 0) (q2 := 0) (w2 := 1) (td 58 nest st hi (by decide)) (fun s1 h1 => pQ_ite _ (fun _ => ?_) (fun _ => pQ_ww (ih 9 _ _ _ _ h1) (by decide) (by decide) (by decide) (by decide)))) (by decide) (by decide) (by decide) (by decide)
      exact pQ_ww (pQ_bd (tk 4 s1 h1 (by decide)) (fun s2 h2 => pQ_bd (tk 5 s2 h2 (by decide)) (fun s3 h3 => pQ_bd (ih 10 _ _ _ _ h3) (fun s4 h4 => ih 12 _ _ _ _ h4)))) (by decide) (by decide) (by decide) (by decide)
    | 12 =>
      show pH (ite _ _ _) _
      refine pQ_ite _ (fun _ => pQ_ww (tk 6 st hi (by decide)) (by decide) (by decide) (by decide) (by decide)) (fun _ => ?_)
      exact pQ_ww (pQ_bd (ih 10 _ _ _ _ hi) (fun s1 h1 => ih 12 _ _ _ _ h1)) (by decide) (by decide) (by decide) (by decide)
    | 13 =>
      show pH (ite _ _ _) _
      refine pQ_ite _ (fun _ => pQ_ok hi) (fun _ => ?_)
      exact pQ_ww (pQ_bd (ih 10 _ _ _ _ hi) (fun s1 h1 => ih 13 _ _ _ _ h1)) (by decide) (by decide) (by decide) (by decide)
    | n + 14 => exact trivial
end PQ
