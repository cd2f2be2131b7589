/-! There is fuel enough. -/
def pF (r : pR) : Prop := match r with
  | .inl e => e.1 ≠ 0
  | .inr _ => True
theorem pF_bd {r : pR} {f : pS → pR} (h : pF r) (h1 : pH r (fun s1 _ => pF (f s1))) : pF (pBd r f) := by
  unfold pBd
  match r, h, h1 with
  | .inl e, h, _ => exact h
  | .inr (s1, o1), _, h1 =>
    show pF (match f s1 with | .inl e => .inl e | .inr (st2, o2) => .inr (st2, pAp o1 o2))
    have h2 : pF (f s1) := h1
    match hf : f s1, h2 with
    | .inl e, h2 => exact h2
    | .inr (s2, o2), _ => exact trivial
theorem pF_wr {r : pR} {f : pS → pO → pO} (h : pF r) : pF (pWr f r) := by
  match r, h with
  | .inl e, h => exact h
  | .inr (s1, o1), _ => exact trivial
theorem pF_tk {T : List lxT} {c : Int} {s : pS} : pF (pTk T c s) := by
  unfold pTk
  split
  · exact trivial
  · exact (by decide : (20 : Int) ≠ 0)
theorem pF_td {T : List lxT} {c : Int} {n : Nat} {s : pS} : pF (pTd T c n s) := by
  unfold pTd
  split
  · split
    · exact (by decide : (21 : Int) ≠ 0)
    · exact trivial
  · exact (by decide : (20 : Int) ≠ 0)
theorem pF_nm {T : List lxT} {r c b : Int} {s : pS} : pF (pNm T r c b s) := by
  unfold pNm
  split
  · exact trivial
  · exact (by decide : (20 : Int) ≠ 0)
theorem pF_ite {p : Prop} (dp : Decidable p) {a b : pR} (h1 : p → pF a) (h2 : ¬ p → pF b) : pF (@ite _ p dp a b) := by
  by_cases h : p
  · rw [if_pos h]; exact h1 h
  · rw [if_neg h]; exact h2 h
theorem pF_cm {T : List lxT} {c : Int} {first : Nat} {r : pR} {tail src : pS → pR} (h : pF r) (h1 : pH r (fun s3 _ => pF (tail s3))) (h2 : pH r (fun s3 _ => pH (tail s3) (fun s5 _ => pF (src s5)))) : pF (pCm T c first r tail src) := by
  unfold pCm
  match r, h, h1, h2 with
  | .inl e, h, _, _ => exact h
  | .inr (s3, o1), _, h1, h2 =>
    simp only
    have g1 : pF (tail s3) := h1
    have g2 : pH (tail s3) _ := h2
    match ht : tail s3, g1, g2 with
    | .inl e, g1, _ => exact g1
    | .inr (s5, o2), _, g2 =>
      simp only
      have g3 : pF (src s5) := g2
      match hs : src s5, g3 with
      | .inl e, g3 => exact g3
      | .inr (s6, o3), _ =>
        simp only
        have g4 : pF (pTk T 93 s6) := pF_tk
        match h9 : pTk T 93 s6, g4 with
        | .inl e, g4 => exact g4
        | .inr (s7, o7), _ => exact trivial
def p_r (tag : Nat) : Nat := match tag with
  | 0 => 3
  | 1 => 2
  | 4 => 2
  | 9 => 4
  | 10 => 5
  | 12 => 6
  | 13 => 6
  | _ => 1
section PF
variable {T : List lxT} {pl : Nat → Int}
/-- a piece, then another, with what the first has taken -/
theorem pF_b {e f w : Int} {q : Nat} {st : pS} {r : pR} {g : pS → pR} (h : pF r) (hq : pH r (pQ T pl e f q w st)) (h2 : ∀ s1 : pS, s1.1 < T.length → st.1 + q ≤ s1.1 → pF (g s1)) : pF (pBd r g) := pF_bd h (pH_m hq (fun s1 _ g1 => h2 s1 g1.2.1 g1.1))
theorem pF_pp (hT : tkW T pl) : ∀ (k tag : Nat) (ctx : pC) (nest : Nat) (x : Int) (st : pS), tag ≤ 13 → st.1 < T.length → 8 * (T.length - st.1) + p_r tag ≤ k → pF (pp T k tag ctx nest x st) := by
  intro k
  induction k with
  | zero => intro tag ctx nest x st _ hi hk; omega
  | succ k ih =>
    intro tag ctx nest x st ht hi hk
    have tk : ∀ (c : Int) (s : pS), s.1 < T.length → c ≠ 7 → pH (pTk T c s) (pQ T pl 3 (pwl c) 1 (pwl c) s) := fun c s hs h7 => pQ_tk hT h7 hs
    have td : ∀ (c : Int) (n : Nat) (s : pS), s.1 < T.length → c ≠ 7 → pH (pTd T c n s) (pQ T pl 3 (pwl c) 1 (pwl c) s) := fun c n s hs h7 => pQ_td hT h7 hs
    have nm : ∀ (r c b : Int) (s : pS), s.1 < T.length → pH (pNm T r c b s) (pQ T pl 3 1 1 1 s) := fun r c b s hs => pQ_nm hT hs
    have pq := pQ_pp hT k
    have go : ∀ (tag : Nat) (ctx : pC) (nest : Nat) (x : Int) (s : pS), tag ≤ 13 → s.1 < T.length → st.1 + 1 ≤ s.1 → pF (pp T k tag ctx nest x s) := by
      intro tag1 ctx nest x s h1 h2 h3
      refine ih tag1 ctx nest x s h1 h2 ?_
      have : p_r tag1 ≤ 6 := by
        unfold p_r
        split <;> decide
      omega
    match tag with
    | 0 =>
      show pF (ite _ _ _)
      refine pF_ite _ (fun _ => ?_) (fun _ => ?_)
      · refine pF_b pF_td (td 25 nest st hi (by decide)) (fun s1 h1 l1 => pF_bd (pF_wr (pF_b (e := 0) (f := 0) (q := 0) (w := 0) (pl := pl) (st := pNw s1) (pF_ite _ (fun _ => go 7 _ _ _ _ (by decide) h1 l1) (fun _ => trivial)) (pQ_ite _ (fun _ => pQ_ww (pq 7 _ _ _ _ h1) (by decide) (by decide) (by decide) (by decide)) (fun _ => pQ_ok h1)) (fun s2 h2 l2 => pF_b pF_tk (tk 58 s2 h2 (by decide)) (fun s3 h3 l3 => go 0 _ _ _ _ (by decide) h3 (by have e : (pNw s1).1 = s1.1 := rfl; omega))))) (pH_wr (pH_m (P1 := fun _ _ => True) ?_ (fun _ _ _ => trivial))))
        exact (match pBd _ _ with | .inl _ => trivial | .inr _ => trivial)
      · exact pF_b (ih 1 _ _ _ _ (by decide) hi (by simp only [p_r] at hk ⊢; omega)) (pq 1 _ _ _ _ hi) (fun s1 h1 l1 => pF_b (r := pXm _ _) trivial (pQ_xm (pl := pl) h1) (fun s2 h2 l2 => pF_b (go 2 _ _ _ _ (by decide) h2 (by simp only [p_q] at l1; omega)) (pq 2 _ _ _ _ h2) (fun s3 h3 l3 => trivial)))
    | 1 =>
      show pF (pBd _ _)
      exact pF_b (ih 3 _ _ _ _ (by decide) hi (by simp only [p_r] at hk ⊢; omega)) (pq 3 _ _ _ _ hi) (fun s1 h1 l1 => pF_b (r := pX _ _) trivial (pQ_x (pl := pl) h1) (fun s2 h2 l2 => go 4 _ _ _ _ (by decide) h2 (by simp only [p_q] at l1; omega)))
    | 2 =>
      show pF (ite _ _ _)
      refine pF_ite _ (fun _ => ?_) (fun _ => trivial)
      exact pF_b pF_tk (tk 43 st hi (by decide)) (fun s1 h1 l1 => pF_b (go 1 _ _ _ _ (by decide) h1 l1) (pq 1 _ _ _ _ h1) (fun s2 h2 l2 => pF_b (r := pX _ _) trivial (pQ_x (pl := pl) h2) (fun s3 h3 l3 => go 2 _ _ _ _ (by decide) h3 (by omega))))
    | 3 =>
      show pF (ite _ _ _)
      refine pF_ite _ (fun _ => pF_nm) (fun _ => pF_ite _ (fun _ => pF_tk) (fun _ => pF_ite _ (fun _ => ?_) (fun _ => pF_ite _ (fun _ => pF_ite _ (fun _ => ?_) (fun _ => ?_)) (fun _ => (by decide : (20 : Int) ≠ 0)))))
      · refine pF_b pF_td (td 40 nest st hi (by decide)) (fun s1 h1 l1 => pF_b (e := 0) (f := 0) (q := 0) (w := 0) (pl := pl) (st := s1) (pF_ite _ (fun _ => pF_bd pF_nm (pH_m (nm _ _ _ s1 h1) (fun _ _ _ => pF_tk))) (fun _ => trivial)) (pQ_ite _ (fun _ => pQ_ww (pQ_bd (nm _ _ _ s1 h1) (fun s2 h2 => tk 128 s2 h2 (by decide))) (by decide) (by decide) (by decide) (by decide)) (fun _ => pQ_ok h1)) (fun s3 h3 l3 => pF_b (go 0 _ _ _ _ (by decide) h3 (by omega)) (pq 0 _ _ _ _ h3) (fun s4 h4 l4 => pF_tk)))
      · have hi2 : (pNw st).1 < T.length := hi
        have ha : pH (pBd (pTd T 91 nest (pNw st)) (fun s1 => pBd (pp T k 0 ((st.2.2.1 : Int), 4, ctx.2.2.1, ctx.2.2.2) (nest + 1) 0 s1) (fun s2 => pTk T 20 s2))) (pQ T pl (3 + (p_e 0 + 3)) (pwl 91 + (p_f 0 + pwl 20)) (1 + (p_q 0 + 1)) (pwl 91 + (p_w 0 + pwl 20)) (pNw st)) := pQ_bd (td 91 nest (pNw st) hi2 (by decide)) (fun s1 h1 => pQ_bd (pq 0 _ _ _ _ h1) (fun s2 h2 => tk 20 s2 h2 (by decide)))
        refine pF_cm (pF_b pF_td (td 91 nest (pNw st) hi2 (by decide)) (fun s1 h1 l1 => pF_b (go 0 _ _ _ _ (by decide) h1 l1) (pq 0 _ _ _ _ h1) (fun s2 h2 l2 => pF_tk))) (pH_m ha (fun s3 _ g3 => pF_b pF_nm (nm _ _ _ s3 g3.2.1) (fun s4 h4 l4 => pF_tk))) (pH_m ha (fun s3 _ g3 => pH_m (pQ_bd (nm _ _ _ s3 g3.2.1) (fun s4 h4 => tk 24 s4 h4 (by decide))) (fun s5 _ g5 => go 0 _ _ _ _ (by decide) g5.2.1 ?_)))
        have e : (pNw st).1 = st.1 := rfl
        have := g3.1
        have := g5.1
        omega
      · exact pF_b pF_td (td 91 nest st hi (by decide)) (fun s1 h1 l1 => pF_b (go 0 _ _ _ _ (by decide) h1 l1) (pq 0 _ _ _ _ h1) (fun s2 h2 l2 => pF_tk))
    | 4 =>
      show pF (ite _ _ _)
      refine pF_ite _ (fun _ => ?_) (fun _ => trivial)
      exact pF_b (ih 5 _ _ _ _ (by decide) hi (by simp only [p_r] at hk ⊢; omega)) (pq 5 _ _ _ _ hi) (fun s1 h1 l1 => pF_b (r := pX _ _) trivial (pQ_x (pl := pl) h1) (fun s2 h2 l2 => go 4 _ _ _ _ (by decide) h2 (by simp only [p_q] at l1; omega)))
    | 5 =>
      show pF (pBd _ _)
      exact pF_b pF_td (td 40 nest st hi (by decide)) (fun s1 h1 l1 => pF_ite _ (fun _ => pF_tk) (fun _ => pF_b (go 0 _ _ _ _ (by decide) h1 l1) (pq 0 _ _ _ _ h1) (fun s2 h2 l2 => pF_b (go 6 _ _ _ _ (by decide) h2 (by omega)) (pq 6 _ _ _ _ h2) (fun s3 h3 l3 => pF_tk))))
    | 6 =>
      show pF (ite _ _ _)
      refine pF_ite _ (fun _ => ?_) (fun _ => trivial)
      exact pF_b pF_tk (tk 44 st hi (by decide)) (fun s1 h1 l1 => pF_b (go 0 _ _ _ _ (by decide) h1 l1) (pq 0 _ _ _ _ h1) (fun s2 h2 l2 => go 6 _ _ _ _ (by decide) h2 (by omega)))
    | 7 =>
      show pF (pBd _ _)
      exact pF_b pF_nm (nm _ _ _ st hi) (fun s1 h1 l1 => go 8 _ _ _ _ (by decide) h1 l1)
    | 8 =>
      show pF (ite _ _ _)
      refine pF_ite _ (fun _ => ?_) (fun _ => trivial)
      exact pF_b pF_tk (tk 44 st hi (by decide)) (fun s1 h1 l1 => pF_b pF_nm (nm _ _ _ s1 h1) (fun s2 h2 l2 => go 8 _ _ _ _ (by decide) h2 (by omega)))
    | 9 =>
      show pF (pBd _ _)
      refine pF_bd ?_ ?_
      · exact pF_ite _ (fun _ => pF_tk) (fun _ => pF_ite _ (fun _ => pF_b pF_tk (tk 21 st hi (by decide)) (fun s1 h1 l1 => go 7 _ _ _ _ (by decide) h1 l1)) (fun _ => pF_ite _ (fun _ => pF_b pF_tk (tk 26 st hi (by decide)) (fun s1 h1 l1 => go 7 _ _ _ _ (by decide) h1 l1)) (fun _ => pF_ite _ (fun _ => pF_b pF_tk (tk 18 st hi (by decide)) (fun s1 h1 l1 => pF_nm)) (fun _ => pF_ite _ (fun _ => pF_b pF_tk (tk 23 st hi (by decide)) (fun s1 h1 l1 => pF_nm)) (fun _ => pF_ite _ (fun _ => pF_b (r := pOut _ _) trivial (pQ_out (pl := pl) _ hi) (fun s0 h0 l0 => pF_b pF_tk (tk 28 s0 h0 (by decide)) (fun s1 h1 l1 => pF_ite _ (fun _ => trivial) (fun _ => go 0 _ _ _ _ (by decide) h1 (by omega))))) (fun _ => pF_ite _ (fun _ => pF_b pF_nm (nm _ _ _ st hi) (fun s1 h1 l1 => pF_b pF_tk (tk 61 s1 h1 (by decide)) (fun s2 h2 l2 => go 0 _ _ _ _ (by decide) h2 (by omega)))) (fun _ => ih 0 _ _ _ _ (by decide) hi (by simp only [p_r] at hk ⊢; omega))))))))
      · exact (match (ite _ _ _ : pR) with | .inl _ => trivial | .inr _ => pF_tk)
    | 10 =>
      rw [pp]
      refine pF_bd ?_ ?_
      · refine pF_ite _ (fun _ => ?_) (fun _ => pF_ite _ (fun _ => ?_) (fun _ => pF_ite _ (fun _ => ?_) (fun _ => pF_ite _ (fun _ => ?_) (fun _ => pF_ite _ (fun _ => ?_) (fun _ => ih 9 _ _ _ _ (by decide) hi (by simp only [p_r] at hk ⊢; omega))))))
        · exact pF_b pF_tk (tk 17 st hi (by decide)) (fun s1 h1 l1 => pF_b pF_nm (nm _ _ _ s1 h1) (fun s2 h2 l2 => pF_b pF_tk (tk 40 s2 h2 (by decide)) (fun s3 h3 l3 => pF_wr (pF_b (e := 0) (f := 0) (q := 0) (w := 0) (pl := pl) (st := pNw s3) (pF_ite _ (fun _ => go 7 _ _ _ _ (by decide) h3 (by show _ ≤ s3.1; omega)) (fun _ => trivial)) (pQ_ite _ (fun _ => pQ_ww (pq 7 _ _ _ _ h3) (by decide) (by decide) (by decide) (by decide)) (fun _ => pQ_ok h3)) (fun s4 h4 l4 => pF_b pF_tk (tk 41 s4 h4 (by decide)) (fun s5 h5 l5 => go 11 _ _ _ _ (by decide) h5 (by have e : (pNw s3).1 = s3.1 := rfl; omega)))))))
        · exact pF_b pF_tk (tk 16 st hi (by decide)) (fun s1 h1 l1 => pF_b pF_nm (nm _ _ _ s1 h1) (fun s2 h2 l2 => pF_wr (go 11 _ _ _ (pNw s2) (by decide) h2 (by show _ ≤ s2.1; omega))))
        · exact pF_b pF_tk (tk 22 st hi (by decide)) (fun s1 h1 l1 => pF_b (go 0 _ _ _ _ (by decide) h1 l1) (pq 0 _ _ _ _ h1) (fun s2 h2 l2 => pF_b (go 11 _ _ _ _ (by decide) h2 (by omega)) (pq 11 _ _ _ _ h2) (fun s3 h3 l3 => pF_ite _ (fun _ => pF_b pF_tk (tk 19 s3 h3 (by decide)) (fun s4 h4 l4 => go 11 _ _ _ _ (by decide) h4 (by omega))) (fun _ => trivial))))
        · exact pF_b pF_tk (tk 29 st hi (by decide)) (fun s1 h1 l1 => pF_b (go 0 _ _ _ _ (by decide) h1 l1) (pq 0 _ _ _ _ h1) (fun s2 h2 l2 => go 11 _ _ _ _ (by decide) h2 (by omega)))
        · exact pF_b pF_tk (tk 20 st hi (by decide)) (fun s1 h1 l1 => pF_b pF_nm (nm _ _ _ s1 h1) (fun s2 h2 l2 => pF_b pF_tk (tk 24 s2 h2 (by decide)) (fun s3 h3 l3 => pF_b (go 0 _ _ _ _ (by decide) h3 (by omega)) (pq 0 _ _ _ _ h3) (fun s4 h4 l4 => go 11 _ _ _ _ (by decide) h4 (by omega)))))
      · exact (match (ite _ _ _ : pR) with | .inl _ => trivial | .inr _ => trivial)
    | 11 =>
      show pF (pBd _ _)
      exact pF_b pF_td (td 58 nest st hi (by decide)) (fun s1 h1 l1 => pF_ite _ (fun _ => pF_b pF_tk (tk 4 s1 h1 (by decide)) (fun s2 h2 l2 => pF_b pF_tk (tk 5 s2 h2 (by decide)) (fun s3 h3 l3 => pF_b (go 10 _ _ _ _ (by decide) h3 (by omega)) (pq 10 _ _ _ _ h3) (fun s4 h4 l4 => go 12 _ _ _ _ (by decide) h4 (by omega))))) (fun _ => go 9 _ _ _ _ (by decide) h1 l1))
    | 12 =>
      show pF (ite _ _ _)
      refine pF_ite _ (fun _ => pF_tk) (fun _ => ?_)
      exact pF_b (ih 10 _ _ _ _ (by decide) hi (by simp only [p_r] at hk ⊢; omega)) (pq 10 _ _ _ _ hi) (fun s1 h1 l1 => go 12 _ _ _ _ (by decide) h1 l1)
    | 13 =>
      show pF (ite _ _ _)
      refine pF_ite _ (fun _ => trivial) (fun _ => ?_)
      exact pF_b (ih 10 _ _ _ _ (by decide) hi (by simp only [p_r] at hk ⊢; omega)) (pq 10 _ _ _ _ hi) (fun s1 h1 l1 => go 13 _ _ _ _ (by decide) h1 l1)
    | n + 14 => omega
end PF
