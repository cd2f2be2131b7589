/-! The tokens of a text: code, begin, end. -/
abbrev lxT : Type := Int × Int × Int
def lx_top : List Int → Int
  | [] => 0
  | x :: _ => x
/-- how many indentations are larger than n, and the rest -/
def lx_pop (n : Int) : List Int → Nat × List Int
  | [] => (0, [])
  | x :: r => if n < x then ((lx_pop n r).1 + 1, (lx_pop n r).2) else (0, x :: r)
def lx_beg (n p : Int) (ts : List lxT) (ind : List Int) : List lxT × List Int :=
  if lx_top ind < n then (ts ++ [(5, p, p)], n :: ind)
  else (ts ++ List.replicate (lx_pop n ind).1 (6, p, p) ++ (if lx_top (lx_pop n ind).2 = n then [] else [(8, p, p)]), (lx_pop n ind).2)
def lx_sg (c : Int) : Bool := decide (c = 40 ∨ c = 41 ∨ c = 43 ∨ c = 44 ∨ c = 58 ∨ c = 61 ∨ c = 91 ∨ c = 93)
def lx_one (t : List Int32) (p : Nat) : Int × Nat :=
  if lx_L (lx_c t p) = true then (lx_wc (lx_w t p (lx_e lx_A t p)), lx_e lx_A t p)
  else if lx_D (lx_c t p) = true then (1, lx_e lx_D t p)
  else if lx_c t p = 58 ∧ lx_at t ((p + 1 : Nat) : Int) = 61 then (128, p + 2)
  else if lx_sg (lx_c t p) = true then (lx_c t p, p + 1) else (8, p + 1)
def lx_op (c op : Int) : Int := if c = 40 ∨ c = 91 then op + 1 else if (c = 41 ∨ c = 93) ∧ 0 < op then op - 1 else op
def lx_le (ts : List lxT) : Int := (ts.getD (ts.length - 1) (0, 0, 0)).2.2
def lx_nl (ts : List lxT) (bare : Bool) : List lxT := bif bare then ts else ts ++ [(4, lx_le ts, lx_le ts)]
/-- tokens, indentations (the last first), open brackets, the line's begin, is nothing in it yet -/
abbrev lxS : Type := List lxT × List Int × Int × Nat × Bool
def lx_tok (t : List Int32) (p : Nat) (q : lxS) : lxS := match q with
  | (ts, ind, op, lb, bare) =>
    match (bif bare then lx_beg ((p : Int) - lb) p ts ind else (ts, ind)) with
    | (ts1, ind1) => (ts1 ++ [((lx_one t p).1, (p : Int), ((lx_one t p).2 : Int))], ind1, lx_op (lx_one t p).1 op, lb, false)
def lx_step (t : List Int32) (p : Nat) (q : lxS) : Nat × lxS :=
  if lx_c t p = 10 ∧ q.2.2.1 = 0 then (p + 1, (lx_nl q.1 q.2.2.2.2, q.2.1, q.2.2.1, p + 1, true))
  else if lx_c t p = 35 then (lx_e lx_N t p, q)
  else if lx_c t p = 10 ∨ lx_c t p = 32 then (p + 1, q)
  else ((lx_one t p).2, lx_tok t p q)
def lx_go (t : List Int32) : Nat → Nat → lxS → lxS
  | 0, _, q => q
  | n + 1, p, q => if p < t.length then lx_go t n (lx_step t p q).1 (lx_step t p q).2 else q
def lx_fin (t : List Int32) (q : lxS) : List lxT := lx_nl q.1 q.2.2.2.2 ++ List.replicate q.2.1.length (6, (t.length : Int), (t.length : Int)) ++ [(7, (t.length : Int), (t.length : Int))]
def lx (t : List Int32) : List lxT := lx_fin t (lx_go t (t.length + 1) 0 ([], [], 0, 0, true))
theorem lx_one_gt (t : List Int32) (p : Nat) (h : p < t.length) : p < (lx_one t p).2 ∧ (lx_one t p).2 ≤ t.length := by
  unfold lx_one
  split
  · rename_i h1
    have e1 : lx_A (lx_c t p) = true := by simp [lx_A, h1]
    have := lx_e_s (f := lx_A) h
    rw [e1] at this
    have h2 := lx_e_ge lx_A t (p + 1)
    have h3 := lx_e_le (f := lx_A) (p := p) (Nat.le_of_lt h)
    simp only [cond_true] at this
    constructor
    · show p < lx_e lx_A t p; omega
    · exact h3
  · split
    · rename_i h1 h2
      have := lx_e_s (f := lx_D) h
      rw [h2] at this
      have h3 := lx_e_ge lx_D t (p + 1)
      have h4 := lx_e_le (f := lx_D) (p := p) (Nat.le_of_lt h)
      simp only [cond_true] at this
      constructor
      · show p < lx_e lx_D t p; omega
      · exact h4
    · split
      · rename_i h3
        have h4 := h3.2
        unfold lx_at at h4
        by_cases hh : p + 1 < t.length
        · exact ⟨by show p < p + 2; omega, hh⟩
        · rw [if_neg (by omega)] at h4
          exact absurd h4 (by decide)
      · split
        · exact ⟨Nat.lt_succ_self p, h⟩
        · exact ⟨Nat.lt_succ_self p, h⟩
theorem lx_N_gt (t : List Int32) (p : Nat) (h : p < t.length) (hc : lx_c t p = 35) : p < lx_e lx_N t p ∧ lx_e lx_N t p ≤ t.length := by
  have := lx_e_s (f := lx_N) h
  rw [show lx_N (lx_c t p) = true by simp [lx_N, hc]] at this
  have h3 := lx_e_ge lx_N t (p + 1)
  have h4 := lx_e_le (f := lx_N) (p := p) (Nat.le_of_lt h)
  simp only [cond_true] at this
  omega
theorem lx_step_gt (t : List Int32) (p : Nat) (q : lxS) (h : p < t.length) : p < (lx_step t p q).1 ∧ (lx_step t p q).1 ≤ t.length := by
  unfold lx_step
  split
  · exact ⟨Nat.lt_succ_self p, h⟩
  · split
    · rename_i h1 h2
      exact lx_N_gt t p h h2
    · split
      · exact ⟨Nat.lt_succ_self p, h⟩
      · exact lx_one_gt t p h
/-! Bounds. -/
def lx_sum : List Int → Int
  | [] => 0
  | x :: r => x + 2 + lx_sum r
/-- positive, and falling from the last to the first -/
def lx_up : List Int → Prop
  | [] => True
  | x :: r => lx_top r < x ∧ lx_up r
theorem lx_up_len : ∀ l : List Int, lx_up l → (l.length : Int) ≤ lx_top l ∧ (l.length : Int) * (l.length + 5) ≤ 2 * lx_sum l := by
  intro l
  induction l with
  | nil => intro _; exact ⟨by simp [lx_top], by simp [lx_sum]⟩
  | cons x r ih =>
    intro h
    obtain ⟨h1, h2⟩ := h
    obtain ⟨h3, h4⟩ := ih h2
    have e : ((x :: r).length : Int) = r.length + 1 := by simp
    rw [e]
    refine ⟨by show _ ≤ x; omega, ?_⟩
    show _ ≤ 2 * (x + 2 + lx_sum r)
    have e2 : ((r.length : Int) + 1) * (r.length + 1 + 5) = (r.length : Int) * (r.length + 5) + 2 * r.length + 6 := by
      rw [Int.add_mul, Int.one_mul, Int.mul_add, Int.mul_add, Int.mul_add]
      omega
    rw [e2]
    omega
theorem lx_up_18 {l : List Int} (h : lx_up l) (hs : lx_sum l ≤ 201) : l.length ≤ 17 := by
  have h1 := (lx_up_len l h).2
  by_cases h2 : l.length ≤ 17
  · exact h2
  · have h3 : (18 : Int) * 23 ≤ (l.length : Int) * (l.length + 5) := Int.mul_le_mul (by omega) (by omega) (by omega) (by omega)
    omega
theorem lx_pop_up (n : Int) : ∀ l : List Int, lx_up l → lx_up (lx_pop n l).2 ∧ lx_sum (lx_pop n l).2 ≤ lx_sum l ∧ (lx_pop n l).1 + (lx_pop n l).2.length = l.length ∧ (lx_top (lx_pop n l).2 ≤ n ∨ ((lx_pop n l).2 = [])) := by
  intro l
  induction l with
  | nil => intro _; exact ⟨trivial, Int.le_refl _, rfl, Or.inr rfl⟩
  | cons x r ih =>
    intro h
    obtain ⟨h1, h2⟩ := h
    obtain ⟨h3, h4, h5, h6⟩ := ih h2
    have h0 := (lx_up_len r h2).1
    unfold lx_pop
    split
    · refine ⟨h3, ?_, ?_, h6⟩
      · show _ ≤ x + 2 + lx_sum r; show lx_sum (lx_pop n r).2 ≤ _; omega
      · show (lx_pop n r).1 + 1 + (lx_pop n r).2.length = r.length + 1; omega
    · refine ⟨⟨h1, h2⟩, Int.le_refl _, by simp, Or.inl ?_⟩
      show x ≤ n; omega
/-- what holds of the tokens up to a place -/
def lxI (p : Nat) (q : lxS) : Prop := lx_up q.2.1 ∧ q.2.2.2.1 ≤ p ∧ 0 ≤ q.2.2.1 ∧ q.2.2.1 ≤ p ∧ (q.2.2.2.2 = false → q.1 ≠ []) ∧
  (bif q.2.2.2.2 then 3 * (q.1.length + q.2.1.length) ≤ 4 * q.2.2.2.1 ∧ lx_sum q.2.1 ≤ q.2.2.2.1
   else 3 * (q.1.length + q.2.1.length) + 3 ≤ 4 * (p + 1) ∧ lx_sum q.2.1 ≤ p + 1)
theorem lxI_mono {p p1 : Nat} {q : lxS} (h : lxI p q) (hp : p ≤ p1) : lxI p1 q := by
  obtain ⟨h1, h2, h3, h4, h5, h6⟩ := h
  refine ⟨h1, by omega, h3, by omega, h5, ?_⟩
  cases e : q.2.2.2.2 with
  | true => rw [e] at h6; exact h6
  | false =>
    rw [e] at h6
    simp only [cond_false] at h6 ⊢
    omega
theorem lx_op_b {c op : Int} {p : Nat} (h : 0 ≤ op) (h1 : op ≤ p) : 0 ≤ lx_op c op ∧ lx_op c op ≤ ((p + 1 : Nat) : Int) := by
  unfold lx_op
  split
  · omega
  · split <;> omega
theorem lx_beg_b {n : Int} {p : Int} {ts : List lxT} {ind : List Int} {lb : Nat} (hu : lx_up ind) (h0 : 0 ≤ n) (hn : p = lb + n) (h3 : 3 * (ts.length + ind.length) ≤ 4 * lb) (hs : lx_sum ind ≤ lb) : lx_up (lx_beg n p ts ind).2 ∧ 3 * (((lx_beg n p ts ind).1.length : Int) + (lx_beg n p ts ind).2.length) + 6 ≤ 4 * (p + 2) ∧ lx_sum (lx_beg n p ts ind).2 ≤ p + 2 := by
  unfold lx_beg
  split
  · rename_i h
    refine ⟨⟨h, hu⟩, ?_, ?_⟩
    · simp only [List.length_append, List.length_cons, List.length_nil]
      have := (lx_up_len ind hu).1
      omega
    · show n + 2 + lx_sum ind ≤ _; omega
  · rename_i h
    obtain ⟨g1, g2, g3, g4⟩ := lx_pop_up n ind hu
    refine ⟨g1, ?_, ?_⟩
    · simp only [List.length_append, List.length_replicate]
      split
      · simp only [List.length_nil]; omega
      · rename_i h2
        simp only [List.length_singleton]
        have h5 : 1 ≤ n := by
          rcases g4 with g | g
          · have := (lx_up_len _ g1).1; omega
          · rw [g] at h2; have : ¬ (0 = n) := h2; omega
        omega
    · show lx_sum (lx_pop n ind).2 ≤ _; omega
theorem lxI_step {t : List Int32} {p : Nat} {q : lxS} (h : p < t.length) (hI : lxI p q) : lxI (lx_step t p q).1 (lx_step t p q).2 := by
  have hg := lx_step_gt t p q h
  obtain ⟨ts, ind, op, lb, bare⟩ := q
  have hI0 := hI
  obtain ⟨h1, h2, h3, h4, h5, h6⟩ := hI
  simp only at h1 h2 h3 h4 h5 h6
  unfold lx_step at hg ⊢
  split
  · refine ⟨h1, Nat.le_refl _, h3, by show op ≤ ((p + 1 : Nat) : Int); omega, (fun e => by cases e), ?_⟩
    show 3 * ((lx_nl ts bare).length + ind.length) ≤ 4 * (p + 1) ∧ lx_sum ind ≤ ((p + 1 : Nat) : Int)
    cases bare with
    | true =>
      simp only [cond_true] at h6
      show 3 * (ts.length + ind.length) ≤ _ ∧ _
      omega
    | false =>
      simp only [cond_false] at h6
      show 3 * ((ts ++ [(4, lx_le ts, lx_le ts)]).length + ind.length) ≤ _ ∧ _
      rw [List.length_append, List.length_singleton]
      omega
  · rename_i h7
    rw [if_neg h7] at hg
    split
    · rename_i h8
      rw [if_pos h8] at hg
      exact lxI_mono hI0 (Nat.le_of_lt hg.1)
    · rename_i h8
      rw [if_neg h8] at hg
      split
      · exact lxI_mono hI0 (Nat.le_succ p)
      · rename_i h9
        rw [if_neg h9] at hg
        have ho := lx_op_b (c := (lx_one t p).1) h3 h4
        have hgt : p + 1 ≤ (lx_one t p).2 := hg.1
        cases bare with
        | true =>
          simp only [cond_true] at h6
          obtain ⟨g1, g2, g3⟩ := lx_beg_b (n := (p : Int) - lb) (p := p) (ts := ts) (ind := ind) (lb := lb) h1 (by omega) (by omega) (by omega) h6.2
          refine ⟨g1, by show lb ≤ (lx_one t p).2; omega, ho.1, by show lx_op (lx_one t p).1 op ≤ ((lx_one t p).2 : Int); omega, ?_, ?_⟩
          · intro _ e
            exact absurd e (by show (lx_beg ((p : Int) - lb) p ts ind).1 ++ _ ≠ []; simp)
          · show 3 * (((lx_beg ((p : Int) - lb) p ts ind).1 ++ [_]).length + (lx_beg ((p : Int) - lb) p ts ind).2.length) + 3 ≤ 4 * ((lx_one t p).2 + 1) ∧ lx_sum (lx_beg ((p : Int) - lb) p ts ind).2 ≤ ((lx_one t p).2 : Int) + 1
            rw [List.length_append, List.length_singleton]
            omega
        | false =>
          simp only [cond_false] at h6
          refine ⟨h1, by show lb ≤ (lx_one t p).2; omega, ho.1, by show lx_op (lx_one t p).1 op ≤ ((lx_one t p).2 : Int); omega, ?_, ?_⟩
          · intro _ e
            exact absurd e (by show ts ++ _ ≠ []; simp)
          · show 3 * ((ts ++ [_]).length + ind.length) + 3 ≤ 4 * ((lx_one t p).2 + 1) ∧ lx_sum ind ≤ ((lx_one t p).2 : Int) + 1
            rw [List.length_append, List.length_singleton]
            omega
theorem lxI_0 : lxI 0 ([], [], 0, 0, true) := ⟨trivial, Nat.le_refl _, Int.le_refl _, Int.le_refl _, (fun e => by cases e), ⟨Nat.le_refl _, Int.le_refl _⟩⟩
