/-! The tokens of a text lie one behind another. -/
theorem lx_wf_get : ∀ (l : List Int64) (k : Int) (w : Int64) (c : Int), lx_wf l k w = c → c = 0 ∨ ∃ j, j < l.length ∧ c = k + j ∧ l.getD j 0 = w := by
  intro l
  induction l with
  | nil => intro k w c h; exact Or.inl h.symm
  | cons x r ih =>
    intro k w c h
    unfold lx_wf at h
    split at h
    · rename_i hx
      exact Or.inr ⟨0, by simp, by omega, hx⟩
    · rcases ih (k + 1) w c h with h0 | ⟨j, h1, h2, h3⟩
      · exact Or.inl h0
      · exact Or.inr ⟨j + 1, by rw [List.length_cons]; omega, by omega, h3⟩
theorem lx_k_lt {t : List Int32} (hc : ∀ c ∈ t, ed_ok c = true) : ∀ (n p : Nat), p + n ≤ t.length → n ≤ 7 → (lx_k t n p 0).toBitVec.toNat < 2 ^ (8 * n) := by
  intro n
  induction n with
  | zero => intro p _ _; show (0 : Int64).toBitVec.toNat < 2 ^ (8 * 0); decide
  | succ n ih =>
    intro p h hn
    have h1 := ih p (by omega) (by omega)
    have e8 : (Int32.toInt64 8 &&& 63 : Int64) = 8 := by decide
    have e9 : ((8 : Int64).toBitVec.smod 64) = 8#64 := by decide
    have ep : 2 ^ (8 * (n + 1)) = 2 ^ (8 * n) * 2 ^ 8 := by rw [← Nat.pow_add, Nat.mul_add]
    rw [lx_k_s, e8, Int64.toBitVec_or, Int64.toBitVec_shiftLeft, BitVec.toNat_or, e9]
    refine Nat.or_lt_two_pow ?_ ?_
    · rw [BitVec.shiftLeft_eq', BitVec.toNat_shiftLeft, Nat.shiftLeft_eq]
      refine Nat.lt_of_le_of_lt (Nat.mod_le _ _) ?_
      rw [ep]
      exact Nat.mul_lt_mul_of_pos_right h1 (by decide)
    · obtain ⟨b1, b2⟩ := tC_b hc (p := p + n) (by omega)
      have e : ((Int32.toInt64 (t.getD (p + n) 0)).toBitVec.toNat : Int) = (t.getD (p + n) 0).toInt := by
        have e1 : (Int32.toInt64 (t.getD (p + n) 0)).toInt = (t.getD (p + n) 0).toInt := Int32.toInt_toInt64 _
        have e2 : (Int32.toInt64 (t.getD (p + n) 0)).toBitVec.toInt = (t.getD (p + n) 0).toInt := e1
        rw [BitVec.toInt_eq_toNat_cond] at e2
        split at e2
        · exact e2
        · have := (Int32.toInt64 (t.getD (p + n) 0)).toBitVec.isLt
          omega
      have h8 : 2 ^ 8 ≤ 2 ^ (8 * (n + 1)) := Nat.pow_le_pow_right (by decide) (by omega)
      have h9 : (2 : Nat) ^ 8 = 256 := by decide
      omega
/-- a word is as long as what it is taken for -/
theorem lx_wc_len {t : List Int32} (hc : ∀ c ∈ t, ed_ok c = true) {p e : Nat} (hp : p < e) (he : e ≤ t.length) : (p : Int) + pwl (lx_wc (lx_w t p e)) ≤ e := by
  have hk : ∀ (w : Int64) (b : Nat), b ≤ 6 → 2 ^ (8 * (b - 1)) ≤ w.toBitVec.toNat → lx_w t p e = w → w ≠ 0 → (p : Int) + b ≤ e := by
    intro w b hb h2 h3 h0
    unfold lx_w at h3
    split at h3
    · exact absurd h3.symm h0
    · by_cases hlt : e - p < b
      · have h4 := lx_k_lt hc (e - p) p (by omega) (by omega)
        rw [h3] at h4
        have h5 : 2 ^ (8 * (e - p)) ≤ 2 ^ (8 * (b - 1)) := Nat.pow_le_pow_right (by decide) (by omega)
        omega
      · omega
  rcases lx_wf_get am_wd 16 (lx_w t p e) _ rfl with h | ⟨j, h1, h2, h3⟩
  · have e0 : lx_wc (lx_w t p e) = 0 := h
    rw [e0]
    show (p : Int) + (1 : Nat) ≤ e
    omega
  · have e0 : lx_wc (lx_w t p e) = 16 + (j : Int) := h2
    rw [e0]
    have hj : j < 14 := h1
    have h3' := h3.symm
    have hone : (p : Int) + (1 : Nat) ≤ e := by omega
    match j, hj with
    | 0, _ => exact hk _ 5 (by decide) (by decide) h3' (by decide)
    | 1, _ => exact hk _ 3 (by decide) (by decide) h3' (by decide)
    | 2, _ => exact hone
    | 3, _ => exact hone
    | 4, _ => exact hk _ 3 (by decide) (by decide) h3' (by decide)
    | 5, _ => exact hone
    | 6, _ => exact hone
    | 7, _ => exact hone
    | 8, _ => exact hk _ 2 (by decide) (by decide) h3' (by decide)
    | 9, _ => exact hk _ 6 (by decide) (by decide) h3' (by decide)
    | 10, _ => exact hone
    | 11, _ => exact hone
    | 12, _ => exact hone
    | 13, _ => exact hone
theorem lx_wc_code (w : Int64) : lx_wc w = 0 ∨ (16 ≤ lx_wc w ∧ lx_wc w ≤ 29) := by
  rcases lx_wf_get am_wd 16 w _ rfl with h | ⟨j, h1, h2, _⟩
  · exact Or.inl h
  · have hj : j < 14 := h1
    have e0 : lx_wc w = 16 + (j : Int) := h2
    exact Or.inr ⟨by omega, by omega⟩
theorem lx_e_stop {f : Int → Bool} {t : List Int32} : ∀ (n p : Nat), t.length - p = n → lx_e f t p < t.length → f (lx_c t (lx_e f t p)) = false := by
  intro n
  induction n with
  | zero => intro p hn h; rw [lx_e_n (by omega)] at h; omega
  | succ n ih =>
    intro p hn h
    have hs := lx_e_s (f := f) (p := p) (t := t) (by omega)
    cases hf : f (lx_c t p) with
    | true =>
      rw [hf, cond_true] at hs
      rw [hs] at h ⊢
      exact ih (p + 1) (by omega) h
    | false =>
      rw [hf, cond_false] at hs
      rw [hs]
      exact hf
/-- a token read from the text -/
theorem lx_one_f {t : List Int32} (hc : ∀ c ∈ t, ed_ok c = true) {p : Nat} (hp : p < t.length) : ((lx_one t p).1 = 0 ∨ (lx_one t p).1 = 1 ∨ 8 ≤ (lx_one t p).1) ∧ (p : Int) + pwl (lx_one t p).1 ≤ (lx_one t p).2 ∧ ((lx_one t p).1 = 0 → lx_A (lx_c t p) = true ∧ ((lx_one t p).2 < t.length → lx_A (lx_c t (lx_one t p).2) = false)) := by
  have hg := lx_one_gt t p hp
  unfold lx_one at hg ⊢
  split
  · rename_i h1
    rw [if_pos h1] at hg
    have hw := lx_wc_len hc (p := p) (e := lx_e lx_A t p) hg.1 hg.2
    have hcd := lx_wc_code (lx_w t p (lx_e lx_A t p))
    refine ⟨?_, hw, fun _ => ⟨by simp [lx_A, h1], fun h => lx_e_stop _ p rfl h⟩⟩
    rcases hcd with h | h
    · exact Or.inl h
    · exact Or.inr (Or.inr (by show 8 ≤ lx_wc _; omega))
  · rename_i h1
    rw [if_neg h1] at hg
    split
    · rename_i h2
      rw [if_pos h2] at hg
      refine ⟨Or.inr (Or.inl rfl), ?_, fun h => absurd (show (1 : Int) = 0 from h) (by decide)⟩
      show (p : Int) + (1 : Nat) ≤ _
      have := hg.1
      simp only at this ⊢
      omega
    · rename_i h2
      rw [if_neg h2] at hg
      split
      · refine ⟨Or.inr (Or.inr (show (8 : Int) ≤ 128 by decide)), ?_, fun h => absurd (show (128 : Int) = 0 from h) (by decide)⟩
        show (p : Int) + (1 : Nat) ≤ ((p + 2 : Nat) : Int)
        omega
      · split
        · rename_i h4
          unfold lx_sg at h4
          have h5 := of_decide_eq_true h4
          refine ⟨Or.inr (Or.inr (by show 8 ≤ lx_c t p; omega)), ?_, fun h => ?_⟩
          · show (p : Int) + (pwl (lx_c t p) : Nat) ≤ ((p + 1 : Nat) : Int)
            have : pwl (lx_c t p) ≤ 1 := by
              unfold pwl
              rw [if_neg (by omega), if_neg (by omega), if_neg (by omega), if_neg (by omega), if_neg (by omega)]
              split <;> omega
            omega
          · have h6 : lx_c t p = 0 := h
            omega
        · refine ⟨Or.inr (Or.inr (show (8 : Int) ≤ 8 by decide)), ?_, fun h => absurd (show (8 : Int) = 0 from h) (by decide)⟩
          show (p : Int) + (0 : Nat) ≤ ((p + 1 : Nat) : Int)
          omega
def g2 (x : lxT) : Int := x.2.1 + (if x.1 = 4 ∨ (x.1 ≠ 0 ∧ x.2.1 < x.2.2) then 1 else 0)
theorem g2_ge (x : lxT) : x.2.1 ≤ g2 x ∧ g2 x ≤ x.2.1 + 1 := by unfold g2; split <;> omega
def lxC (x y : lxT) : Prop := x.1 ≠ 7 ∧ x.2.1 + (pwl x.1 : Int) ≤ y.2.1 ∧ g2 x + (if x.1 = 0 then 2 else 0) ≤ g2 y
def lxP (l : List lxT) : Prop := ∀ i, i + 1 < l.length → lxC (l.getD i (7, 0, 0)) (l.getD (i + 1) (7, 0, 0))
def lxL (l : List lxT) : lxT := l.getD (l.length - 1) (7, 0, 0)
theorem gt_app {l r : List lxT} {i : Nat} : (l ++ r).getD i (7, 0, 0) = if i < l.length then l.getD i (7, 0, 0) else r.getD (i - l.length) (7, 0, 0) := by
  rw [List.getD_eq_getElem?_getD, List.getD_eq_getElem?_getD, List.getD_eq_getElem?_getD]
  by_cases h : i < l.length
  · rw [List.getElem?_append_left h, if_pos h]
  · rw [List.getElem?_append_right (by omega), if_neg h]
theorem lxL_s (l : List lxT) (x : lxT) : lxL (l ++ [x]) = x := by
  unfold lxL
  rw [List.length_append, gt_app, if_neg (by simp), show l.length + [x].length - 1 - l.length = 0 by simp]
  rfl
theorem lxP_s {l : List lxT} {x : lxT} (h : lxP l) (hx : l ≠ [] → lxC (lxL l) x) : lxP (l ++ [x]) := by
  intro i hi
  rw [List.length_append, List.length_singleton] at hi
  by_cases e : i + 1 = l.length
  · have hne : l ≠ [] := fun e0 => by rw [e0] at e; simp at e
    have h9 := hx hne
    unfold lxL at h9
    rw [gt_app, gt_app, if_pos (by omega), if_neg (by omega), show i + 1 - l.length = 0 by omega]
    rw [show l.length - 1 = i by omega] at h9
    exact h9
  · rw [gt_app, gt_app, if_pos (by omega), if_pos (by omega)]
    exact h i (by omega)
theorem lx_le_L (ts : List lxT) : lx_le ts = (lxL ts).2.2 := by
  unfold lx_le lxL
  rw [List.getD_eq_getElem?_getD, List.getD_eq_getElem?_getD]
  cases ts[ts.length - 1]? <;> rfl
/-- any token may begin at p behind x -/
def rdy (p : Int) (x : lxT) : Prop := x.1 ≠ 7 ∧ x.2.1 + (pwl x.1 : Int) ≤ p ∧ g2 x + (if x.1 = 0 then 2 else 0) ≤ p
theorem rdy_C {p : Int} {x y : lxT} (h : rdy p x) (hy : y.2.1 = p) : lxC x y := ⟨h.1, by rw [hy]; exact h.2.1, by have := (g2_ge y).1; have := h.2.2; omega⟩
theorem lxP_z {p : Int} {c : Int} (hc : c = 5 ∨ c = 6 ∨ c = 8) {l : List lxT} (h : lxP l) (hr : l ≠ [] → rdy p (lxL l)) : lxP (l ++ [(c, p, p)]) ∧ rdy p (lxL (l ++ [(c, p, p)])) := by
  refine ⟨lxP_s h (fun hn => rdy_C (hr hn) rfl), ?_⟩
  rw [lxL_s]
  have hp : pwl c = 0 := by
    unfold pwl
    rw [if_neg (by omega), if_neg (by omega), if_neg (by omega), if_neg (by omega), if_neg (by omega), if_neg (by omega)]
  refine ⟨by show c ≠ 7; omega, ?_, ?_⟩
  · show p + (pwl c : Int) ≤ p
    rw [hp]; omega
  · unfold g2
    show p + (if c = 4 ∨ (c ≠ 0 ∧ p < p) then 1 else 0) + (if c = 0 then 2 else 0) ≤ p
    rw [if_neg (by omega), if_neg (by omega)]
    omega
theorem lxP_r {p : Int} : ∀ (n : Nat) {l : List lxT}, lxP l → (l ≠ [] → rdy p (lxL l)) → lxP (l ++ List.replicate n (6, p, p)) ∧ (l ++ List.replicate n (6, p, p) ≠ [] → rdy p (lxL (l ++ List.replicate n (6, p, p)))) := by
  intro n
  induction n with
  | zero => intro l h hr; rw [List.replicate_zero, List.append_nil]; exact ⟨h, hr⟩
  | succ n ih =>
    intro l h hr
    obtain ⟨h1, h2⟩ := ih h hr
    rw [List.replicate_succ', ← List.append_assoc]
    obtain ⟨h3, h4⟩ := lxP_z (c := 6) (Or.inr (Or.inl rfl)) h1 h2
    exact ⟨h3, fun _ => h4⟩
def lxB (L : Int) (l : List lxT) : Prop := ∀ x ∈ l, 0 ≤ x.2.1 ∧ x.2.1 ≤ x.2.2 ∧ x.2.2 ≤ L
theorem lxB_a {L : Int} {l r : List lxT} (h : lxB L l) (hr : lxB L r) : lxB L (l ++ r) := by
  intro x hx
  rcases List.mem_append.mp hx with h1 | h1
  · exact h x h1
  · exact hr x h1
theorem lxB_1 {L c b e : Int} (h0 : 0 ≤ b) (h1 : b ≤ e) (h2 : e ≤ L) : lxB L [(c, b, e)] := by
  intro x hx
  rw [List.mem_singleton] at hx
  subst hx
  exact ⟨h0, h1, h2⟩
theorem lx_beg_P {n : Int} {p : Int} {L : Int} {ts : List lxT} {ind : List Int} (h0 : 0 ≤ p) (hL : p ≤ L) (h : lxP ts) (hb : lxB L ts) (hr : ts ≠ [] → rdy p (lxL ts)) : lxP (lx_beg n p ts ind).1 ∧ ((lx_beg n p ts ind).1 ≠ [] → rdy p (lxL (lx_beg n p ts ind).1)) ∧ lxB L (lx_beg n p ts ind).1 := by
  unfold lx_beg
  split
  · obtain ⟨h3, h4⟩ := lxP_z (c := 5) (Or.inl rfl) h hr
    exact ⟨h3, fun _ => h4, lxB_a hb (lxB_1 h0 (Int.le_refl _) hL)⟩
  · obtain ⟨h3, h4⟩ := lxP_r (lx_pop n ind).1 h hr
    have hb2 : lxB L (ts ++ List.replicate (lx_pop n ind).1 (6, p, p)) := by
      refine lxB_a hb (fun x hx => ?_)
      rw [(List.mem_replicate.mp hx).2]
      exact ⟨h0, Int.le_refl _, hL⟩
    simp only
    split
    · rw [List.append_nil]
      exact ⟨h3, h4, hb2⟩
    · obtain ⟨h5, h6⟩ := lxP_z (c := 8) (Or.inr (Or.inr rfl)) h3 h4
      exact ⟨h5, fun _ => h6, lxB_a hb2 (lxB_1 h0 (Int.le_refl _) hL)⟩
/-- what holds of the tokens up to p -/
def lxJ (t : List Int32) (p : Nat) (q : lxS) : Prop := lxP q.1 ∧ lxB (t.length : Int) q.1 ∧
  (q.2.2.2.2 = true → q.2.2.2.1 ≤ p ∧ (q.1 ≠ [] → (lxL q.1).1 = 4 ∧ (lxL q.1).2.1 + 1 ≤ (q.2.2.2.1 : Int) ∧ (lxL q.1).2.2 = (lxL q.1).2.1)) ∧
  (q.2.2.2.2 = false → q.1 ≠ [] ∧ (lxL q.1).1 ≠ 7 ∧ (lxL q.1).1 ≠ 4 ∧ (lxL q.1).2.1 < (lxL q.1).2.2 ∧ (lxL q.1).2.2 ≤ (p : Int) ∧ (lxL q.1).2.1 + (pwl (lxL q.1).1 : Int) ≤ (lxL q.1).2.2 ∧ ((lxL q.1).1 = 0 → (lxL q.1).2.2 = (p : Int) → p < t.length → lx_A (lx_c t p) = false))
theorem lxJ_mono {t : List Int32} {p p1 : Nat} {q : lxS} (h : lxJ t p q) (hp : p < p1) : lxJ t p1 q := by
  obtain ⟨h1, h2, h3, h4⟩ := h
  refine ⟨h1, h2, fun e => ⟨by have := (h3 e).1; omega, (h3 e).2⟩, fun e => ?_⟩
  obtain ⟨a1, a2, a3, a4, a5, a6, a7⟩ := h4 e
  exact ⟨a1, a2, a3, a4, by omega, a6, fun _ he => by omega⟩
theorem lxJ_nl {t : List Int32} {p : Nat} {q : lxS} (h : lxJ t p q) (hp : p ≤ t.length) : lxP (lx_nl q.1 q.2.2.2.2) ∧ lxB (t.length : Int) (lx_nl q.1 q.2.2.2.2) ∧ (lx_nl q.1 q.2.2.2.2 ≠ [] → (lxL (lx_nl q.1 q.2.2.2.2)).1 = 4 ∧ (lxL (lx_nl q.1 q.2.2.2.2)).2.1 ≤ (p : Int) ∧ (lxL (lx_nl q.1 q.2.2.2.2)).2.2 = (lxL (lx_nl q.1 q.2.2.2.2)).2.1) := by
  obtain ⟨h1, h2, h3, h4⟩ := h
  cases e : q.2.2.2.2 with
  | true =>
    show lxP q.1 ∧ lxB _ q.1 ∧ (q.1 ≠ [] → (lxL q.1).1 = 4 ∧ (lxL q.1).2.1 ≤ (p : Int) ∧ (lxL q.1).2.2 = (lxL q.1).2.1)
    refine ⟨h1, h2, fun hn => ?_⟩
    obtain ⟨g1, g2⟩ := h3 e
    obtain ⟨g3, g4, g5⟩ := g2 hn
    exact ⟨g3, by omega, g5⟩
  | false =>
    obtain ⟨a1, a2, a3, a4, a5, a6, a7⟩ := h4 e
    show lxP (q.1 ++ [(4, lx_le q.1, lx_le q.1)]) ∧ lxB _ (q.1 ++ [(4, lx_le q.1, lx_le q.1)]) ∧ (_ → (lxL (q.1 ++ [(4, lx_le q.1, lx_le q.1)])).1 = 4 ∧ (lxL (q.1 ++ [(4, lx_le q.1, lx_le q.1)])).2.1 ≤ (p : Int) ∧ (lxL (q.1 ++ [(4, lx_le q.1, lx_le q.1)])).2.2 = (lxL (q.1 ++ [(4, lx_le q.1, lx_le q.1)])).2.1)
    rw [lxL_s, lx_le_L]
    have hm : lxL q.1 ∈ q.1 := by
      unfold lxL
      have hl : q.1.length - 1 < q.1.length := by have := List.length_pos_iff.mpr a1; omega
      rw [List.getD_eq_getElem?_getD, List.getElem?_eq_getElem hl]
      exact List.getElem_mem hl
    obtain ⟨b1, b2, b3⟩ := h2 _ hm
    refine ⟨lxP_s h1 (fun _ => ⟨a2, a6, ?_⟩), lxB_a h2 (lxB_1 (by omega) (Int.le_refl _) (by omega)), fun _ => ⟨rfl, a5, rfl⟩⟩
    unfold g2
    show (lxL q.1).2.1 + _ + _ ≤ (lxL q.1).2.2 + (if (4 : Int) = 4 ∨ _ then 1 else 0)
    rw [if_pos (Or.inl rfl)]
    by_cases h0 : (lxL q.1).1 = 0
    · rw [if_neg (by omega), if_pos h0]; omega
    · rw [if_neg h0]
      split <;> omega
theorem lxJ_step {t : List Int32} (hc : ∀ c ∈ t, ed_ok c = true) {p : Nat} {q : lxS} (hp : p < t.length) (h : lxJ t p q) : lxJ t (lx_step t p q).1 (lx_step t p q).2 := by
  have hg := lx_step_gt t p q hp
  unfold lx_step at hg ⊢
  split
  · obtain ⟨g1, g2, g3⟩ := lxJ_nl h (Nat.le_of_lt hp)
    refine ⟨g1, g2, fun _ => ⟨Nat.le_refl _, fun hn => ?_⟩, fun e => by cases e⟩
    obtain ⟨k1, k2, k3⟩ := g3 hn
    exact ⟨k1, by show _ ≤ ((p + 1 : Nat) : Int); show (lxL (lx_nl q.1 q.2.2.2.2)).2.1 + 1 ≤ _; omega, k3⟩
  · rename_i h7
    rw [if_neg h7] at hg
    split
    · rename_i h8
      rw [if_pos h8] at hg
      exact lxJ_mono h hg.1
    · rename_i h8
      rw [if_neg h8] at hg
      split
      · exact lxJ_mono h (Nat.lt_succ_self p)
      · rename_i h9
        rw [if_neg h9] at hg
        have hgt : p < (lx_one t p).2 ∧ (lx_one t p).2 ≤ t.length := lx_one_gt t p hp
        obtain ⟨f1, f2, f3⟩ := lx_one_f hc hp
        obtain ⟨ts, ind, op, lb, bare⟩ := q
        obtain ⟨h1, h2, h3, h4⟩ := h
        simp only at h1 h2 h3 h4
        have last : ∀ (l : List lxT) (ind1 : List Int) (op1 : Int), lxP (l ++ [((lx_one t p).1, (p : Int), ((lx_one t p).2 : Int))]) → lxB (t.length : Int) l → lxJ t (lx_one t p).2 (l ++ [((lx_one t p).1, (p : Int), ((lx_one t p).2 : Int))], ind1, op1, lb, false) := by
          intro l ind1 op1 hl hb
          refine ⟨hl, lxB_a hb (lxB_1 (by omega) (by omega) (by omega)), (fun e => by cases e), fun _ => ?_⟩
          show l ++ [((lx_one t p).1, (p : Int), ((lx_one t p).2 : Int))] ≠ [] ∧ _
          simp only
          rw [lxL_s]
          refine ⟨by simp, by show (lx_one t p).1 ≠ 7; omega, by show (lx_one t p).1 ≠ 4; omega, by show (p : Int) < ((lx_one t p).2 : Int); omega, Int.le_refl _, f2, fun h0 _ hlt => (f3 h0).2 hlt⟩
        cases bare with
        | true =>
          obtain ⟨a1, a2⟩ := h3 rfl
          have hr : ts ≠ [] → rdy (p : Int) (lxL ts) := by
            intro hn
            obtain ⟨b1, b2, b3⟩ := a2 hn
            refine ⟨by rw [b1]; decide, ?_, ?_⟩
            · rw [b1]; show _ + ((1 : Nat) : Int) ≤ _; omega
            · unfold g2
              rw [if_pos (Or.inl b1), if_neg (by omega)]
              omega
          obtain ⟨k1, k2, k3⟩ := lx_beg_P (n := (p : Int) - lb) (ind := ind) (by omega) (by omega) h1 h2 hr
          exact last _ _ _ (lxP_s k1 (fun hn => rdy_C (k2 hn) rfl)) k3
        | false =>
          obtain ⟨a1, a2, a3, a4, a5, a6, a7⟩ := h4 rfl
          refine last ts _ _ (lxP_s h1 (fun _ => ⟨a2, by show _ ≤ (p : Int); omega, ?_⟩)) h2
          by_cases h0 : (lxL ts).1 = 0
          · rw [if_pos h0]
            have e1 : g2 (lxL ts) = (lxL ts).2.1 := by unfold g2; rw [if_neg (by omega)]; omega
            rw [e1]
            by_cases h10 : (lx_one t p).1 = 0
            · have h11 := (f3 h10).1
              have h12 : (lxL ts).2.2 ≠ (p : Int) := fun e => by rw [a7 h0 e hp] at h11; cases h11
              have := (g2_ge ((lx_one t p).1, (p : Int), ((lx_one t p).2 : Int))).1
              simp only at this
              omega
            · unfold g2
              show _ ≤ (p : Int) + (if (lx_one t p).1 = 4 ∨ ((lx_one t p).1 ≠ 0 ∧ (p : Int) < ((lx_one t p).2 : Int)) then 1 else 0)
              rw [if_pos (Or.inr ⟨h10, by omega⟩)]
              omega
          · rw [if_neg h0]
            have h13 := (g2_ge (lxL ts)).2
            have h14 := (g2_ge ((lx_one t p).1, (p : Int), ((lx_one t p).2 : Int))).1
            simp only at h14
            omega
theorem lxJ_go {t : List Int32} (hc : ∀ c ∈ t, ed_ok c = true) : ∀ (n p : Nat) (q : lxS), p ≤ t.length → lxJ t p q → lxJ t t.length (lx_go t n p q) ∨ (n ≤ t.length - p) := by
  intro n
  induction n with
  | zero => intro p q hp h; exact Or.inr (Nat.zero_le _)
  | succ n ih =>
    intro p q hp h
    unfold lx_go
    split
    · rename_i hlt
      have hg := lx_step_gt t p q hlt
      rcases ih _ _ hg.2 (lxJ_step hc hlt h) with h1 | h1
      · exact Or.inl h1
      · exact Or.inr (by omega)
    · rename_i hlt
      have e : p = t.length := by omega
      subst e
      exact Or.inl h
theorem lxJ_0 (t : List Int32) : lxJ t 0 ([], [], 0, 0, true) := ⟨fun i hi => by simp at hi, fun x hx => by simp at hx, fun _ => ⟨Nat.le_refl _, fun h => absurd rfl h⟩, fun e => by cases e⟩
/-- the form of a text's tokens -/
theorem lx_form {t : List Int32} (hc : ∀ c ∈ t, ed_ok c = true) : ∃ A m, lx t = A ++ List.replicate m (6, (t.length : Int), (t.length : Int)) ++ [(7, (t.length : Int), (t.length : Int))] ∧ lxP A ∧ lxB (t.length : Int) A ∧ (A ≠ [] → (lxL A).1 = 4 ∧ (lxL A).2.1 ≤ (t.length : Int)) := by
  rcases lxJ_go hc (t.length + 1) 0 _ (Nat.zero_le _) (lxJ_0 t) with h | h
  · obtain ⟨g1, g2, g3⟩ := lxJ_nl h (Nat.le_refl _)
    exact ⟨_, _, rfl, g1, g2, fun hn => ⟨(g3 hn).1, (g3 hn).2.1⟩⟩
  · omega
