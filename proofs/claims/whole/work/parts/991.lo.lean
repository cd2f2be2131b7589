/-! The tokens of a text, one behind the other. -/
def lxK (p : Int) (l : List lxT) : Prop := l.Pairwise (fun x y => x.2.2 ≤ y.2.1) ∧ ∀ x ∈ l, x.2.1 ≤ x.2.2 ∧ x.2.2 ≤ p ∧ ((x.1 < 4 ∨ 8 < x.1) → x.2.1 < x.2.2)
theorem lxK_s {p b e c : Int} {l : List lxT} (h : lxK p l) (h1 : p ≤ b) (h2 : b ≤ e) (h3 : (c < 4 ∨ 8 < c) → b < e) : lxK e (l ++ [(c, b, e)]) := by
  obtain ⟨g1, g2⟩ := h
  refine ⟨List.pairwise_append.mpr ⟨g1, List.pairwise_singleton _ _, fun x hx y hy => ?_⟩, fun x hx => ?_⟩
  · rw [List.mem_singleton] at hy
    subst hy
    have := (g2 x hx).2.1
    show x.2.2 ≤ b
    omega
  · rcases List.mem_append.mp hx with hx | hx
    · have := g2 x hx
      exact ⟨this.1, by omega, this.2.2⟩
    · rw [List.mem_singleton] at hx
      subst hx
      exact ⟨h2, Int.le_refl _, h3⟩
theorem lxK_m {p q : Int} {l : List lxT} (h : lxK p l) (hq : p ≤ q) : lxK q l := ⟨h.1, fun x hx => ⟨(h.2 x hx).1, by have := (h.2 x hx).2.1; omega, (h.2 x hx).2.2⟩⟩
theorem lxK_z {p c : Int} {l : List lxT} (h : lxK p l) (hc : ¬ (c < 4 ∨ 8 < c)) : lxK p (l ++ [(c, p, p)]) := lxK_s h (Int.le_refl _) (Int.le_refl _) (fun e => absurd e hc)
theorem lxK_r {p : Int} : ∀ (n : Nat) {l : List lxT}, lxK p l → lxK p (l ++ List.replicate n (6, p, p)) := by
  intro n
  induction n with
  | zero => intro l h; rw [List.replicate_zero, List.append_nil]; exact h
  | succ n ih =>
    intro l h
    rw [List.replicate_succ', ← List.append_assoc]
    exact lxK_z (ih h) (by decide)
theorem lxK_nl {p : Int} (h0 : 0 ≤ p) {l : List lxT} (h : lxK p l) (b : Bool) : lxK p (lx_nl l b) := by
  cases b with
  | true => exact h
  | false =>
    show lxK p (l ++ [(4, lx_le l, lx_le l)])
    rcases List.eq_nil_or_concat l with e | ⟨i, x, e⟩
    · subst e
      exact lxK_m (lxK_s (p := 0) ⟨List.Pairwise.nil, fun x hx => absurd hx List.not_mem_nil⟩ (Int.le_refl _) (Int.le_refl _) (fun e => absurd e (by decide))) h0
    · subst e
      rw [List.concat_eq_append] at h ⊢
      rw [lx_le_L, lxL_s]
      have hx := h.2 x (List.mem_append_right _ (List.mem_singleton.mpr rfl))
      refine lxK_m (lxK_z (p := x.2.2) ⟨h.1, fun y hy => ⟨(h.2 y hy).1, ?_, (h.2 y hy).2.2⟩⟩ (by decide)) hx.2.1
      rcases List.mem_append.mp hy with hy | hy
      · have := (List.pairwise_append.mp h.1).2.2 y hy x (List.mem_singleton.mpr rfl)
        omega
      · rw [List.mem_singleton] at hy
        subst hy
        exact Int.le_refl _
theorem lxK_beg {n p : Int} {l : List lxT} {ind : List Int} (h : lxK p l) : lxK p (lx_beg n p l ind).1 := by
  unfold lx_beg
  split
  · exact lxK_z h (by decide)
  · simp only
    split
    · rw [List.append_nil]; exact lxK_r _ h
    · exact lxK_z (lxK_r _ h) (by decide)
theorem lxK_step {t : List Int32} {p : Nat} {q : lxS} (hp : p < t.length) (h : lxK p q.1) : lxK (lx_step t p q).1 (lx_step t p q).2.1 := by
  have hg := lx_step_gt t p q hp
  unfold lx_step at hg ⊢
  split
  · exact lxK_m (lxK_nl (by omega) h _) (by show (p : Int) ≤ ((p + 1 : Nat) : Int); omega)
  · rename_i h7
    rw [if_neg h7] at hg
    split
    · rename_i h8
      rw [if_pos h8] at hg
      refine lxK_m h ?_
      have := hg.1
      show (p : Int) ≤ ((lx_e lx_N t p : Nat) : Int)
      simp only at this
      omega
    · split
      · exact lxK_m h (by show (p : Int) ≤ ((p + 1 : Nat) : Int); omega)
      · have hgt := lx_one_gt t p hp
        obtain ⟨ts, ind, op, lb, bare⟩ := q
        cases bare with
        | true =>
          show lxK ((lx_one t p).2 : Int) ((lx_beg ((p : Int) - lb) p ts ind).1 ++ [((lx_one t p).1, (p : Int), ((lx_one t p).2 : Int))])
          exact lxK_s (lxK_beg h) (Int.le_refl _) (by omega) (fun _ => by omega)
        | false =>
          show lxK ((lx_one t p).2 : Int) (ts ++ [((lx_one t p).1, (p : Int), ((lx_one t p).2 : Int))])
          exact lxK_s h (Int.le_refl _) (by omega) (fun _ => by omega)
theorem lxK_go {t : List Int32} : ∀ (n p : Nat) (q : lxS), p ≤ t.length → lxK p q.1 → lxK t.length (lx_go t n p q).1 := by
  intro n
  induction n with
  | zero => intro p q hp h; exact lxK_m h (by omega)
  | succ n ih =>
    intro p q hp h
    unfold lx_go
    split
    · rename_i hlt
      exact ih _ _ (lx_step_gt t p q hlt).2 (lxK_step hlt h)
    · exact lxK_m h (by omega)
theorem lxK_lx (t : List Int32) : lxK t.length (lx t) := by
  have h := lxK_go (t := t) (t.length + 1) 0 ([], [], 0, 0, true) (Nat.zero_le _) ⟨List.Pairwise.nil, fun x hx => absurd hx List.not_mem_nil⟩
  unfold lx lx_fin
  exact lxK_z (lxK_r _ (lxK_nl (by omega) h _)) (by decide)
/-- what ends, ends before a later one begins -/
theorem lx_ord {t : List Int32} {i j : Nat} (hij : i < j) (hj : j < (lx t).length) : te (lx t) i ≤ tb (lx t) j := by
  have h := List.pairwise_iff_getElem.mp (lxK_lx t).1 i j (by omega) hj hij
  unfold te tb
  rw [List.getD_eq_getElem?_getD, List.getElem?_eq_getElem (by omega), List.getD_eq_getElem?_getD, List.getElem?_eq_getElem hj]
  exact h
theorem lx_str {t : List Int32} {i : Nat} (h : tc (lx t) i < 4 ∨ 8 < tc (lx t) i) : tb (lx t) i < te (lx t) i := by
  unfold tc at h
  unfold tb te
  rw [List.getD_eq_getElem?_getD] at h ⊢
  by_cases hi : i < (lx t).length
  · rw [List.getElem?_eq_getElem hi] at h ⊢
    exact ((lxK_lx t).2 _ (List.getElem_mem hi)).2.2 h
  · rw [List.getElem?_eq_none (by omega)] at h
    exact absurd h (by decide)
theorem lx_ws {t : List Int32} (hc : ∀ c ∈ t, ed_ok c = true) {i j : Nat} (hij : i ≤ j) (hj : j < (lx t).length) : tb (lx t) i ≤ tb (lx t) j := by
  rcases Nat.lt_or_ge i j with h | h
  · have := lx_ord (t := t) h hj
    have := lx_tb hc i
    omega
  · rw [show i = j by omega]; exact Int.le_refl _
theorem lx_lt {t : List Int32} {i j : Nat} (hij : i < j) (hj : j < (lx t).length) (h : tc (lx t) i < 4 ∨ 8 < tc (lx t) i) : tb (lx t) i < tb (lx t) j := by
  have := lx_ord (t := t) hij hj
  have := lx_str (t := t) h
  omega
