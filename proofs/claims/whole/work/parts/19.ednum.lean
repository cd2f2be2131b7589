theorem ed_dp : ∀ n, n ≤ 8 → ¬ (0 + nI n) < 0 ∧ (0 + nI n).toNatClampNeg ≤ 200 := by
  intro n hn
  have h : ∀ n, n < 9 → ¬ (0 + nI n) < 0 ∧ (0 + nI n).toNatClampNeg ≤ 200 := by decide +kernel
  exact h n (by omega)
theorem ed_200 : ∀ n, n ≤ 8 → am_if .le (0 + nI n) 200 = true := by
  intro n hn
  have h : ∀ n, n < 9 → am_if .le (0 + nI n) 200 = true := by decide +kernel
  exact h n (by omega)
theorem ed_q {q : Nat} (h : q < 200) : am_if .ge (nI q) 200 = false := decide_eq_false (nI_ge (a := q) (b := 200) h (by decide))
theorem ed_pq {p q : Int32} (h1 : am_if .lt p 0 = false) (h2 : am_if .gt p 0 = false) (h3 : am_if .lt q 0 = false) (h4 : am_if .le q (0 - p) = true) : p = 0 ∧ q = 0 := by
  have g1 : ¬ p < 0 := of_decide_eq_false h1
  have g2 : ¬ 0 < p := of_decide_eq_false h2
  have g3 : ¬ q < 0 := of_decide_eq_false h3
  have g4 : q ≤ 0 - p := of_decide_eq_true h4
  have e : p = 0 := Int32.le_antisymm (Int32.not_lt.mp g2) (Int32.not_lt.mp g1)
  subst e
  have g5 : q ≤ 0 := g4
  exact ⟨rfl, Int32.le_antisymm g5 (Int32.not_lt.mp g3)⟩
theorem ed_pq2 {p q : Int32} (h1 : am_if .lt p 0 = false) (h2 : am_if .gt p 0 = false) (h3 : am_if .lt q 0 = false) (h4 : am_if .gt q (0 - p) = false) : p = 0 ∧ q = 0 := by
  refine ed_pq h1 h2 h3 ?_
  have g4 : ¬ 0 - p < q := of_decide_eq_false h4
  exact decide_eq_true (Int32.not_lt.mp g4)
def ed_k : Nat → Int32
  | 0 => -8
  | i + 1 => nI (8 * i)
theorem ed_kd : ∀ m, m < 8 → nI (8 * m) + (-8) = ed_k m := by decide +kernel
theorem ed_kp : ∀ m, m < 8 → am_if .lt (nI (8 * m)) 0 = false := by decide +kernel
