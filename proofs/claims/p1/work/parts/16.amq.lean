/-! Runs that a program decides. -/
def am_qe (a b : am_E) : Bool := match a, b with
  | .inl x, .inl y => decide (x.1 = y.1) && decide (x.2 = y.2)
  | .inr x, .inr y => decide (x.1 = y.1) && decide (x.2 = y.2)
  | _, _ => false
theorem am_qe_eq {a b : am_E} (h : am_qe a b = true) : a = b := by
  cases a with
  | inl x =>
    cases b with
    | inl y =>
      have h : (decide (x.1 = y.1) && decide (x.2 = y.2)) = true := h
      rw [Bool.and_eq_true, decide_eq_true_eq, decide_eq_true_eq] at h
      exact congrArg Sum.inl (Prod.ext h.1 h.2)
    | inr y => cases h
  | inr x =>
    cases b with
    | inl y => cases h
    | inr y =>
      have h : (decide (x.1 = y.1) && decide (x.2 = y.2)) = true := h
      rw [Bool.and_eq_true, decide_eq_true_eq, decide_eq_true_eq] at h
      exact congrArg Sum.inr (Prod.ext h.1 h.2)
def am_qh : List am_E → List am_E → Bool
  | [], [] => true
  | a :: r, b :: s => am_qe a b && am_qh r s
  | _, _ => false
theorem am_qh_eq : ∀ {a b : List am_E}, am_qh a b = true → a = b
  | [], [], _ => rfl
  | a :: r, b :: s, h => by
    have h : (am_qe a b && am_qh r s) = true := h
    rw [Bool.and_eq_true] at h
    rw [am_qe_eq h.1, am_qh_eq h.2]
  | [], _ :: _, h => by cases h
  | _ :: _, [], h => by cases h
def am_qo (a : Option (Option Value × List am_E × Nat × Nat)) (r : Option Value) (h : List am_E) (c s : Nat) : Bool := match a with
  | some z => (decide (z.1 = r) && am_qh z.2.1 h) && (decide (z.2.2.1 = c) && decide (z.2.2.2 = s))
  | none => false
theorem am_qo_eq {a : Option (Option Value × List am_E × Nat × Nat)} {r : Option Value} {h : List am_E} {c s : Nat} (e : am_qo a r h c s = true) : a = some (r, h, c, s) := by
  cases a with
  | none => cases e
  | some z =>
    obtain ⟨z1, z2, z3, z4⟩ := z
    have e : ((decide (z1 = r) && am_qh z2 h) && (decide (z3 = c) && decide (z4 = s))) = true := e
    simp only [Bool.and_eq_true, decide_eq_true_eq] at e
    rw [e.1.1, am_qh_eq e.1.2, e.2.1, e.2.2]
theorem am_wm {C : am_C} {d mi pc : Nat} {lv lw : am_V} {st : List Value} {h : List am_E} {Q : Option Value → List am_E → Prop} (hg : am_W C d mi pc lv st h Q) (hs : am_sub lw lv) : am_W C d mi pc lw st h Q := am_wl hs hg
