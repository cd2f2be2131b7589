/-! The rows of the scopes: which one holds a token. -/
def rF (r : pSc) : Int := r.2.2.2.1
def rFr (r : pSc) : Int := r.2.2.2.2.1
def rTo (r : pSc) : Int := r.2.2.2.2.2.1
def rSf (r : pSc) : Int := r.2.2.2.2.2.2.1
def rSt (r : pSc) : Int := r.2.2.2.2.2.2.2.1
def inS (r : pSc) (t : Int) : Bool := decide (r.1 = 4) && (decide (rSf r ≤ t) && decide (t < rSt r))
def cont (r : pSc) (t : Int) : Bool := decide (rFr r ≤ t) && (decide (t < rTo r) && !inS r t)
theorem cont_lo {r : pSc} {t : Int} (h : t < rFr r) : cont r t = false := by
  unfold cont
  rw [decide_eq_false (by omega)]; rfl
theorem cont_hi {r : pSc} {t : Int} (h : rTo r ≤ t) : cont r t = false := by
  unfold cont
  rw [decide_eq_false (p := t < rTo r) (by omega), Bool.false_and, Bool.and_false]
def lcG {α : Type} (g : Int → pSc → α → α) : List pSc → Int → α → Int → α
  | [], _, a, _ => a
  | r :: W, n, a, t => lcG g W (n + 1) (if cont r t = true then g n r a else a) t
section LC
variable {α : Type} {g : Int → pSc → α → α}
theorem lcG_app (A B : List pSc) (t : Int) : ∀ (n : Int) (a : α), lcG g (A ++ B) n a t = lcG g B (n + A.length) (lcG g A n a t) t := by
  induction A with
  | nil => intro n a; show lcG g B n a t = lcG g B (n + ((0 : Nat) : Int)) a t; rw [show n + ((0 : Nat) : Int) = n by omega]
  | cons r A ih =>
    intro n a
    show lcG g (A ++ B) (n + 1) _ t = _
    rw [ih, List.length_cons, show n + 1 + (A.length : Int) = n + ((A.length + 1 : Nat) : Int) by omega]
    rfl
theorem lcG_no {W : List pSc} {t : Int} (h : ∀ r ∈ W, cont r t = false) : ∀ (n : Int) (a : α), lcG g W n a t = a := by
  induction W with
  | nil => intro n a; rfl
  | cons r W ih =>
    intro n a
    show lcG g W (n + 1) (if cont r t = true then g n r a else a) t = a
    rw [ih (fun q hq => h q (List.mem_cons_of_mem _ hq)), h r (List.mem_cons_self ..)]
    rfl
/-- rows that lie from lo to hi -/
def rW (W : List pSc) (lo hi : Int) : Prop := ∀ r ∈ W, lo ≤ rF r ∧ rF r < rFr r ∧ rFr r ≤ rTo r ∧ rTo r ≤ hi
theorem rW_m {W : List pSc} {lo hi lo1 hi1 : Int} (h : rW W lo hi) (h1 : lo1 ≤ lo) (h2 : hi ≤ hi1) : rW W lo1 hi1 := fun r hr => by
  obtain ⟨a1, a2, a3, a4⟩ := h r hr
  exact ⟨by omega, a2, a3, by omega⟩
theorem rW_a {W1 W2 : List pSc} {lo hi : Int} (h1 : rW W1 lo hi) (h2 : rW W2 lo hi) : rW (W1 ++ W2) lo hi := fun r hr => by
  rcases List.mem_append.mp hr with h | h
  · exact h1 r h
  · exact h2 r h
theorem rW_lo {W : List pSc} {lo hi t : Int} (h : rW W lo hi) (ht : t ≤ lo) (n : Int) (a : α) : lcG g W n a t = a := lcG_no (fun r hr => by
  obtain ⟨a1, a2, a3, a4⟩ := h r hr
  exact cont_lo (by omega)) n a
theorem rW_hi {W : List pSc} {lo hi t : Int} (h : rW W lo hi) (ht : hi ≤ t) (n : Int) (a : α) : lcG g W n a t = a := lcG_no (fun r hr => by
  obtain ⟨a1, a2, a3, a4⟩ := h r hr
  exact cont_hi (by omega)) n a
/-- at each place its value -/
def rV (g : Int → pSc → α → α) (a : α) (W : List pSc) (n lo hi : Int) (P : List (Int × α)) : Prop := ∀ p ∈ P, lo ≤ p.1 ∧ p.1 < hi ∧ p.2 = lcG g W n a p.1
theorem lc_app1 {W1 W2 : List pSc} {mid hi n t : Int} {a : α} (w2 : rW W2 mid hi) (ht : t < mid) : lcG g (W1 ++ W2) n a t = lcG g W1 n a t := by
  rw [lcG_app, rW_lo w2 (by omega)]
theorem lc_app2 {W1 W2 : List pSc} {lo mid n t : Int} {a : α} (w1 : rW W1 lo mid) (ht : mid ≤ t) : lcG g (W1 ++ W2) n a t = lcG g W2 (n + W1.length) a t := by
  rw [lcG_app, rW_hi w1 ht]
theorem rV_app {W1 W2 : List pSc} {lo mid hi n : Int} {a : α} {P1 P2 : List (Int × α)} (h1 : lo ≤ mid) (h2 : mid ≤ hi) (w1 : rW W1 lo mid) (w2 : rW W2 mid hi) (v1 : rV g a W1 n lo mid P1) (v2 : rV g a W2 (n + W1.length) mid hi P2) : rV g a (W1 ++ W2) n lo hi (P1 ++ P2) := by
  intro p hp
  rcases List.mem_append.mp hp with h | h
  · obtain ⟨b1, b2, b3⟩ := v1 p h
    exact ⟨b1, by omega, by rw [lc_app1 w2 b2]; exact b3⟩
  · obtain ⟨b1, b2, b3⟩ := v2 p h
    exact ⟨by omega, b2, by rw [lc_app2 w1 b1]; exact b3⟩
theorem lc_sd {rec : pSc} {W : List pSc} {mid hi n t : Int} {a : α} (hs : rec.1 ≠ 4) (hj : rFr rec ≤ mid) (hto : rTo rec = hi) (ht : mid ≤ t) (ht2 : t < hi) : lcG g (rec :: W) n a t = lcG g W (n + 1) (g n rec a) t := by
  have hc : cont rec t = true := by
    unfold cont inS
    rw [decide_eq_true (p := rFr rec ≤ t) (by omega), decide_eq_true (p := t < rTo rec) (by omega), decide_eq_false hs]
    rfl
  show lcG g W (n + 1) (if cont rec t = true then g n rec a else a) t = _
  rw [if_pos hc]
theorem rV_sd {rec : pSc} {W : List pSc} {lo mid hi n : Int} {a : α} {P1 P2 : List (Int × α)} (hs : rec.1 ≠ 4) (hlo : lo < rFr rec) (hj : rFr rec ≤ mid) (hto : rTo rec = hi) (hmh : mid ≤ hi) (w : rW W mid hi) (v1 : ∀ p ∈ P1, lo ≤ p.1 ∧ p.1 < rFr rec ∧ p.2 = a) (v2 : rV g (g n rec a) W (n + 1) mid hi P2) : rV g a (rec :: W) n lo hi (P1 ++ P2) := by
  intro p hp
  rcases List.mem_append.mp hp with h | h
  · obtain ⟨b1, b2, b3⟩ := v1 p h
    refine ⟨b1, by omega, ?_⟩
    show _ = lcG g W (n + 1) (if cont rec p.1 = true then g n rec a else a) p.1
    rw [cont_lo b2, if_neg (by decide), rW_lo w (by omega)]
    exact b3
  · obtain ⟨b1, b2, b3⟩ := v2 p h
    refine ⟨by omega, b2, ?_⟩
    rw [lc_sd hs hj hto b1 b2]
    exact b3
theorem cm_in {rec : pSc} {t : Int} (h1 : rFr rec ≤ t) (h2 : t < rSf rec) (h3 : rSf rec ≤ rTo rec) : cont rec t = true := by
  unfold cont inS
  rw [decide_eq_true (p := rFr rec ≤ t) h1, decide_eq_true (p := t < rTo rec) (by omega), decide_eq_false (p := rSf rec ≤ t) (by omega), Bool.false_and, Bool.and_false]
  rfl
theorem cm_out {rec : pSc} {t : Int} (h4 : rec.1 = 4) (h1 : rSf rec ≤ t) (h2 : t < rSt rec) : cont rec t = false := by
  unfold cont inS
  rw [decide_eq_true h4, decide_eq_true (p := rSf rec ≤ t) h1, decide_eq_true (p := t < rSt rec) h2]
  simp
theorem rV_cm {rec : pSc} {W1 W3 : List pSc} {lo m1 m2 m3 hi n : Int} {a : α} {P0 P1 P3 : List (Int × α)} (h4 : rec.1 = 4) (hfr : rFr rec = lo + 1) (hsf : rSf rec = m2) (hst : rSt rec = m3) (hto : rTo rec = m3) (h12 : m1 ≤ m2) (h23 : m2 ≤ m3) (h3h : m3 < hi) (h01 : lo + 1 ≤ m1) (w1 : rW W1 (lo + 1) m1) (w3 : rW W3 m2 m3) (v0 : ∀ p ∈ P0, p.1 = lo ∧ p.2 = a) (v1 : rV g (g n rec a) W1 (n + 1) (lo + 1) m2 P1) (v3 : rV g a W3 (n + 1 + W1.length) m2 m3 P3) : rV g a (rec :: (W1 ++ W3)) n lo hi (P0 ++ (P1 ++ P3)) := by
  intro p hp
  have hstep : lcG g (rec :: (W1 ++ W3)) n a p.1 = lcG g (W1 ++ W3) (n + 1) (if cont rec p.1 = true then g n rec a else a) p.1 := rfl
  rcases List.mem_append.mp hp with h | h
  · obtain ⟨b1, b2⟩ := v0 p h
    refine ⟨by omega, by omega, ?_⟩
    rw [hstep, cont_lo (by omega), if_neg (by decide), lcG_app, rW_lo w1 (by omega), rW_lo w3 (by omega)]
    exact b2
  · rcases List.mem_append.mp h with h | h
    · obtain ⟨b1, b2, b3⟩ := v1 p h
      refine ⟨by omega, by omega, ?_⟩
      rw [hstep, cm_in (by omega) (by omega) (by omega), if_pos rfl, lcG_app, rW_lo w3 (by omega)]
      exact b3
    · obtain ⟨b1, b2, b3⟩ := v3 p h
      refine ⟨by omega, by omega, ?_⟩
      rw [hstep, cm_out h4 (by omega) (by omega), if_neg (by decide), lcG_app, rW_hi w1 (by omega)]
      exact b3
end LC
