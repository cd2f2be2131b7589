/-! Sorting by exchange. -/
def bp : pSc → List pSc → List pSc
  | x, [] => [x]
  | x, y :: r => if rF y < rF x then y :: bp x r else x :: bp y r
def bpl : List pSc → List pSc
  | [] => []
  | x :: r => bp x r
def bps : Nat → List pSc → List pSc
  | 0, l => l
  | k + 1, l => bps k (bpl l)
def lF (a b : pSc) : Prop := rF a < rF b
def nF (a b : pSc) : Prop := rF a ≠ rF b
theorem bp_perm : ∀ (r : List pSc) (x : pSc), (bp x r).Perm (x :: r) := by
  intro r
  induction r with
  | nil => intro x; exact List.Perm.refl _
  | cons y r ih =>
    intro x
    unfold bp
    split
    · exact (List.Perm.cons y (ih x)).trans (List.Perm.swap x y r)
    · exact List.Perm.cons x (ih y)
theorem bp_sorted : ∀ (r : List pSc) (x : pSc), (x :: r).Pairwise lF → bp x r = x :: r := by
  intro r
  induction r with
  | nil => intro x _; rfl
  | cons y r ih =>
    intro x h
    obtain ⟨h1, h2⟩ := List.pairwise_cons.mp h
    have h3 : rF x < rF y := h1 y (List.mem_cons_self ..)
    unfold bp
    rw [if_neg (by omega), ih y h2]
theorem bp_app : ∀ (r : List pSc) (x : pSc) (S : List pSc), (∀ a ∈ x :: r, ∀ b ∈ S, lF a b) → S.Pairwise lF → bp x (r ++ S) = bp x r ++ S := by
  intro r
  induction r with
  | nil =>
    intro x S h hs
    exact bp_sorted S x (List.pairwise_cons.mpr ⟨fun b hb => h x (List.mem_cons_self ..) b hb, hs⟩)
  | cons y r ih =>
    intro x S h hs
    show bp x (y :: (r ++ S)) = _
    unfold bp
    split
    · rw [ih x S (fun a ha b hb => h a (by
        rcases List.mem_cons.mp ha with e | e
        · subst e; exact List.mem_cons_self ..
        · exact List.mem_cons_of_mem _ (List.mem_cons_of_mem _ e)) b hb) hs]
      rfl
    · rw [ih y S (fun a ha b hb => h a (List.mem_cons_of_mem _ ha) b hb) hs]
      rfl
theorem bp_max : ∀ (r : List pSc) (x : pSc), ∃ A mx, bp x r = A ++ [mx] ∧ A.length = r.length ∧ rF x ≤ rF mx ∧ ∀ a ∈ A, rF a ≤ rF mx := by
  intro r
  induction r with
  | nil => intro x; exact ⟨[], x, rfl, rfl, Int.le_refl _, fun a ha => absurd ha List.not_mem_nil⟩
  | cons y r ih =>
    intro x
    unfold bp
    split
    · rename_i h
      obtain ⟨A, mx, h1, h2, h3, h4⟩ := ih x
      refine ⟨y :: A, mx, by rw [h1]; rfl, by rw [List.length_cons, List.length_cons, h2], h3, fun a ha => ?_⟩
      rcases List.mem_cons.mp ha with e | e
      · subst e; omega
      · exact h4 a e
    · rename_i h
      obtain ⟨A, mx, h1, h2, h3, h4⟩ := ih y
      refine ⟨x :: A, mx, by rw [h1]; rfl, by rw [List.length_cons, List.length_cons, h2], by omega, fun a ha => ?_⟩
      rcases List.mem_cons.mp ha with e | e
      · subst e; omega
      · exact h4 a e
theorem bpl_perm (l : List pSc) : (bpl l).Perm l := by
  cases l with
  | nil => exact List.Perm.refl _
  | cons x r => exact bp_perm r x
theorem bps_perm : ∀ (k : Nat) (l : List pSc), (bps k l).Perm l := by
  intro k
  induction k with
  | zero => intro l; exact List.Perm.refl _
  | succ k ih => intro l; exact (ih (bpl l)).trans (bpl_perm l)
theorem bps_ok : ∀ (k : Nat) (A S : List pSc), A.length ≤ k → (A ++ S).Pairwise nF → S.Pairwise lF → (∀ a ∈ A, ∀ b ∈ S, lF a b) → (bps k (A ++ S)).Pairwise lF := by
  intro k
  induction k with
  | zero =>
    intro A S h1 _ h3 _
    have e : A = [] := List.length_eq_zero_iff.mp (by omega)
    subst e
    exact h3
  | succ k ih =>
    intro A S h1 h2 h3 h4
    cases A with
    | nil =>
      have e : bpl ([] ++ S) = [] ++ S := by
        cases S with
        | nil => rfl
        | cons y S => exact bp_sorted S y h3
      show (bps k (bpl ([] ++ S))).Pairwise lF
      rw [e]
      exact ih [] S (Nat.zero_le _) h2 h3 h4
    | cons x r =>
      obtain ⟨A, mx, g1, g2, g3, g4⟩ := bp_max r x
      have hp : (A ++ [mx]).Perm (x :: r) := by rw [← g1]; exact bp_perm r x
      have e : bpl (x :: r ++ S) = A ++ ([mx] ++ S) := by
        show bp x (r ++ S) = _
        rw [bp_app r x S h4 h3, g1, List.append_assoc]
      have hm : ∀ a ∈ A ++ [mx], ∀ b ∈ S, lF a b := fun a ha b hb => h4 a (hp.mem_iff.mp ha) b hb
      have hn : (A ++ [mx] ++ S).Pairwise nF := (List.Perm.pairwise_iff (R := nF) (fun {x y} h => fun e => h e.symm) (hp.append (List.Perm.refl S))).mpr h2
      have hn1 : (A ++ [mx]).Pairwise nF := (List.pairwise_append.mp hn).1
      have hn2 := (List.pairwise_append.mp hn1).2.2
      show (bps k (bpl (x :: r ++ S))).Pairwise lF
      rw [e]
      refine ih A ([mx] ++ S) ?_ ?_ ?_ ?_
      · rw [List.length_cons] at h1; omega
      · rw [List.append_assoc] at hn; exact hn
      · exact List.pairwise_cons.mpr ⟨fun b hb => hm mx (List.mem_append_right _ (List.mem_singleton.mpr rfl)) b hb, h3⟩
      · intro a ha b hb
        rcases List.mem_cons.mp hb with e | e
        · subst e
          have q1 := g4 a ha
          have q2 : rF a ≠ rF b := hn2 a ha b (List.mem_singleton.mpr rfl)
          show rF a < rF b
          omega
        · exact hm a (List.mem_append_left _ ha) b e
theorem srt_eq : ∀ l1 l2 : List pSc, l1.Pairwise lF → l2.Pairwise lF → (∀ x, x ∈ l1 ↔ x ∈ l2) → l1 = l2 := by
  intro l1
  induction l1 with
  | nil =>
    intro l2 _ _ h
    cases l2 with
    | nil => rfl
    | cons y l2 => exact absurd ((h y).mpr (List.mem_cons_self ..)) List.not_mem_nil
  | cons x l1 ih =>
    intro l2 h1 h2 h
    cases l2 with
    | nil => exact absurd ((h x).mp (List.mem_cons_self ..)) List.not_mem_nil
    | cons y l2 =>
      obtain ⟨a1, a2⟩ := List.pairwise_cons.mp h1
      obtain ⟨b1, b2⟩ := List.pairwise_cons.mp h2
      have exy : x = y := by
        rcases List.mem_cons.mp ((h x).mp (List.mem_cons_self ..)) with e | e
        · exact e
        · rcases List.mem_cons.mp ((h y).mpr (List.mem_cons_self ..)) with e2 | e2
          · exact e2.symm
          · have q1 : rF y < rF x := b1 x e
            have q2 : rF x < rF y := a1 y e2
            omega
      subst exy
      rw [ih l2 a2 b2 (fun z => ?_)]
      constructor
      · intro hz
        rcases List.mem_cons.mp ((h z).mp (List.mem_cons_of_mem _ hz)) with e | e
        · subst e
          have q : rF z < rF z := a1 z hz
          omega
        · exact e
      · intro hz
        rcases List.mem_cons.mp ((h z).mpr (List.mem_cons_of_mem _ hz)) with e | e
        · subst e
          have q : rF z < rF z := b1 z hz
          omega
        · exact e
/-- sorting gives the list that is in order already -/
theorem bps_eq {l L : List pSc} (hp : l.Perm L) (hL : L.Pairwise lF) {k : Nat} (hk : l.length ≤ k) : bps k l = L := by
  have hn : L.Pairwise nF := hL.imp (fun {a b} h => fun e => by have h2 : rF a < rF b := h; omega)
  have hn2 : l.Pairwise nF := (List.Perm.pairwise_iff (R := nF) (fun {x y} h => fun e => h e.symm) hp).mpr hn
  have h1 := bps_ok k l [] hk (by rw [List.append_nil]; exact hn2) List.Pairwise.nil (fun a _ b hb => absurd hb List.not_mem_nil)
  rw [List.append_nil] at h1
  exact srt_eq _ _ h1 hL (fun x => ((bps_perm k l).trans hp).mem_iff)
