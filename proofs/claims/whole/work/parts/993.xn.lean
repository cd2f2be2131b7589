/-! The spans: the class's and the reference's are the same, and of two one lies in the other or they lie apart. -/
def okS (a b : Int × Int) : Prop := a.2 ≤ b.1 ∨ b.2 ≤ a.1 ∨ (a.1 ≤ b.1 ∧ b.2 ≤ a.2) ∨ (b.1 ≤ a.1 ∧ a.2 ≤ b.2)
def Lam (l : List (Int × Int)) : Prop := ∀ a ∈ l, ∀ b ∈ l, okS a b
theorem Lam_app {l r : List (Int × Int)} (h1 : Lam l) (h2 : Lam r) (h : ∀ a ∈ l, ∀ b ∈ r, okS a b) : Lam (l ++ r) := by
  intro a ha b hb
  rcases List.mem_append.mp ha with ha | ha
  · rcases List.mem_append.mp hb with hb | hb
    · exact h1 a ha b hb
    · exact h a ha b hb
  · rcases List.mem_append.mp hb with hb | hb
    · have := h b hb a ha
      unfold okS at this ⊢
      omega
    · exact h2 a ha b hb
theorem Lam_1 (e : Int × Int) : Lam [e] := by
  intro a ha b hb
  rw [List.mem_singleton] at ha hb
  subst ha; subst hb
  exact Or.inr (Or.inr (Or.inl ⟨Int.le_refl _, Int.le_refl _⟩))
def sameX (o : pO) : Prop := ∀ e, e ∈ o.1 ↔ e ∈ o.2.1
theorem sameX_a {a b : pO} (h1 : sameX a) (h2 : sameX b) : sameX (pAp a b) := by
  intro e
  show e ∈ a.1 ++ b.1 ↔ e ∈ a.2.1 ++ b.2.1
  rw [List.mem_append, List.mem_append, h1 e, h2 e]
def nX (T : List lxT) (st s : pS) (o : pO) : Prop := st.1 ≤ s.1 ∧ (s.1 < T.length → st.2.1 ≤ tb T st.1 → (s.2.1 ≤ tb T s.1 ∧ st.2.1 ≤ s.2.1 ∧ (∀ e ∈ o.2.1, tb T st.1 ≤ e.1 ∧ e.2 ≤ s.2.1) ∧ Lam o.2.1 ∧ sameX o))
def nY (T : List lxT) (x : Int) (st s : pS) (o : pO) : Prop := st.1 ≤ s.1 ∧ (s.2.1 = st.2.1 ∨ (x, s.2.1) ∈ o.1) ∧ (s.1 < T.length → st.2.1 ≤ tb T st.1 → x ≤ tb T st.1 → (s.2.1 ≤ tb T s.1 ∧ st.2.1 ≤ s.2.1 ∧ (∀ e ∈ o.2.1, ((e.1 = x ∧ st.2.1 ≤ e.2) ∨ tb T st.1 ≤ e.1) ∧ e.2 ≤ s.2.1) ∧ Lam o.2.1 ∧ sameX o))
def pXo (b e : Int) : pO := ([(b, e)], [(b, e)], [], [], [], [])
def pXmo (b e : Int) : pO := ([], [(b, e)], [], [], [], [])
section XN
variable {T : List lxT} (hO : ∀ i j, i < j → j < T.length → te T i ≤ tb T j) (hb : ∀ i, tb T i ≤ te T i)
theorem tb_m (hO : ∀ i j, i < j → j < T.length → te T i ≤ tb T j) (hb : ∀ i, tb T i ≤ te T i) {i j : Nat} (hij : i ≤ j) (hj : j < T.length) : tb T i ≤ tb T j := by
  rcases Nat.lt_or_ge i j with h | h
  · have := hO i j h hj
    have := hb i
    omega
  · rw [show i = j by omega]; exact Int.le_refl _
theorem nX_0 (st : pS) (o : pO) (h1 : o.1 = []) (h2 : o.2.1 = []) : nX T st st o := by
  refine ⟨Nat.le_refl _, fun _ h => ⟨h, Int.le_refl _, ?_, ?_, ?_⟩⟩
  · rw [h2]; exact fun e he => absurd he List.not_mem_nil
  · rw [h2]; exact fun e he => absurd he List.not_mem_nil
  · intro e; rw [h1, h2]
theorem nX_t (hO : ∀ i j, i < j → j < T.length → te T i ≤ tb T j) (hb : ∀ i, tb T i ≤ te T i) {a b c : pS} {o1 o2 : pO} (h1 : nX T a b o1) (h2 : nX T b c o2) : nX T a c (pAp o1 o2) := by
  have a1 := h1.1
  have b1 := h2.1
  refine ⟨by omega, fun hc hv => ?_⟩
  obtain ⟨a2, a3, a4, a5, a6⟩ := h1.2 (by omega) hv
  obtain ⟨b2, b3, b4, b5, b6⟩ := h2.2 hc a2
  have hm := tb_m hO hb a1 (show b.1 < T.length by omega)
  refine ⟨b2, by omega, fun e he => ?_, Lam_app a5 b5 (fun x hx y hy => ?_), sameX_a a6 b6⟩
  · rcases List.mem_append.mp he with he | he
    · have := a4 e he; omega
    · have := b4 e he; omega
  · have := a4 x hx
    have := b4 y hy
    exact Or.inl (by omega)
theorem nX_av (hO : ∀ i j, i < j → j < T.length → te T i ≤ tb T j) (hb : ∀ i, tb T i ≤ te T i) (st : pS) (a b : Nat) (o : pO) (h1 : o.1 = []) (h2 : o.2.1 = []) : nX T st ((pAv T st).1, (pAv T st).2.1, a, b) o := by
  refine ⟨by show st.1 ≤ st.1 + 1; omega, fun hl hv => ?_⟩
  have hl2 : st.1 + 1 < T.length := hl
  have q1 := hO st.1 (st.1 + 1) (Nat.lt_succ_self _) hl2
  have q2 := hb st.1
  have q3 : (pAv T st).2.1 ≤ tb T (st.1 + 1) ∧ st.2.1 ≤ (pAv T st).2.1 := by
    show (if tc T st.1 < 4 ∨ 8 < tc T st.1 then te T st.1 else st.2.1) ≤ _ ∧ _ ≤ (if tc T st.1 < 4 ∨ 8 < tc T st.1 then te T st.1 else st.2.1)
    split <;> omega
  refine ⟨q3.1, q3.2, ?_, ?_, ?_⟩
  · rw [h2]; exact fun e he => absurd he List.not_mem_nil
  · rw [h2]; exact fun e he => absurd he List.not_mem_nil
  · intro e; rw [h1, h2]
/-- a span around all that was read -/
theorem nX_x {st s : pS} {o : pO} (h : nX T st s o) : nX T st s (pAp o (pXo (tb T st.1) s.2.1)) := by
  refine ⟨h.1, fun hl hv => ?_⟩
  obtain ⟨a2, a3, a4, a5, a6⟩ := h.2 hl hv
  refine ⟨a2, a3, fun e he => ?_, Lam_app a5 (Lam_1 _) (fun x hx y hy => ?_), sameX_a a6 (fun e => Iff.rfl)⟩
  · rcases List.mem_append.mp he with he | he
    · exact a4 e he
    · rw [List.mem_singleton.mp he]
      exact ⟨Int.le_refl _, Int.le_refl _⟩
  · rw [List.mem_singleton.mp hy]
    have := a4 x hx
    exact Or.inr (Or.inr (Or.inr this))
theorem nY_0 (x : Int) (st : pS) : nY T x st st pO0 := ⟨Nat.le_refl _, Or.inl rfl, fun _ h _ => ⟨h, Int.le_refl _, fun e he => absurd he List.not_mem_nil, fun e he => absurd he List.not_mem_nil, fun e => Iff.rfl⟩⟩
theorem nY_t (hO : ∀ i j, i < j → j < T.length → te T i ≤ tb T j) (hb : ∀ i, tb T i ≤ te T i) {st s1 s : pS} {o1 o2 : pO} (h1 : nX T st s1 o1) (h2 : nY T (tb T st.1) s1 s o2) : nX T st s (pAp o1 o2) := by
  have a1 := h1.1
  have b1 := h2.1
  refine ⟨by omega, fun hc hv => ?_⟩
  obtain ⟨a2, a3, a4, a5, a6⟩ := h1.2 (by omega) hv
  have hm := tb_m hO hb a1 (show s1.1 < T.length by omega)
  obtain ⟨b2, b3, b4, b5, b6⟩ := h2.2.2 hc a2 hm
  refine ⟨b2, by omega, fun e he => ?_, Lam_app a5 b5 (fun x hx y hy => ?_), sameX_a a6 b6⟩
  · rcases List.mem_append.mp he with he | he
    · have := a4 e he; omega
    · have := b4 e he; omega
  · have := a4 x hx
    have := b4 y hy
    unfold okS
    omega
theorem nY_c (hO : ∀ i j, i < j → j < T.length → te T i ≤ tb T j) (hb : ∀ i, tb T i ≤ te T i) {x : Int} {st s1 s : pS} {o1 o2 : pO} (h1 : nX T st s1 o1) (h2 : nY T x s1 s o2) : nY T x st s (pAp o1 (pAp (pXo x s1.2.1) o2)) := by
  have a1 := h1.1
  have b1 := h2.1
  refine ⟨by omega, Or.inr ?_, fun hc hv hx => ?_⟩
  · refine List.mem_append_right _ ?_
    rcases h2.2.1 with g | g
    · rw [g]; exact List.mem_append_left _ (List.mem_singleton.mpr rfl)
    · exact List.mem_append_right _ g
  obtain ⟨a2, a3, a4, a5, a6⟩ := h1.2 (by omega) hv
  have hm := tb_m hO hb a1 (show s1.1 < T.length by omega)
  obtain ⟨b2, b3, b4, b5, b6⟩ := h2.2.2 hc a2 (by omega)
  refine ⟨b2, by omega, fun e he => ?_, Lam_app a5 (Lam_app (Lam_1 _) b5 (fun u hu y hy => ?_)) (fun u hu y hy => ?_), sameX_a a6 (sameX_a (fun e => Iff.rfl) b6)⟩
  · rcases List.mem_append.mp he with he | he
    · have := a4 e he; omega
    · rcases List.mem_append.mp he with he | he
      · rw [List.mem_singleton.mp he]
        exact ⟨Or.inl ⟨rfl, a3⟩, b3⟩
      · have := b4 e he; omega
  · rw [List.mem_singleton.mp hu]
    have := b4 y hy
    unfold okS
    show s1.2.1 ≤ y.1 ∨ y.2 ≤ x ∨ (x ≤ y.1 ∧ y.2 ≤ s1.2.1) ∨ (y.1 ≤ x ∧ s1.2.1 ≤ y.2)
    omega
  · have := a4 u hu
    rcases List.mem_append.mp hy with hy | hy
    · rw [List.mem_singleton.mp hy]
      unfold okS
      show u.2 ≤ x ∨ s1.2.1 ≤ u.1 ∨ (u.1 ≤ x ∧ s1.2.1 ≤ u.2) ∨ (x ≤ u.1 ∧ u.2 ≤ s1.2.1)
      omega
    · have := b4 y hy
      unfold okS
      omega
/-- the reference's two spans more of a sum -/
theorem nX_m {st s1 s : pS} {o1 o2 : pO} (h : nX T st s (pAp o1 o2)) (h1 : (tb T st.1, s1.2.1) ∈ o1.1) (h2 : s.2.1 = s1.2.1 ∨ (tb T st.1, s.2.1) ∈ o2.1) : nX T st s (pAp o1 (pAp (pXmo (tb T st.1) s1.2.1) (pAp o2 (pXmo (tb T st.1) s.2.1)))) := by
  refine ⟨h.1, fun hl hv => ?_⟩
  obtain ⟨a2, a3, a4, a5, a6⟩ := h.2 hl hv
  have m1 : (tb T st.1, s1.2.1) ∈ o1.1 ++ o2.1 := List.mem_append_left _ h1
  have m2 : (tb T st.1, s.2.1) ∈ o1.1 ++ o2.1 := by
    rcases h2 with g | g
    · rw [g]; exact m1
    · exact List.mem_append_right _ g
  have n1 : (tb T st.1, s1.2.1) ∈ o1.2.1 ++ o2.2.1 := (a6 _).mp m1
  have n2 : (tb T st.1, s.2.1) ∈ o1.2.1 ++ o2.2.1 := (a6 _).mp m2
  have key : ∀ e, e ∈ o1.2.1 ++ ([(tb T st.1, s1.2.1)] ++ (o2.2.1 ++ [(tb T st.1, s.2.1)])) ↔ e ∈ o1.2.1 ++ o2.2.1 := by
    intro e
    constructor
    · intro he
      rcases List.mem_append.mp he with he | he
      · exact List.mem_append_left _ he
      · rcases List.mem_append.mp he with he | he
        · rw [List.mem_singleton.mp he]; exact n1
        · rcases List.mem_append.mp he with he | he
          · exact List.mem_append_right _ he
          · rw [List.mem_singleton.mp he]; exact n2
    · intro he
      rcases List.mem_append.mp he with he | he
      · exact List.mem_append_left _ he
      · exact List.mem_append_right _ (List.mem_append_right _ (List.mem_append_left _ he))
  refine ⟨a2, a3, fun e he => a4 e ((key e).mp he), fun e he f hf => a5 e ((key e).mp he) f ((key f).mp hf), fun e => ?_⟩
  show e ∈ o1.1 ++ ([] ++ (o2.1 ++ [])) ↔ e ∈ o1.2.1 ++ ([(tb T st.1, s1.2.1)] ++ (o2.2.1 ++ [(tb T st.1, s.2.1)]))
  rw [List.nil_append, List.append_nil, key e]
  exact a6 e
theorem nX_cm (hO : ∀ i j, i < j → j < T.length → te T i ≤ tb T j) (hb : ∀ i, tb T i ≤ te T i) {st s3 s5 s6 s7 : pS} {o1 o2 o3 o : pO} (h1 : nX T (pNw st) s3 o1) (h2 : nX T s3 s5 o2) (h3 : nX T s5 s6 o3) (h4 : nX T s6 s7 pO0) (e1 : o.1 = o1.1 ++ o3.1) (e2 : o.2.1 = o1.2.1 ++ o3.2.1) : nX T st s7 o := by
  have ha := nX_t hO hb h1 (nX_t hO hb h2 (nX_t hO hb h3 h4))
  refine ⟨ha.1, fun hl hv => ?_⟩
  obtain ⟨a2, a3, a4, a5, a6⟩ := ha.2 hl hv
  have b1 := h1.1
  have b2 := h2.1
  have b3 := h3.1
  have b4 := h4.1
  obtain ⟨c2, _, _, _, c6⟩ := h1.2 (by omega) hv
  obtain ⟨d2, _, _, _, d6⟩ := h2.2 (by omega) c2
  obtain ⟨f2, _, _, _, f6⟩ := h3.2 (by omega) d2
  have key : ∀ e, e ∈ o.2.1 → e ∈ o1.2.1 ++ (o2.2.1 ++ (o3.2.1 ++ [])) := by
    intro e he
    rw [e2] at he
    rcases List.mem_append.mp he with he | he
    · exact List.mem_append_left _ he
    · exact List.mem_append_right _ (List.mem_append_right _ (List.mem_append_left _ he))
  refine ⟨a2, a3, fun e he => a4 e (key e he), fun e he f hf => a5 e (key e he) f (key f hf), fun e => ?_⟩
  rw [e1, e2, List.mem_append, List.mem_append, c6 e, f6 e]
theorem nX_pp (hO : ∀ i j, i < j → j < T.length → te T i ≤ tb T j) (hb : ∀ i, tb T i ≤ te T i) : ∀ k : Nat, (∀ (ctx : pC) (nest : Nat) (x : Int) (st : pS), pH (pp T k 1 ctx nest x st) (fun s o => nX T st s o ∧ (tb T st.1, s.2.1) ∈ o.1)) ∧ (∀ (ctx : pC) (nest : Nat) (x : Int) (st : pS), pH (pp T k 2 ctx nest x st) (nY T x st)) ∧ (∀ (ctx : pC) (nest : Nat) (x : Int) (st : pS), pH (pp T k 4 ctx nest x st) (nY T x st)) ∧ (∀ (tag : Nat) (ctx : pC) (nest : Nat) (x : Int) (st : pS), tag ≠ 2 → tag ≠ 4 → pH (pp T k tag ctx nest x st) (nX T st)) := by
  have tk : ∀ (c : Int) (s : pS), pH (pTk T c s) (nX T s) := by
    intro c s
    unfold pTk
    split
    · exact nX_av hO hb s _ _ _ rfl rfl
    · exact trivial
  have td : ∀ (c : Int) (n : Nat) (s : pS), pH (pTd T c n s) (nX T s) := by
    intro c n s
    unfold pTd
    split
    · split
      · exact trivial
      · exact nX_av hO hb s _ _ _ rfl rfl
    · exact trivial
  have nm : ∀ (r c b : Int) (s : pS), pH (pNm T r c b s) (nX T s) := by
    intro r c b s
    unfold pNm
    split
    · exact nX_av hO hb s _ _ _ rfl rfl
    · exact trivial
  have ok : ∀ s : pS, pH (pOk s) (nX T s) := fun s => nX_0 s _ rfl rfl
  have bd : ∀ {st : pS} {r : pR} {g : pS → pR}, pH r (nX T st) → (∀ s1, pH (g s1) (nX T s1)) → pH (pBd r g) (nX T st) := fun h1 h2 => pR_bd (fun _ _ _ _ _ => nX_t hO hb) h1 h2
  have sd : ∀ {st : pS} {r : pR} {sort parent : Int} {i j : Nat}, pH r (nX T (pNw st)) → pH (pWr (pSd sort parent i j) r) (nX T st) := fun h => pH_wr (pH_m h (fun s o g => g))
  intro k
  induction k with
  | zero => exact ⟨fun _ _ _ _ => trivial, fun _ _ _ _ => trivial, fun _ _ _ _ => trivial, fun _ _ _ _ _ _ _ => trivial⟩
  | succ k ihh =>
    obtain ⟨i1, i2, i4, iN⟩ := ihh
    have ih : ∀ (tag : Nat) (ctx : pC) (nest : Nat) (x : Int) (st : pS), tag ≠ 2 → tag ≠ 4 → pH (pp T k tag ctx nest x st) (nX T st) := iN
    have A1 : ∀ (ctx : pC) (nest : Nat) (x : Int) (st : pS), pH (pp T (k + 1) 1 ctx nest x st) (fun s o => nX T st s o ∧ (tb T st.1, s.2.1) ∈ o.1) := by
      intro ctx nest x st
      show pH (pBd _ _) _
      refine pH_bd (pH_m (ih 3 _ _ _ _ (by decide) (by decide)) (fun s1 o1 g1 => pH_bd (show pH (pp T k 4 ctx nest (tb T st.1) s1) _ from pH_m (i4 _ _ _ _) (fun s o g4 => ?_))))
      refine ⟨?_, ?_⟩
      · rw [← pAp_as]
        exact nY_t hO hb (nX_x g1) g4
      · refine List.mem_append_right _ ?_
        rcases g4.2.1 with g | g
        · rw [g]; exact List.mem_append_left _ (List.mem_singleton.mpr rfl)
        · exact List.mem_append_right _ g
    refine ⟨A1, fun ctx nest x st => ?_, fun ctx nest x st => ?_, fun tag ctx nest x st t2 t4 => ?_⟩
    · show pH (ite _ _ _) _
      refine pQ_ite _ (fun _ => ?_) (fun _ => nY_0 x st)
      refine pH_bd (pH_m (tk 43 st) (fun s1 o1 g1 => pH_bd (pH_m (ih 1 _ _ _ _ (by decide) (by decide)) (fun s2 o2 g2 => pH_bd (show pH (pp T k 2 ctx nest x s2) _ from pH_m (i2 _ _ _ _) (fun s o g3 => ?_))))))
      rw [← pAp_as]
      exact nY_c hO hb (nX_t hO hb g1 g2) g3
    · show pH (ite _ _ _) _
      refine pQ_ite _ (fun _ => ?_) (fun _ => nY_0 x st)
      exact pH_bd (pH_m (ih 5 _ _ _ _ (by decide) (by decide)) (fun s1 o1 g1 => pH_bd (show pH (pp T k 4 ctx nest x s1) _ from pH_m (i4 _ _ _ _) (fun s o g3 => nY_c hO hb g1 g3))))
    · match tag, t2, t4 with
      | 0, _, _ =>
        show pH (ite _ _ _) _
        refine pQ_ite _ (fun _ => ?_) (fun _ => ?_)
        · refine pH_bd (pH_m (td 25 nest st) (fun s1 o1 g1 => pH_bd (pH_m (sd (bd (pQ_ite _ (fun _ => ih 7 _ _ _ _ (by decide) (by decide)) (fun _ => ok _)) (fun s2 => bd (tk 58 s2) (fun s3 => ih 0 _ _ _ _ (by decide) (by decide))))) (fun s4 o4 g4 => ?_))))
          show nX T st s4 (pAp o1 (pAp o4 (pXo (tb T st.1) s4.2.1)))
          rw [← pAp_as]
          exact nX_x (nX_t hO hb g1 g4)
        · refine pH_bd (pH_m (i1 _ _ _ _) (fun s1 o1 g1 => pH_bd (show pH (pBd (pp T k 2 ctx nest (tb T st.1) s1) _) _ from pH_bd (pH_m (i2 _ _ _ _) (fun s3 o3 g3 => ?_)))))
          show nX T st s3 (pAp o1 (pAp (pXmo (tb T st.1) s1.2.1) (pAp o3 (pXmo (tb T st.1) s3.2.1))))
          exact nX_m (nY_t hO hb g1.1 g3) g1.2 g3.2.1
      | 1, _, _ => exact pH_m (A1 _ _ _ _) (fun s o g => g.1)
      | 2, h, _ => exact absurd rfl h
      | 3, _, _ =>
        show pH (ite _ _ _) _
        refine pQ_ite _ (fun _ => nm _ _ _ _) (fun _ => pQ_ite _ (fun _ => tk 1 st) (fun _ => pQ_ite _ (fun _ => ?_) (fun _ => pQ_ite _ (fun _ => pQ_ite _ (fun _ => ?_) (fun _ => ?_)) (fun _ => trivial))))
        · exact bd (td 40 nest st) (fun s1 => bd (pQ_ite _ (fun _ => bd (nm _ _ _ _) (fun s2 => tk 128 s2)) (fun _ => ok _)) (fun s3 => bd (ih 0 _ _ _ _ (by decide) (by decide)) (fun s4 => tk 41 s4)))
        · refine pH_cm (pH_m (bd (td 91 nest (pNw st)) (fun s1 => bd (ih 0 _ _ _ _ (by decide) (by decide)) (fun s2 => tk 20 s2))) (fun s3 o1 g1 => pH_m (bd (nm _ _ _ s3) (fun s4 => tk 24 s4)) (fun s5 o2 g2 => pH_m (ih 0 _ _ _ s5 (by decide) (by decide)) (fun s6 o3 g3 => pH_m (pH_and (tk 93 s6) pTk_o) (fun s7 o4 g4 => ?_)))))
          exact nX_cm hO hb g1 g2 g3 (by rw [← g4.2]; exact g4.1) rfl rfl
        · exact bd (td 91 nest st) (fun s1 => bd (ih 0 _ _ _ _ (by decide) (by decide)) (fun s2 => tk 93 s2))
      | 4, _, h => exact absurd rfl h
      | 5, _, _ =>
        show pH (pBd _ _) _
        exact bd (td 40 nest st) (fun s1 => pQ_ite _ (fun _ => tk 41 s1) (fun _ => bd (ih 0 _ _ _ _ (by decide) (by decide)) (fun s2 => bd (ih 6 _ _ _ _ (by decide) (by decide)) (fun s3 => tk 41 s3))))
      | 6, _, _ =>
        show pH (ite _ _ _) _
        exact pQ_ite _ (fun _ => bd (tk 44 st) (fun s1 => bd (ih 0 _ _ _ _ (by decide) (by decide)) (fun s2 => ih 6 _ _ _ _ (by decide) (by decide)))) (fun _ => ok _)
      | 7, _, _ =>
        show pH (pBd _ _) _
        exact bd (nm _ _ _ _) (fun s1 => ih 8 _ _ _ _ (by decide) (by decide))
      | 8, _, _ =>
        show pH (ite _ _ _) _
        exact pQ_ite _ (fun _ => bd (tk 44 st) (fun s1 => bd (nm _ _ _ _) (fun s2 => ih 8 _ _ _ _ (by decide) (by decide)))) (fun _ => ok _)
      | 9, _, _ =>
        show pH (pBd _ _) _
        refine bd ?_ (fun s1 => tk 4 s1)
        exact pQ_ite _ (fun _ => tk 27 st) (fun _ => pQ_ite _ (fun _ => bd (tk 21 st) (fun s1 => ih 7 _ _ _ _ (by decide) (by decide))) (fun _ => pQ_ite _ (fun _ => bd (tk 26 st) (fun s1 => ih 7 _ _ _ _ (by decide) (by decide))) (fun _ => pQ_ite _ (fun _ => bd (tk 18 st) (fun s1 => nm _ _ _ _)) (fun _ => pQ_ite _ (fun _ => bd (tk 23 st) (fun s1 => nm _ _ _ _)) (fun _ => pQ_ite _ (fun _ => bd (show pH (pOut _ st) (nX T st) from nX_0 st _ rfl rfl) (fun s0 => bd (tk 28 s0) (fun s1 => pQ_ite _ (fun _ => ok _) (fun _ => ih 0 _ _ _ _ (by decide) (by decide))))) (fun _ => pQ_ite _ (fun _ => bd (nm _ _ _ _) (fun s1 => bd (tk 61 s1) (fun s2 => ih 0 _ _ _ _ (by decide) (by decide)))) (fun _ => ih 0 _ _ _ _ (by decide) (by decide))))))))
      | 10, _, _ =>
        rw [pp]
        refine pH_bd (pH_m (P1 := nX T st) ?_ (fun s1 o1 g1 => nX_x g1))
        refine pQ_ite _ (fun _ => ?_) (fun _ => pQ_ite _ (fun _ => ?_) (fun _ => pQ_ite _ (fun _ => ?_) (fun _ => pQ_ite _ (fun _ => ?_) (fun _ => pQ_ite _ (fun _ => ?_) (fun _ => ih 9 _ _ _ _ (by decide) (by decide))))))
        · exact bd (tk 17 st) (fun s1 => bd (nm _ _ _ _) (fun s2 => bd (tk 40 s2) (fun s3 => sd (bd (pQ_ite _ (fun _ => ih 7 _ _ _ _ (by decide) (by decide)) (fun _ => ok _)) (fun s4 => bd (tk 41 s4) (fun s5 => ih 11 _ _ _ _ (by decide) (by decide)))))))
        · exact bd (tk 16 st) (fun s1 => bd (nm _ _ _ _) (fun s2 => sd (ih 11 _ _ _ _ (by decide) (by decide))))
        · exact bd (tk 22 st) (fun s1 => bd (ih 0 _ _ _ _ (by decide) (by decide)) (fun s2 => bd (ih 11 _ _ _ _ (by decide) (by decide)) (fun s3 => pQ_ite _ (fun _ => bd (tk 19 s3) (fun s4 => ih 11 _ _ _ _ (by decide) (by decide))) (fun _ => ok _))))
        · exact bd (tk 29 st) (fun s1 => bd (ih 0 _ _ _ _ (by decide) (by decide)) (fun s2 => ih 11 _ _ _ _ (by decide) (by decide)))
        · exact bd (tk 20 st) (fun s1 => bd (nm _ _ _ _) (fun s2 => bd (tk 24 s2) (fun s3 => bd (ih 0 _ _ _ _ (by decide) (by decide)) (fun s4 => ih 11 _ _ _ _ (by decide) (by decide)))))
      | 11, _, _ =>
        show pH (pBd _ _) _
        exact bd (td 58 nest st) (fun s1 => pQ_ite _ (fun _ => bd (tk 4 s1) (fun s2 => bd (tk 5 s2) (fun s3 => bd (ih 10 _ _ _ _ (by decide) (by decide)) (fun s4 => ih 12 _ _ _ _ (by decide) (by decide))))) (fun _ => ih 9 _ _ _ _ (by decide) (by decide)))
      | 12, _, _ =>
        show pH (ite _ _ _) _
        exact pQ_ite _ (fun _ => tk 6 st) (fun _ => bd (ih 10 _ _ _ _ (by decide) (by decide)) (fun s1 => ih 12 _ _ _ _ (by decide) (by decide)))
      | 13, _, _ =>
        show pH (ite _ _ _) _
        exact pQ_ite _ (fun _ => ok _) (fun _ => bd (ih 10 _ _ _ _ (by decide) (by decide)) (fun s1 => ih 13 _ _ _ _ (by decide) (by decide)))
      | n + 14, _, _ => exact trivial
end XN
