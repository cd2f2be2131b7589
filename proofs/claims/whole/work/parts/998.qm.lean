/-! The reference's calls. -/
def mJ (t : List Int32) (s : zS) : Prop := tM t s ∧ mK s ∧ ((s.1 22).toInt = 0 → mF t s)
section QM
variable (xs : Option (List Int32)) (d : Nat) {t : List Int32} {s : zS}
theorem m_go (hd : 9 ≤ d) (ht : tOk t) (hI : mJ t s) (Q : zS → Prop) (hQ : ∀ s1, mJ t s1 → mF t s1 → zE mEF mEA s s1 → Q s1) : zWv xs d 136 0 [(0, .ref 32)] s Q :=
  ct_136 xs d hd ht hI.1 hI.2.1 hI.2.2 Q (fun s1 k1 k2 _ k4 z => hQ s1 ⟨k1, k2, fun _ => k4⟩ k4 z)
/-- refused or accepted -/
theorem m_acc (ht : tOk t) (hF : mF t s) (P : Prop) (h1 : ∀ e, pr t = .inl e → ¬ (s.1 28).toInt = 0 → (s.1 28).toInt = e.1 → (∃ i : Nat, i < (lx t).length ∧ (s.1 29).toInt = i ∧ tb (lx t) i = e.2) → P) (h2 : ∀ st o, pr t = .inr (st, o) → Acc t o → (s.1 28).toInt = 0 → eR o.2.1 s → nR (lx t) o.2.2.1 o.2.2.2.2.1 s → eE (erO t o) s → P) : P := by
  have hpF := pr_F ht
  cases hr : pr t with
  | inl e =>
    rw [hr] at hpF
    obtain ⟨a, b⟩ := hF.2.1 e hr
    exact h1 e hr (fun h => absurd (a.symm.trans h) hpF) a b
  | inr q =>
    obtain ⟨st, o⟩ := q
    obtain ⟨a, b, c, e⟩ := hF.2.2 st o hr
    exact h2 st o hr (pr_ok ht hr) a b c e
theorem mq_185 (hd : 10 ≤ d) (ht : tOk t) (hI : mJ t s) (Q : Int32 → zS → Prop) (hQ : ∀ s1, mJ t s1 → zE mEF mEA s s1 → Q (qTokens t) s1) : zWi xs d 185 0 [(0, .ref 32)] s Q := by
  obtain ⟨d, rfl⟩ : ∃ e, d = e + 1 := ⟨d - 1, by omega⟩
  refine vc_185_0 xs d s Q (m_go xs d (by omega) ht hI _ (fun s1 g1 g2 z => ?_))
  rw [zi_e g2.1.1]
  exact hQ s1 g1 z
theorem mq_186 (hd : 10 ≤ d) (ht : tOk t) (hI : mJ t s) (a : Int32) (Q : Int32 → zS → Prop) (hQ : ∀ s1, mJ t s1 → zE mEF mEA s s1 → Q (qToken t a) s1) : zWi xs d 186 0 [(0, .ref 32), (1, .int a)] s Q := by
  obtain ⟨d, rfl⟩ : ∃ e, d = e + 1 := ⟨d - 1, by omega⟩
  refine vc_186_0 xs d s a Q (m_go xs d (by omega) ht hI _ (fun s1 g1 g2 z => ?_))
  have hQ1 := hQ s1 g1 z
  have hcnt : (s1.1 23).toInt = ((lx t).length : Int) := g2.1.1
  rw [hcnt]
  unfold qToken at hQ1
  refine ⟨fun h => ?_, fun h => ⟨fun h2 => ?_, fun h2 => ?_⟩⟩
  · rw [if_pos (Or.inl h)] at hQ1; exact hQ1
  · rw [if_neg (by omega)] at hQ1
    obtain ⟨c1, c2, c3, _, c5, c6, c7, _⟩ := mk_c g2.1 (i := a.toInt.toNat) (by omega)
    rw [show ((a.toInt.toNat : Nat) : Int) = a.toInt by omega] at c1 c2 c3 c5 c6 c7
    rw [zi_e c5, zi_e c6, zi_e c7]
    exact ⟨c1, c2, c3, hQ1⟩
  · rw [if_pos (Or.inr h2)] at hQ1; exact hQ1
theorem mq_187 (hd : 10 ≤ d) (ht : tOk t) (hI : mJ t s) (Q : Int32 → zS → Prop) (hQ : ∀ s1, mJ t s1 → zE mEF mEA s s1 → Q (qCheck t) s1) : zWi xs d 187 0 [(0, .ref 32)] s Q := by
  obtain ⟨d, rfl⟩ : ∃ e, d = e + 1 := ⟨d - 1, by omega⟩
  refine vc_187_0 xs d s Q (m_go xs d (by omega) ht hI _ (fun s1 g1 g2 z => m_acc ht g2 _ (fun e hr hne a b => ⟨fun h => absurd h hne, fun _ => ?_⟩) (fun st o hr hc h0 a b c => ⟨fun _ => ?_, fun h => absurd h0 h⟩)))
  · have := hQ s1 g1 z
    unfold qCheck at this
    rw [hr] at this
    rw [zi_e a]; exact this
  · have := hQ s1 g1 z
    unfold qCheck at this
    rw [hr] at this
    rw [zi_e c.1]; exact this
/-- the error's token is one of the text -/
theorem er_lt {o : pO} (hA : Acc t o) (h : (erO t o).1 ≠ 0) : 0 ≤ (erO t o).2 ∧ (erO t o).2 < ((lx t).length : Int) := by
  have key : ∀ (is : List Nat) (p : Int × Int), (∀ i ∈ is, i < (lx t).length) → (p.1 ≠ 0 → 0 ≤ p.2 ∧ p.2 < ((lx t).length : Int)) → (feR is p).1 ≠ 0 → 0 ≤ (feR is p).2 ∧ (feR is p).2 < ((lx t).length : Int) := by
    intro is
    induction is with
    | nil => intro p _ h h2; exact h h2
    | cons i is ih =>
      intro p hi hp h2
      refine ih (nt p (i : Int) 7) (fun j hj => hi j (List.mem_cons_of_mem _ hj)) (fun h3 => ?_) h2
      unfold nt at h3 ⊢
      split
      · have := hi i (List.mem_cons_self ..)
        exact ⟨by show (0 : Int) ≤ (i : Int); omega, by show (i : Int) < _; omega⟩
      · rename_i hn
        exact hp (fun e => hn (Or.inl e))
  refine key _ _ (fun i hi => (strT_mm hi).1) (fun h2 => ?_) h
  rw [feL_ef _ _ hA.1.inc] at h2 ⊢
  cases he : ef t (lx t) o.2.2.1 o.2.2.2.2.1 0 o.2.2.2.2.1 with
  | none => rw [he] at h2; exact absurd rfl h2
  | some q =>
    obtain ⟨n, i⟩ := q
    obtain ⟨_, x, hx, hxi⟩ := ef_m _ _ n i he
    have := (hA.1.tok x hx).1
    exact ⟨by show (0 : Int) ≤ (i : Int); omega, by show (i : Int) < _; omega⟩
theorem mq_188 (hd : 10 ≤ d) (ht : tOk t) (hI : mJ t s) (Q : Int32 → zS → Prop) (hQ : ∀ s1, mJ t s1 → zE mEF mEA s s1 → Q (qPlace t) s1) : zWi xs d 188 0 [(0, .ref 32)] s Q := by
  obtain ⟨d, rfl⟩ : ∃ e, d = e + 1 := ⟨d - 1, by omega⟩
  refine vc_188_0 xs d s Q (m_go xs d (by omega) ht hI _ (fun s1 g1 g2 z => m_acc ht g2 _ (fun e hr hne a b => ⟨fun h => absurd h hne, fun _ => ?_⟩) (fun st o hr hc h0 a b c => ⟨fun _ => ⟨fun h34 => ?_, fun h34 => ?_⟩, fun h => absurd h0 h⟩)))
  · have := hQ s1 g1 z
    unfold qPlace at this
    rw [hr] at this
    obtain ⟨i, i1, i2, i3⟩ := b
    obtain ⟨_, c2, _, _, _, c6, _⟩ := mk_c g2.1 i1
    rw [i2]
    rw [zi_e (c6.trans i3)]
    exact ⟨c2, this⟩
  · have := hQ s1 g1 z
    unfold qPlace pE2 at this
    rw [hr] at this
    have e0 : (erO t o).1 = 0 := c.1.symm.trans h34
    have t2 : Q (zI (if (erO t o).1 = 0 then -1 else tb (lx t) (erO t o).2.toNat)) s1 := this
    rw [if_pos e0] at t2
    exact t2
  · have := hQ s1 g1 z
    unfold qPlace pE2 at this
    rw [hr] at this
    have e0 : (erO t o).1 ≠ 0 := fun e => h34 (c.1.trans e)
    have t2 : Q (zI (if (erO t o).1 = 0 then -1 else tb (lx t) (erO t o).2.toNat)) s1 := this
    rw [if_neg e0] at t2
    have hl := er_lt hc e0
    obtain ⟨_, c2, _, _, _, c6, _⟩ := mk_c g2.1 (i := (erO t o).2.toNat) (by omega)
    rw [show (((erO t o).2.toNat : Nat) : Int) = (s1.1 33).toInt by rw [c.2]; omega] at c2 c6
    rw [zi_e c6]
    exact ⟨c2, t2⟩
theorem mq_189 (hd : 10 ≤ d) (ht : tOk t) (hI : mJ t s) (a1 a2 : Int32) (Q : Int32 → zS → Prop) (hQ : ∀ s1, mJ t s1 → zE mEF mEA s s1 → Q (qExtent t a1 a2) s1) : zWi xs d 189 0 [(0, .ref 32), (1, .int a1), (2, .int a2)] s Q := by
  obtain ⟨d, rfl⟩ : ∃ e, d = e + 1 := ⟨d - 1, by omega⟩
  refine vc_189_0 xs d s a1 a2 Q (m_go xs d (by omega) ht hI _ (fun s1 g1 g2 z => m_acc ht g2 _ (fun e hr hne a b => ?_) (fun st o hr hc h0 a b c => ?_)))
  · have := hQ s1 g1 z
    unfold qExtent at this
    rw [wA_l hr] at this
    exact vc_189_9 xs d s1 a1 a2 (-1) 0 Q ⟨fun _ => ⟨fun h => absurd h hne, fun _ => this⟩, fun _ => this⟩
  · have := hQ s1 g1 z
    unfold qExtent at this
    rw [wA_r hr] at this
    obtain ⟨_, _, _, _, _, _, _, hsm, hlm, hxb⟩ := hc
    refine ct_189l xs d a hxb h0 a1 a2 Q o.2.1 0 (-1) 0 List.drop_zero rfl (fun v hv => ?_)
    rw [show ((-1 : Int32)).toInt = -1 by decide, ← x_eq hsm hlm] at hv
    rw [zi_e hv]; exact this
theorem mq_191 (hd : 10 ≤ d) (ht : tOk t) (hI : mJ t s) (Q : Int32 → zS → Prop) (hQ : ∀ s1, mJ t s1 → zE mEF mEA s s1 → Q (qScopes t) s1) : zWi xs d 191 0 [(0, .ref 32)] s Q := by
  obtain ⟨d, rfl⟩ : ∃ e, d = e + 1 := ⟨d - 1, by omega⟩
  refine vc_191_0 xs d s Q (m_go xs d (by omega) ht hI _ (fun s1 g1 g2 z => m_acc ht g2 _ (fun e hr hne a b => ⟨fun h => absurd h hne, fun _ => ?_⟩) (fun st o hr hc h0 a b c => ⟨fun _ => ?_, fun h => absurd h0 h⟩)))
  · have := hQ s1 g1 z
    unfold qScopes at this
    rw [wA_l hr] at this
    exact this
  · have := hQ s1 g1 z
    unfold qScopes at this
    rw [wA_r hr] at this
    have h31 : (s1.1 31).toInt = (o.2.2.1.length : Int) + 1 := by rw [b.2.1.1, List.length_cons]; omega
    rw [zi_e h31]; exact this
theorem mq_192 (hd : 10 ≤ d) (ht : tOk t) (hI : mJ t s) (a1 : Int32) (Q : Int32 → zS → Prop) (hQ : ∀ s1, mJ t s1 → zE mEF mEA s s1 → Q (qScope t a1) s1) : zWi xs d 192 0 [(0, .ref 32), (1, .int a1)] s Q := by
  obtain ⟨d, rfl⟩ : ∃ e, d = e + 1 := ⟨d - 1, by omega⟩
  refine vc_192_0 xs d s a1 Q (m_go xs d (by omega) ht hI _ (fun s1 g1 g2 z => m_acc ht g2 _ (fun e hr hne a b => ⟨fun h => absurd h hne, fun _ => ?_⟩) (fun st o hr hc h0 a b c => ⟨fun _ => ?_, fun h => absurd h0 h⟩)))
  · have := hQ s1 g1 z
    unfold qScope at this
    rw [wA_l hr] at this
    exact this
  · have := hQ s1 g1 z
    unfold qScope at this
    rw [wA_r hr] at this
    have h31 : (s1.1 31).toInt = (o.2.2.1.length : Int) + 1 := by rw [b.2.1.1, List.length_cons]; omega
    rw [h31]
    refine ⟨fun h => ?_, fun h => ⟨fun h2 => ?_, fun h2 => ?_⟩⟩
    · rw [if_pos (Or.inl h)] at this; exact this
    · rw [if_neg (by omega)] at this
      obtain ⟨k1, k2⟩ := nR_s b a1 (by omega) (by omega)
      refine ⟨k1, ct_167 xs d (by omega) b hc.1 a1 (by omega) (by omega) _ (fun v hv => ?_)⟩
      rw [zi_e k2, zi_e hv]; exact this
    · rw [if_pos (Or.inr h2)] at this; exact this
theorem mq_193 (hd : 10 ≤ d) (ht : tOk t) (hI : mJ t s) (Q : Int32 → zS → Prop) (hQ : ∀ s1, mJ t s1 → zE mEF mEA s s1 → Q (qNames t) s1) : zWi xs d 193 0 [(0, .ref 32)] s Q := by
  obtain ⟨d, rfl⟩ : ∃ e, d = e + 1 := ⟨d - 1, by omega⟩
  refine vc_193_0 xs d s Q (m_go xs d (by omega) ht hI _ (fun s1 g1 g2 z => m_acc ht g2 _ (fun e hr hne a b => ⟨fun h => absurd h hne, fun _ => ?_⟩) (fun st o hr hc h0 a b c => ⟨fun _ => ?_, fun h => absurd h0 h⟩)))
  · have := hQ s1 g1 z
    unfold qNames at this
    rw [wA_l hr] at this
    exact this
  · have := hQ s1 g1 z
    unfold qNames at this
    rw [wA_r hr] at this
    rw [zi_e b.2.2.2.1]; exact this
/-- begin[name[o]] -/
theorem nm_b {L : List pSc} {C : List pOc} (hN : nR (lx t) L C s) (hA : Ax (lx t) L C) {j : Nat} {x : pOc} (hx : C[j]? = some x) {i : Int} (hi : i = (j : Int)) : zX (s.2 51) i ∧ zX (s.2 35) (zg (s.2 51) i).toInt ∧ zX (s.2 36) (zg (s.2 51) i).toInt ∧ (zg (s.2 35) (zg (s.2 51) i).toInt).toInt = tb (lx t) x.1 ∧ (zg (s.2 36) (zg (s.2 51) i).toInt).toInt = te (lx t) x.1 := by
  subst hi
  obtain ⟨n1, n2⟩ := nR_nm hN hx
  have hm : x ∈ C := List.mem_of_getElem? hx
  obtain ⟨_, c2, c3, _, _, c6, c7, _⟩ := mk_c hN.1 (hA.tok x hm).1
  rw [n2]
  exact ⟨n1, c2, c3, c6, c7⟩
theorem mq_194 (hd : 10 ≤ d) (ht : tOk t) (hI : mJ t s) (a1 : Int32) (Q : Int32 → zS → Prop) (hQ : ∀ s1, mJ t s1 → zE mEF mEA s s1 → Q (qName t a1) s1) : zWi xs d 194 0 [(0, .ref 32), (1, .int a1)] s Q := by
  obtain ⟨d, rfl⟩ : ∃ e, d = e + 1 := ⟨d - 1, by omega⟩
  refine vc_194_0 xs d s a1 Q (m_go xs d (by omega) ht hI _ (fun s1 g1 g2 z => m_acc ht g2 _ (fun e hr hne a b => ⟨fun h => absurd h hne, fun _ => ?_⟩) (fun st o hr hc h0 a b c => ⟨fun _ => ?_, fun h => absurd h0 h⟩)))
  · have := hQ s1 g1 z
    unfold qName at this
    rw [wA_l hr] at this
    exact this
  · have := hQ s1 g1 z
    unfold qName at this
    rw [wA_r hr] at this
    rw [b.2.2.2.1]
    refine ⟨fun h => ?_, fun h => ⟨fun h2 => ?_, fun h2 => ?_⟩⟩
    · rw [if_pos (Or.inl h)] at this; exact this
    · rw [if_neg (by omega)] at this
      obtain ⟨x, hx⟩ := ge_x (C := o.2.2.2.2.1) (j := a1.toInt.toNat) (by omega)
      obtain ⟨k1, k2, _, k4, _⟩ := nm_b b hc.1 hx (i := a1.toInt) (by omega)
      rw [tkA_x hx] at this
      rw [zi_e k4]
      exact ⟨k1, k2, this⟩
    · rw [if_pos (Or.inr h2)] at this; exact this
/-- fine -/
theorem ct_182 (hd : 10 ≤ d) (ht : tOk t) (hI : mJ t s) (Q : Int32 → zS → Prop) (h1 : ∀ s1, mJ t s1 → mF t s1 → zE mEF mEA s s1 → (∀ p f, wF t (pr t) p f = -1) → (∀ st o, pr t = .inr (st, o) → (erO t o).1 ≠ 0) → Q 0 s1) (h2 : ∀ (s1 : zS) (st : pS) (o : pO), mJ t s1 → mF t s1 → zE mEF mEA s s1 → pr t = .inr (st, o) → Acc t o → (erO t o).1 = 0 → nR (lx t) o.2.2.1 o.2.2.2.2.1 s1 → Q 1 s1) : zWi xs d 182 0 [(0, .ref 32)] s Q := by
  obtain ⟨d, rfl⟩ : ∃ e, d = e + 1 := ⟨d - 1, by omega⟩
  refine vc_182_0 xs d s Q (m_go xs d (by omega) ht hI _ (fun s1 g1 g2 z => m_acc ht g2 _ (fun e hr hne a b => ⟨fun h => absurd h hne, fun _ => h1 s1 g1 g2 z (fun p f => ?_) (fun st o hr2 => by rw [hr] at hr2; cases hr2)⟩) (fun st o hr hc h0 a b c => ⟨fun _ => ⟨fun h34 => h2 s1 st o g1 g2 z hr hc (c.1.symm.trans h34) b, fun h34 => h1 s1 g1 g2 z (fun p f => ?_) (fun st2 o2 hr2 e => ?_)⟩, fun h => absurd h0 h⟩)))
  · unfold wF; exact wA_l hr _
  · unfold wF
    rw [wA_r hr]
    unfold fnd
    rw [if_neg (fun e => h34 (c.1.trans e))]
  · rw [hr] at hr2
    cases hr2
    exact h34 (c.1.trans e)
theorem ct_183l {L : List pSc} {C : List pOc} (hN : nR (lx t) L C s) (hA : Ax (lx t) L C) (a1 : Int32) (Q : Int32 → zS → Prop) : ∀ (B : List pOc) (j : Nat) (a3 : Int32), C.drop j = B → a3.toInt = j → (∀ v : Int32, (v = -1 ∧ B.find? (atP (lx t) a1.toInt) = none) ∨ (∃ (i : Nat) (x : pOc), v.toInt = i ∧ C[i]? = some x ∧ B.find? (atP (lx t) a1.toInt) = some x) → Q v s) → zWi xs (d + 1) 183 7 [(0, .ref 32), (1, .int a1), (2, .int 1), (3, .int a3)] s Q := by
  have hcl : C.length ≤ 200 := by have := hN.2.2.2.2.2.1; rw [List.length_map] at this; exact this
  have h32 : (s.1 32).toInt = (C.length : Int) := hN.2.2.2.1
  intro B
  induction B with
  | nil =>
    intro j a3 hdr h3 hQ
    have := dr_0 hdr
    exact vc_183_7 xs d s a1 1 a3 Q ⟨fun h => by omega, fun _ => hQ (-1) (Or.inl ⟨rfl, rfl⟩)⟩
  | cons x B ih =>
    intro j a3 hdr h3 hQ
    obtain ⟨hx, hd2, hlt⟩ := dr_x hdr
    obtain ⟨c1, c2, c3, c6, c7⟩ := nm_b hN hA hx h3
    have e3 : (a3 + 1).toInt = ((j + 1 : Nat) : Int) := ti_inc h3 (by omega)
    have no : atP (lx t) a1.toInt x = false → zWi xs (d + 1) 183 7 [(0, .ref 32), (1, .int a1), (2, .int 1), (3, .int (a3 + 1))] s Q := fun hn => ih (j + 1) (a3 + 1) hd2 e3 (fun v hv => hQ v (by rw [List.find?_cons_of_neg (by rw [hn]; decide)]; exact hv))
    refine vc_183_7 xs d s a1 1 a3 Q ⟨fun _ => ⟨fun h => absurd h (by decide), fun _ => ?_⟩, fun h => by omega⟩
    rw [c6, c7]
    refine ⟨c1, c2, fun h => no ?_, fun h => ⟨c3, fun hh => hQ a3 (Or.inr ⟨j, x, h3, hx, ?_⟩), fun hh => no ?_⟩⟩
    · unfold atP; rw [decide_eq_false (show ¬ tb (lx t) x.1 ≤ a1.toInt by omega)]; rfl
    · rw [List.find?_cons_of_pos]
      unfold atP
      rw [decide_eq_true (show tb (lx t) x.1 ≤ a1.toInt by omega), decide_eq_true hh]; rfl
    · unfold atP; rw [decide_eq_false hh, Bool.and_false]
/-- occurrence -/
theorem ct_183 (hd : 11 ≤ d) (ht : tOk t) (hI : mJ t s) (a1 : Int32) (Q : Int32 → zS → Prop) (h1 : ∀ s1, mJ t s1 → mF t s1 → zE mEF mEA s s1 → (∀ f, wF t (pr t) a1.toInt f = -1) → Q (-1) s1) (h2 : ∀ (s1 : zS) (st : pS) (o : pO) (i : Nat) (x : pOc) (v : Int32), mJ t s1 → mF t s1 → zE mEF mEA s s1 → pr t = .inr (st, o) → Acc t o → (erO t o).1 = 0 → nR (lx t) o.2.2.1 o.2.2.2.2.1 s1 → v.toInt = i → o.2.2.2.2.1[i]? = some x → (∀ f, wF t (pr t) a1.toInt f = f o x) → Q v s1) : zWi xs d 183 0 [(0, .ref 32), (1, .int a1)] s Q := by
  obtain ⟨d, rfl⟩ : ∃ e, d = e + 1 := ⟨d - 1, by omega⟩
  refine vc_183_0 xs d s a1 Q (ct_182 xs d (by omega) ht hI _ (fun s1 g1 g2 z hn _ => vc_183_7 xs d s1 a1 0 0 Q ⟨fun _ => ⟨fun _ => h1 s1 g1 g2 z (hn _), fun h => absurd rfl h⟩, fun _ => h1 s1 g1 g2 z (hn _)⟩) (fun s1 st o g1 g2 z hr hc he hN => ?_))
  refine ct_183l xs d hN hc.1 a1 Q o.2.2.2.2.1 0 0 List.drop_zero rfl (fun v hv => ?_)
  have hw : ∀ f, wF t (pr t) a1.toInt f = (match o.2.2.2.2.1.find? (atP (lx t) a1.toInt) with
    | none => -1
    | some x => f o x) := by
    intro f
    unfold wF
    rw [wA_r hr]
    unfold fnd
    rw [if_pos he]
    cases o.2.2.2.2.1.find? (atP (lx t) a1.toInt) <;> rfl
  rcases hv with ⟨k1, k2⟩ | ⟨i, x, k1, k2, k3⟩
  · rw [k1]
    exact h1 s1 g1 g2 z (fun f => by rw [hw, k2])
  · exact h2 s1 st o i x v g1 g2 z hr hc he hN k1 k2 (fun f => by rw [hw, k3])
theorem mq_195 (hd : 12 ≤ d) (ht : tOk t) (hI : mJ t s) (a : Int32) (Q : Int32 → zS → Prop) (hQ : ∀ s1, mJ t s1 → zE mEF mEA s s1 → Q (qResolve t a) s1) : zWi xs d 195 0 [(0, .ref 32), (1, .int a)] s Q := by
  obtain ⟨d, rfl⟩ : ∃ e, d = e + 1 := ⟨d - 1, by omega⟩
  refine vc_195_0 xs d s a Q (ct_183 xs d (by omega) ht hI a _ (fun s1 g1 g2 z hn => ⟨fun _ => ?_, fun h => absurd (by decide) h⟩) (fun s1 st o i x v g1 g2 z hr hc he hN hv hx hw => ⟨fun h => by omega, fun _ => ct_181 xs d (by omega) hN hc.1 g1.1 (tkB_lx ht) hx v hv _ (fun u hu => ?_)⟩))
  · have := hQ s1 g1 z
    unfold qResolve at this
    rw [hn] at this
    exact this
  · have := hQ s1 g1 z
    unfold qResolve at this
    rw [hw] at this
    rw [zi_e hu]; exact this
/-- sameVariable -/
theorem ct_184 {L : List pSc} {C : List pOc} (hd : 7 ≤ d) (ht : tOk t) (hM : tM t s) (hN : nR (lx t) L C s) (hA : Ax (lx t) L C) (hL : (L.length : Int) + 1 ≤ 40) {i j : Nat} {x y : pOc} (hx : C[i]? = some x) (hy : C[j]? = some y) (a1 a2 : Int32) (h1 : a1.toInt = i) (h2 : a2.toInt = j) (Q : Int32 → zS → Prop) (hQ : Q (zb (sV t (lx t) L C x y)) s) : zWi xs d 184 0 [(0, .ref 32), (1, .int a1), (2, .int a2)] s Q := by
  obtain ⟨d, rfl⟩ : ∃ e, d = e + 1 := ⟨d - 1, by omega⟩
  obtain ⟨n1, n2⟩ := nR_nm hN hx
  obtain ⟨m1, m2⟩ := nR_nm hN hy
  have hmx : x ∈ C := List.mem_of_getElem? hx
  have hmy : y ∈ C := List.mem_of_getElem? hy
  unfold sV at hQ
  refine vc_184_0 xs d s a1 a2 Q ?_
  rw [h1, h2]
  refine ⟨n1, m1, ct_170 xs d hN.1 hM (tkB_lx ht) (hA.tok x hmx).1 (hA.tok y hmy).1 _ _ n2 m2 _ ?_⟩
  cases he : eqT t (lx t) x.1 y.1 with
  | false =>
    rw [he, Bool.false_and] at hQ
    exact ⟨fun _ => hQ, fun h => absurd rfl h⟩
  | true =>
    rw [he, Bool.true_and] at hQ
    refine ⟨fun h => absurd h (by decide), fun _ => ct_179 xs d (by omega) hN hA hM (tkB_lx ht) hx a1 h1 _ (fun v hv => ct_179 xs d (by omega) hN hA hM (tkB_lx ht) hy a2 h2 _ (fun w hw => ?_))⟩
    have b1 := mnt_b (t := t) hA hL hmx
    have b2 := mnt_b (t := t) hA hL hmy
    rw [(ti_64 hv (by omega) (by omega)).2, (ti_64 hw (by omega) (by omega)).2]
    refine ⟨fun h => ?_, fun h => ?_⟩
    · rw [decide_eq_true (show of0 t (lx t) L C x = of0 t (lx t) L C y from h)] at hQ; exact hQ
    · rw [decide_eq_false (show ¬ of0 t (lx t) L C x = of0 t (lx t) L C y from h)] at hQ; exact hQ
theorem mq_196l {L : List pSc} {C : List pOc} (hd : 7 ≤ d) (ht : tOk t) (hM : tM t s) (hN : nR (lx t) L C s) (hA : Ax (lx t) L C) (hL : (L.length : Int) + 1 ≤ 40) {i : Nat} {x : pOc} (hx : C[i]? = some x) (a2 : Int32) (h2 : a2.toInt = i) (Q : Int32 → zS → Prop) : ∀ (B : List pOc) (j : Nat) (a3 : Int32), C.drop j = B → a3.toInt = j → Q (zI (dfA t (lx t) L C x B)) s → zWi xs (d + 1) 196 8 [(0, .ref 32), (2, .int a2), (3, .int a3)] s Q := by
  have hcl : C.length ≤ 200 := by have := hN.2.2.2.2.2.1; rw [List.length_map] at this; exact this
  have h32 : (s.1 32).toInt = (C.length : Int) := hN.2.2.2.1
  intro B
  induction B with
  | nil =>
    intro j a3 hdr h3 hQ
    have := dr_0 hdr
    exact vc_196_8 xs d s a2 a3 Q ⟨fun h => by omega, fun _ => hQ⟩
  | cons y B ih =>
    intro j a3 hdr h3 hQ
    obtain ⟨hy, hd2, hlt⟩ := dr_x hdr
    obtain ⟨c1, c2, _, c6, _⟩ := nm_b hN hA hy h3
    have e3 : (a3 + 1).toInt = ((j + 1 : Nat) : Int) := ti_inc h3 (by omega)
    have no : (decide (1 ≤ pmr y.2.2.2 ∧ pmr y.2.2.2 ≤ 3) && sV t (lx t) L C x y) = false → zWi xs (d + 1) 196 8 [(0, .ref 32), (2, .int a2), (3, .int (a3 + 1))] s Q := fun hn => ih (j + 1) (a3 + 1) hd2 e3 (by unfold dfA at hQ; rw [if_neg (by rw [hn]; decide)] at hQ; exact hQ)
    refine vc_196_8 xs d s a2 a3 Q ⟨fun _ => ⟨fun h => by omega, fun _ => ct_171 xs d hN hA hy a3 h3 _ ?_⟩, fun h => by omega⟩
    cases hq : decide (1 ≤ pmr y.2.2.2 ∧ pmr y.2.2.2 ≤ 3) with
    | false => exact ⟨fun _ => no (by rw [hq]; rfl), fun h => absurd rfl h⟩
    | true =>
      refine ⟨fun h => absurd h (by decide), fun _ => ct_184 xs d hd ht hM hN hA hL hx hy a2 a3 h2 h3 _ ?_⟩
      cases hv : sV t (lx t) L C x y with
      | false => exact ⟨fun _ => no (by rw [hv, Bool.and_false]), fun h => absurd rfl h⟩
      | true =>
        refine ⟨fun h => absurd h (by decide), fun _ => ?_⟩
        unfold dfA at hQ
        rw [if_pos (by rw [hq, hv]; rfl)] at hQ
        rw [zi_e c6]
        exact ⟨c1, c2, hQ⟩
theorem mq_196 (hd : 12 ≤ d) (ht : tOk t) (hI : mJ t s) (a : Int32) (Q : Int32 → zS → Prop) (hQ : ∀ s1, mJ t s1 → zE mEF mEA s s1 → Q (qDef t a) s1) : zWi xs d 196 0 [(0, .ref 32), (1, .int a)] s Q := by
  obtain ⟨d, rfl⟩ : ∃ e, d = e + 1 := ⟨d - 1, by omega⟩
  refine vc_196_0 xs d s a Q (ct_183 xs d (by omega) ht hI a _ (fun s1 g1 g2 z hn => ?_) (fun s1 st o i x v g1 g2 z hr hc he hN hv hx hw => ?_))
  · have := hQ s1 g1 z
    unfold qDef at this
    rw [hn] at this
    exact vc_196_8 xs d s1 (-1) 0 Q ⟨fun _ => ⟨fun _ => this, fun h => absurd (by decide) h⟩, fun _ => this⟩
  · have := hQ s1 g1 z
    unfold qDef at this
    rw [hw] at this
    have hL := hc.2.2.2.1
    exact mq_196l xs d (by omega) ht g1.1 hN hc.1 (by omega) hx v hv Q o.2.2.2.2.1 0 0 List.drop_zero rfl this
theorem mq_197l {L : List pSc} {C : List pOc} (hd : 7 ≤ d) (ht : tOk t) (hM : tM t s) (hN : nR (lx t) L C s) (hA : Ax (lx t) L C) (hL : (L.length : Int) + 1 ≤ 40) {i : Nat} {x : pOc} (hx : C[i]? = some x) (a2 a3 : Int32) (h3 : a3.toInt = i) (Q : Int32 → zS → Prop) : ∀ (B : List pOc) (j : Nat) (a4 a5 : Int32), C.drop j = B → a5.toInt = j → 0 ≤ a4.toInt → a4.toInt ≤ j → Q (zI (rfA t (lx t) L C x a2.toInt a4.toInt B)) s → zWi xs (d + 1) 197 12 [(0, .ref 32), (2, .int a2), (3, .int a3), (4, .int a4), (5, .int a5)] s Q := by
  have hcl : C.length ≤ 200 := by have := hN.2.2.2.2.2.1; rw [List.length_map] at this; exact this
  have h32 : (s.1 32).toInt = (C.length : Int) := hN.2.2.2.1
  intro B
  induction B with
  | nil =>
    intro j a4 a5 hdr h5 h0 hle hQ
    have := dr_0 hdr
    exact vc_197_12 xs d s a2 a3 a4 a5 Q ⟨fun h => by omega, fun _ => hQ⟩
  | cons y B ih =>
    intro j a4 a5 hdr h5 h0 hle hQ
    obtain ⟨hy, hd2, hlt⟩ := dr_x hdr
    obtain ⟨c1, c2, _, c6, _⟩ := nm_b hN hA hy h5
    have e5 : (a5 + 1).toInt = ((j + 1 : Nat) : Int) := ti_inc h5 (by omega)
    have e4 : (a4 + 1).toInt = a4.toInt + 1 := ti_1 rfl (by omega) (by omega)
    unfold rfA at hQ
    refine vc_197_12 xs d s a2 a3 a4 a5 Q ⟨fun _ => ⟨fun h => by omega, fun _ => ct_184 xs d hd ht hM hN hA hL hx hy a3 a5 h3 h5 _ ?_⟩, fun h => by omega⟩
    cases hv : sV t (lx t) L C x y with
    | false =>
      rw [hv, if_neg (by decide)] at hQ
      exact ⟨fun _ => ih (j + 1) a4 (a5 + 1) hd2 e5 h0 (by omega) hQ, fun h => absurd rfl h⟩
    | true =>
      rw [hv, if_pos rfl] at hQ
      refine ⟨fun h => absurd h (by decide), fun _ => ⟨fun hk => ?_, fun hk => ?_⟩⟩
      · rw [if_pos hk] at hQ
        rw [zi_e c6]
        exact ⟨c1, c2, hQ⟩
      · rw [if_neg hk] at hQ
        exact ih (j + 1) (a4 + 1) (a5 + 1) hd2 e5 (by omega) (by omega) (by rw [e4]; exact hQ)
theorem mq_197 (hd : 12 ≤ d) (ht : tOk t) (hI : mJ t s) (a k : Int32) (Q : Int32 → zS → Prop) (hQ : ∀ s1, mJ t s1 → zE mEF mEA s s1 → Q (qRef t a k) s1) : zWi xs d 197 0 [(0, .ref 32), (1, .int a), (2, .int k)] s Q := by
  obtain ⟨d, rfl⟩ : ∃ e, d = e + 1 := ⟨d - 1, by omega⟩
  refine vc_197_0 xs d s a k Q (ct_183 xs d (by omega) ht hI a _ (fun s1 g1 g2 z hn => ?_) (fun s1 st o i x v g1 g2 z hr hc he hN hv hx hw => ?_))
  · have := hQ s1 g1 z
    unfold qRef at this
    rw [hn] at this
    exact vc_197_12 xs d s1 k (-1) 0 0 Q ⟨fun _ => ⟨fun _ => this, fun h => absurd (by decide) h⟩, fun _ => this⟩
  · have := hQ s1 g1 z
    unfold qRef at this
    rw [hw] at this
    have hL := hc.2.2.2.1
    exact mq_197l xs d (by omega) ht g1.1 hN hc.1 (by omega) hx k v hv Q o.2.2.2.2.1 0 0 0 List.drop_zero rfl (by decide) (by decide) this
end QM
