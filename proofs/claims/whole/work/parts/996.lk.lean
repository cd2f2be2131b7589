/-! What is read of a text; refresh and look. -/
def tOk (t : List Int32) : Prop := t.length ≤ 200 ∧ ∀ c ∈ t, ed_ok c = true
def pr (t : List Int32) : pR := pp (lx t) (8 * (lx t).length + 6) 13 (0, 0, 0, 0) 0 0 (0, 0, 1, 0)
theorem lxI_go {t : List Int32} : ∀ (n p : Nat) (q : lxS), p ≤ t.length → lxI p q → ∃ p1, p1 ≤ t.length ∧ lxI p1 (lx_go t n p q) := by
  intro n
  induction n with
  | zero => intro p q hp h; exact ⟨p, hp, h⟩
  | succ n ih =>
    intro p q hp h
    by_cases hlt : p < t.length
    · rw [lx_go_s hlt]
      exact ih _ _ (lx_step_gt t p q hlt).2 (lxI_step hlt h)
    · rw [lx_go_e hlt]
      exact ⟨p, hp, h⟩
theorem lx_len {t : List Int32} (h : t.length ≤ 200) : (lx t).length ≤ 272 := by
  obtain ⟨p1, h1, h2⟩ := lxI_go (t := t) (t.length + 1) 0 ([], [], 0, 0, true) (Nat.zero_le _) lxI_0
  have h3 := lxI_b h2 (by omega)
  unfold lx lx_fin
  rw [List.length_append, List.length_append, List.length_replicate, List.length_singleton]
  have hl : ∀ (ts : List lxT) (b : Bool), (lx_nl ts b).length ≤ ts.length + 1 := by
    intro ts b
    unfold lx_nl
    cases b <;> simp
  have := hl (lx_go t (t.length + 1) 0 ([], [], 0, 0, true)).1 (lx_go t (t.length + 1) 0 ([], [], 0, 0, true)).2.2.2.2
  omega
theorem tkB_lx {t : List Int32} (h : tOk t) : tkB t (lx t) := ⟨h.1, fun i => lx_tb h.2 i⟩
theorem tkI_lx (t : List Int32) : tkI (lx t) := fun _ _ h1 h2 h3 => lx_lt h1 h2 h3
/-- what holds of an accepted text's lists -/
def Acc (t : List Int32) (o : pO) : Prop := Ax (lx t) o.2.2.1 o.2.2.2.2.1 ∧ pCap (pMo pM0 o) ∧ o.2.1.length ≤ 816 ∧ o.2.2.1.length ≤ 28 ∧ o.2.2.2.2.1.length ≤ 100 ∧ o.2.2.2.1.Perm o.2.2.1 ∧ o.2.2.2.2.2 = strT (lx t) o.2.2.1 0 (lx t).length ∧ (∀ e, e ∈ o.1 ↔ e ∈ o.2.1) ∧ Lam o.2.1 ∧ xB o.2.1
theorem pr_F {t : List Int32} (h : tOk t) : pF (pr t) := by
  obtain ⟨pl, hT, _, _⟩ := lx_tkW h.2
  exact pF_pp hT _ 13 _ _ _ _ (by decide) hT.1 (by show 8 * ((lx t).length - 0) + 6 ≤ 8 * (lx t).length + 6; omega)
theorem pr_ok {t : List Int32} (ht : tOk t) {st : pS} {o : pO} (h : pr t = .inr (st, o)) : Acc t o := by
  obtain ⟨pl, hT, _, _⟩ := lx_tkW ht.2
  have h' : pp (lx t) (8 * (lx t).length + 6) 13 (0, 0, 0, 0) 0 0 (0, 0, 1, 0) = .inr (st, o) := h
  obtain ⟨hA, hs⟩ := Ax_pp hT h'
  obtain ⟨c1, c2, c3⟩ := px_cap ht.2 ht.1 (lx_len ht.1) rfl h'
  obtain ⟨⟨a1, a2, a3, a4, a5, a6, a7, a8, a9, a10⟩, b1, b2⟩ := pH_i (R2_pp (8 * (lx t).length + 6) 13 (0, 0, 0, 0) 0 0 (0, 0, 1, 0) (fun e => by omega)) h'
  have h7 := pp13_e _ _ _ _ _ _ h'
  have hn := pH_i ((nX_pp (fun i j hij hj => lx_ord hij hj) (fun i => (lx_tb ht.2 i).2.1) (8 * (lx t).length + 6)).2.2.2 13 (0, 0, 0, 0) 0 0 (0, 0, 1, 0) (by decide) (by decide)) h'
  obtain ⟨n1, n2, n3, n4, n5⟩ := hn.2 (by omega) (by show (0 : Int) ≤ tb (lx t) 0; exact (lx_tb ht.2 0).1)
  have hL : o.2.2.1.length ≤ 28 := by rw [← List.Perm.length_eq a7]; exact c3
  have hC : o.2.2.2.2.1.length ≤ 100 := by
    have := c1.2.1
    exact this
  refine ⟨hA, c1, c2, hL, hC, a7, ?_, n5, n4, fun e he => ?_⟩
  · have a10' : o.2.2.2.2.2 = (rtT (lx t) 0 st.1).filter (fun (i : Nat) => decide (lcG gS o.2.2.1 1 0 (i : Int) ≠ 1)) := a10
    unfold strT
    rw [a10', ← hs, rtT_a (a := 0) (b := st.1) (c := st.1 + 1) (by omega) (by omega), rtT_1, if_neg (by rw [h7]; decide), List.append_nil]
  · have q := n3 e he
    have q1 : 0 ≤ tb (lx t) 0 := (lx_tb ht.2 0).1
    have q2 := lx_tb ht.2 st.1
    have q3 := ht.1
    have q4 : tb (lx t) 0 ≤ e.1 := q.1
    exact ⟨by omega, by omega⟩
/-- the class's cells, whatever they hold -/
def cK (s : zS) : Prop := (s.2 4).length = 272 ∧ (s.2 5).length = 272 ∧ (s.2 6).length = 272 ∧ (s.2 7).length = 24 ∧ ((s.2 9).length = 204 ∧ (s.2 10).length = 204 ∧ (s.2 12).length = 32 ∧ (s.2 13).length = 32 ∧ (s.2 14).length = 32 ∧ (s.2 16).length = 100 ∧ (s.2 17).length = 100 ∧ (s.2 18).length = 100 ∧ (s.2 19).length = 100 ∧ (s.2 20).length = 100 ∧ 0 ≤ (s.1 5).toInt ∧ (s.1 5).toInt ≤ 204 ∧ 0 ≤ (s.1 6).toInt ∧ (s.1 6).toInt ≤ 32 ∧ 0 ≤ (s.1 7).toInt ∧ (s.1 7).toInt ≤ 100) ∧ (s.2 21).length = 100 ∧ (s.2 22).length = 100 ∧ (s.2 23).length = 100
/-- the class has read the text -/
def cF (t : List Int32) (s : zS) : Prop := tkR (lx t) s ∧ (∀ e, pr t = .inl e → (s.1 14).toInt = e.1 ∧ (s.1 15).toInt = e.2) ∧ (∀ st o, pr t = .inr (st, o) → (s.1 14).toInt = 0 ∧ xR o.1 s ∧ bnR t (lx t) o.2.2.1 o.2.2.2.2.1 s)
def cEF : List Nat := [0, 2, 3, 4, 5, 6, 7, 8, 9, 10, 11, 12, 13, 14, 15, 16, 17, 18]
def cEA : List Nat := [4, 5, 6, 7, 9, 10, 12, 13, 14, 16, 17, 18, 19, 20, 21, 22, 23]
/-- the reference's -/
def mK (s : zS) : Prop := (s.2 34).length = 420 ∧ (s.2 35).length = 420 ∧ (s.2 36).length = 420 ∧ (s.2 37).length = 420 ∧ (s.2 39).length = 210 ∧ mL s ∧ (s.2 51).length = 200
def mF (t : List Int32) (s : zS) : Prop := mkR (lx t) s ∧ (∀ e, pr t = .inl e → (s.1 28).toInt = e.1 ∧ ∃ i : Nat, i < (lx t).length ∧ (s.1 29).toInt = i ∧ tb (lx t) i = e.2) ∧ (∀ st o, pr t = .inr (st, o) → (s.1 28).toInt = 0 ∧ eR o.2.1 s ∧ nR (lx t) o.2.2.1 o.2.2.2.2.1 s ∧ eE (fErr t (lx t) o.2.2.1 o.2.2.2.2.1) s)
def mEF : List Nat := [22, 23, 24, 25, 26, 27, 28, 29, 30, 31, 32, 33, 34]
def mEA : List Nat := [34, 35, 36, 37, 38, 39, 40, 41, 42, 43, 44, 45, 46, 47, 48, 49, 50, 51]
theorem cn_m {A B : List Nat} (h : ∀ k ∈ A, k ∈ B) (k : Nat) (hk : B.contains k = false) : A.contains k = false := by
  rw [List.contains_eq_mem] at hk ⊢
  rw [decide_eq_false_iff_not] at hk ⊢
  exact fun g => hk (h k g)
theorem zE_c {F A : List Nat} {s s1 : zS} (h : zE F A s s1) {F1 A1 : List Nat} (hf : ∀ k ∈ F, k ∈ F1) (ha : ∀ k ∈ A, k ∈ A1) : zE F1 A1 s s1 := zE_m h (cn_m hf) (cn_m ha)
section LK
variable (xs : Option (List Int32)) (d : Nat) {t : List Int32} {s : zS}
theorem cK_x {T : List lxT} {s1 s2 : zS} (h : cK s) (z : zE [2, 3, 4] [4, 5, 6, 7] (zf s 0 0) s1) (hk : tkR T s1) : pK T s1 := by
  obtain ⟨h4, h5, h6, h7, ⟨b1, b2, b3, b4, b5, b6, b7, b8, b9, b10, b11, b12, b13, b14, b15, b16⟩, _, _, _⟩ := h
  refine ⟨hk, by rw [z.2 9 rfl]; exact b1, by rw [z.2 10 rfl]; exact b2, by rw [z.2 12 rfl]; exact b3, by rw [z.2 13 rfl]; exact b4, by rw [z.2 14 rfl]; exact b5, by rw [z.2 16 rfl]; exact b6, by rw [z.2 17 rfl]; exact b7, by rw [z.2 18 rfl]; exact b8, by rw [z.2 19 rfl]; exact b9, by rw [z.2 20 rfl]; exact b10, by rw [z.1 5 rfl]; exact b11, by rw [z.1 5 rfl]; exact b12, by rw [z.1 6 rfl]; exact b13, by rw [z.1 6 rfl]; exact b14, by rw [z.1 7 rfl]; exact b15, by rw [z.1 7 rfl]; exact b16⟩
theorem tkR_l {T : List lxT} (h : tkR T s) : (s.2 4).length = 272 ∧ (s.2 5).length = 272 ∧ (s.2 6).length = 272 := ⟨h.2.1.1, h.2.2.1.1, h.2.2.2.1⟩
theorem cK_p {T : List lxT} (h : pK T s) (h7 : (s.2 7).length = 24) (l21 : (s.2 21).length = 100) (l22 : (s.2 22).length = 100) (l23 : (s.2 23).length = 100) : cK s := ⟨(tkR_l h.1).1, (tkR_l h.1).2.1, (tkR_l h.1).2.2, h7, h.2, l21, l22, l23⟩
/-- refresh -/
theorem ct_126 (hd : 132 ≤ d) (ht : tOk t) (hX : tX t s) (hK : cK s) (hF : (s.1 0).toInt = 0 → cF t s) (Q : zS → Prop) (hQ : ∀ s1, tX t s1 → cK s1 → (s1.1 0).toInt = 0 → cF t s1 → zE cEF cEA s s1 → Q s1) : zWv xs d 126 0 [(0, .ref 2)] s Q := by
  obtain ⟨d, rfl⟩ : ∃ e, d = e + 1 := ⟨d - 1, by omega⟩
  refine vc_126_0 xs d s Q ⟨fun h => hQ s hX hK h (hF h) (zE_r s), fun _ => ?_⟩
  obtain ⟨pl, hT, _, _⟩ := lx_tkW ht.2
  have hKc := hK
  obtain ⟨h4, h5, h6, h7, _, l21, l22, l23⟩ := hKc
  have z0 : zE cEF cEA s (zf s 0 0) := zE_f (zE_r s) rfl
  have hX0 : tX t (zf s 0 0) := hX
  refine ct_98 xs d (by omega) hX0 h4 h5 h6 h7 _ (fun s1 k1 z1 k7 => ?_)
  have zz1 : zE cEF cEA (zf s 0 0) s1 := zE_c z1 (by decide) (by decide)
  have hX1 := tX_E z1 rfl rfl hX0
  have hp := cK_x (s2 := s) hK z1 k1
  have e0 : (s1.1 0).toInt = 0 := by rw [z1.1 0 rfl]; rfl
  have m21 : (s1.2 21).length = 100 := by rw [z1.2 21 rfl]; exact l21
  have m22 : (s1.2 22).length = 100 := by rw [z1.2 22 rfl]; exact l22
  have m23 : (s1.2 23).length = 100 := by rw [z1.2 23 rfl]; exact l23
  refine ct_40 xs hT (fun i => (lx_tb ht.2 i).1) d (by omega) hp _ (8 * (lx t).length + 6) (pr_F ht) (fun s2 g1 g2 z2 => ?_)
  have zz2 : zE cEF cEA s1 s2 := zE_c z2 (by decide) (by decide)
  have hX2 := tX_E z2 rfl rfl hX1
  have k72 : (s2.2 7).length = 24 := by rw [z2.2 7 rfl]; exact k7
  have n21 : (s2.2 21).length = 100 := by rw [z2.2 21 rfl]; exact m21
  have n22 : (s2.2 22).length = 100 := by rw [z2.2 22 rfl]; exact m22
  have n23 : (s2.2 23).length = 100 := by rw [z2.2 23 rfl]; exact m23
  have e02 : (s2.1 0).toInt = 0 := by rw [z2.1 0 rfl]; exact e0
  have zs2 : zE cEF cEA s s2 := zE_t z0 (zE_t zz1 zz2)
  have hpF := pr_F ht
  cases hr : pr t with
  | inl e =>
    rw [hr] at hpF
    have he : e.1 ≠ 0 := hpF
    obtain ⟨f1, f2, f3⟩ := g1 e hr
    refine vc_127_0 xs d s2 _ ⟨fun h => absurd (f2.symm.trans h) he, fun _ => ⟨fun _ => ?_, fun h => absurd rfl h⟩⟩
    exact hQ s2 hX2 (cK_p f1 k72 n21 n22 n23) e02 ⟨f1.1, fun e2 hr2 => (by rw [hr] at hr2; cases hr2; exact ⟨f2, f3⟩), fun st o hr2 => (by rw [hr] at hr2; cases hr2)⟩ zs2
  | inr q =>
    obtain ⟨st, o⟩ := q
    obtain ⟨f1, f2, f3⟩ := g2 st o hr
    have hac := pr_ok ht hr
    obtain ⟨hA, hcap, _, hL, hC, _, hst, _, _, _⟩ := hac
    obtain ⟨x1, x2, x3, x4, x5⟩ := f3 hcap
    have f14 : (s2.1 14).toInt = 0 := f2.2.2.2.2
    have hb : bR t (lx t) o.2.2.1 o.2.2.2.2.1 s2 := ⟨hX2, x2, x3, n21, n22, n23⟩
    refine vc_127_0 xs d s2 _ ⟨fun _ => ⟨fun h => absurd h (by decide), fun _ => ?_⟩, fun h => absurd f14 h⟩
    have hs16 : (s2.1 16).toInt = fst1 (lx t) (strT (lx t) o.2.2.1 0 (lx t).length) := by
      rw [← hst]
      have x4' : rR (lx t) o.2.2.2.2.2 s2 := x4
      unfold rR at x4'
      rw [x4']
      cases o.2.2.2.2.2 <;> rfl
    refine ct_2 xs d (by omega) hb hA (tkB_lx ht) (tkI_lx t) (s2.1 16) hs16 _ (fun s3 m1 z3 => ?_)
    have zz3 : zE cEF cEA s2 s3 := zE_c z3 (by decide) (by decide)
    have hb3 := m1.1
    obtain ⟨r1, r2, r3, r4, r5, r6, r7, r8, r9, r10, r11, r12, r13, r14, r15, r16, r17⟩ := f1
    have hp3 : pK (lx t) s3 := ⟨tkR_E z3 rfl rfl rfl rfl r1, by rw [z3.2 9 rfl]; exact r2, by rw [z3.2 10 rfl]; exact r3, by rw [z3.2 12 rfl]; exact r4, by rw [z3.2 13 rfl]; exact r5, by rw [z3.2 14 rfl]; exact r6, by rw [z3.2 16 rfl]; exact r7, by rw [z3.2 17 rfl]; exact r8, by rw [z3.2 18 rfl]; exact r9, by rw [z3.2 19 rfl]; exact r10, by rw [z3.2 20 rfl]; exact r11, by rw [z3.1 5 rfl]; exact r12, by rw [z3.1 5 rfl]; exact r13, by rw [z3.1 6 rfl]; exact r14, by rw [z3.1 6 rfl]; exact r15, by rw [z3.1 7 rfl]; exact r16, by rw [z3.1 7 rfl]; exact r17⟩
    refine hQ s3 (tX_E z3 rfl rfl hX2) (cK_p hp3 (by rw [z3.2 7 rfl]; exact k72) hb3.2.2.2.1 hb3.2.2.2.2.1 hb3.2.2.2.2.2) (by rw [z3.1 0 rfl]; exact e02) ⟨hp3.1, fun e2 hr2 => (by rw [hr] at hr2; cases hr2), fun st2 o2 hr2 => ?_⟩ (zE_t zs2 zz3)
    rw [hr] at hr2
    cases hr2
    exact ⟨by rw [z3.1 14 rfl]; exact f14, xR_E z3 rfl rfl rfl x1, m1⟩
/-- look -/
theorem ct_136 (hd : 9 ≤ d) (ht : tOk t) (hX : tM t s) (hK : mK s) (hF : (s.1 22).toInt = 0 → mF t s) (Q : zS → Prop) (hQ : ∀ s1, tM t s1 → mK s1 → (s1.1 22).toInt = 0 → mF t s1 → zE mEF mEA s s1 → Q s1) : zWv xs d 136 0 [(0, .ref 32)] s Q := by
  obtain ⟨d, rfl⟩ : ∃ e, d = e + 1 := ⟨d - 1, by omega⟩
  refine vc_136_0 xs d s Q ⟨fun h => hQ s hX hK h (hF h) (zE_r s), fun _ => ?_⟩
  obtain ⟨pl, hT, hp0, hpl⟩ := lx_tkW ht.2
  obtain ⟨h34, h35, h36, h37, h39, hL, h51⟩ := hK
  have z0 : zE mEF mEA s (zf s 22 0) := zE_f (zE_r s) rfl
  have hX0 : tM t (zf s 22 0) := hX
  refine ct_141 xs d (by omega) hX0 ht.2 h34 h35 h36 h37 hL.1 h39 _ (fun s1 k1 z1 k39 => ?_)
  have zz1 : zE mEF mEA (zf s 22 0) s1 := zE_c z1 (by decide) (by decide)
  have hX1 := tM_E z1 rfl rfl hX0
  have hL1 : mL s1 := by
    obtain ⟨_, l40, l41, l42, l43, l44, l45, l46, l47, l48, l49, l50⟩ := hL
    exact ⟨k1.2.1, by rw [z1.2 40 rfl]; exact l40, by rw [z1.2 41 rfl]; exact l41, by rw [z1.2 42 rfl]; exact l42, by rw [z1.2 43 rfl]; exact l43, by rw [z1.2 44 rfl]; exact l44, by rw [z1.2 45 rfl]; exact l45, by rw [z1.2 46 rfl]; exact l46, by rw [z1.2 47 rfl]; exact l47, by rw [z1.2 48 rfl]; exact l48, by rw [z1.2 49 rfl]; exact l49, by rw [z1.2 50 rfl]; exact l50⟩
  have e0 : (s1.1 22).toInt = 0 := by rw [z1.1 22 rfl]; rfl
  have m51 : (s1.2 51).length = 200 := by rw [z1.2 51 rfl]; exact h51
  have hpl2 : ∀ i, pl i ≤ 201 := fun i => by have := hpl i; have := ht.1; omega
  refine ct_153 xs d (by omega) hT (lx_len ht.1) hpl2 hp0 k1 hL1 _ (8 * (lx t).length + 6) (pr_F ht) (fun s2 g1 g2 z2 => ?_)
  have zz2 : zE mEF mEA s1 s2 := zE_c z2 (by decide) (by decide)
  have hX2 := tM_E z2 rfl rfl hX1
  have k392 : (s2.2 39).length = 210 := by rw [z2.2 39 rfl]; exact k39
  have n51 : (s2.2 51).length = 200 := by rw [z2.2 51 rfl]; exact m51
  have e02 : (s2.1 22).toInt = 0 := by rw [z2.1 22 rfl]; exact e0
  have zs2 : zE mEF mEA s s2 := zE_t z0 (zE_t zz1 zz2)
  have hpF := pr_F ht
  have mkl : ∀ s' : zS, mkR (lx t) s' → (s'.2 34).length = 420 ∧ (s'.2 35).length = 420 ∧ (s'.2 36).length = 420 ∧ (s'.2 37).length = 420 := fun s' h => ⟨h.2.1.1, h.2.2.1.1, h.2.2.2.1.1, h.2.2.2.2.1⟩
  cases hr : pr t with
  | inl e =>
    rw [hr] at hpF
    have he : e.1 ≠ 0 := hpF
    obtain ⟨f1, f2, f3, f4⟩ := g1 e hr
    obtain ⟨q1, q2, q3, q4⟩ := mkl s2 f1
    refine ⟨fun h => absurd (f3.symm.trans h) he, fun _ => ?_⟩
    exact hQ s2 hX2 ⟨q1, q2, q3, q4, k392, f2, n51⟩ e02 ⟨f1, fun e2 hr2 => (by rw [hr] at hr2; cases hr2; exact ⟨f3, f4⟩), fun st o hr2 => (by rw [hr] at hr2; cases hr2)⟩ zs2
  | inr q =>
    obtain ⟨st, o⟩ := q
    obtain ⟨f1, f2, f3, f4, f5, f6⟩ := g2 st o hr
    have f28 : (s2.1 28).toInt = 0 := f2.2.2.2
    obtain ⟨hA, hcap, hE816, hL28, hC, hperm, hst, _, _, _⟩ := pr_ok ht hr
    refine ⟨fun _ => ?_, fun h => absurd f28 h⟩
    have w4 : wR (mRow (lx t) :: o.2.2.2.1) s2 := f4
    refine ct_163 xs d (by omega) w4 hperm hA.srt _ (fun s3 r1 z3 => ?_)
    have zz3 : zE mEF mEA s2 s3 := zE_c z3 (by decide) (by decide)
    have hk3 := mkR_E z3 rfl rfl rfl rfl rfl f1
    have hE3 := eR_E z3 rfl rfl rfl f3
    have hrl3 := rlR_E z3 rfl f5
    have hnl : (nmT (lx t) 0 (lx t).length).length = o.2.2.2.2.1.length := by rw [← hA.nms, List.length_map]
    refine vc_169_0 xs d s3 _ (ct_169l xs d _ (lx t).length 0 (zf s3 32 0) 0 (by omega) (Nat.zero_le _) rfl hk3 (by rw [nmT_0]; rfl) (by rw [nmT_0]; exact zP_nil (by show (s3.2 51).length = 200; rw [z3.2 51 rfl]; exact n51)) (by omega) (fun s4 u1 u2 z4 => ?_))
    have zz4 : zE mEF mEA s3 s4 := zE_t (zE_f (zE_r s3) rfl) (zE_c z4 (by decide) (by decide))
    have hN4 : nR (lx t) o.2.2.1 o.2.2.2.2.1 s4 := by
      refine ⟨mkR_E z4 rfl rfl rfl rfl rfl hk3, wR_E z4 rfl rfl rfl rfl rfl rfl rfl rfl r1, rlR_E z4 rfl hrl3, by rw [u1, hnl], ?_⟩
      rw [← hA.nms, List.map_map] at u2
      exact u2
    have hX3 := tM_E z3 rfl rfl hX2
    have hX30 : tM t (zf s3 32 0) := hX3
    have hX4 : tM t s4 := tM_E z4 rfl rfl hX30
    refine ct_176 xs d (by omega) hN4 hA hX4 (tkB_lx ht) _ (fun s5 v1 z5 => ?_)
    have zz5 : zE mEF mEA s4 s5 := zE_c z5 (by decide) (by decide)
    have hN5 := nR_E z5 rfl rfl rfl rfl hN4
    have hE5 := eR_E z5 rfl rfl rfl (eR_E z4 rfl rfl rfl hE3)
    obtain ⟨q1, q2, q3, q4⟩ := mkl s5 hN5.1
    have g3 := gR_E z3 rfl rfl rfl f6
    have g30 : gR [] (zf s3 32 0) := g3
    have g5 : gR [] s5 := gR_E z5 rfl rfl rfl (gR_E z4 rfl rfl rfl g30)
    have w5 := hN5.2.1
    have hL5 : mL s5 := ⟨hN5.2.2.1.1, g5.2.1.1, g5.2.2.1, hE5.2.1.1, hE5.2.2.1, w5.2.1.1, w5.2.2.1.1, w5.2.2.2.1.1, w5.2.2.2.2.1.1, w5.2.2.2.2.2.1.1, w5.2.2.2.2.2.2.1.1, w5.2.2.2.2.2.2.2.1⟩
    refine hQ s5 (tM_E z5 rfl rfl hX4) ⟨q1, q2, q3, q4, by rw [z5.2 39 rfl, z4.2 39 rfl]; show (s3.2 39).length = 210; rw [z3.2 39 rfl]; exact k392, hL5, hN5.2.2.2.2.1⟩ (by rw [z5.1 22 rfl, z4.1 22 rfl]; show (s3.1 22).toInt = 0; rw [z3.1 22 rfl]; exact e02) ⟨hN5.1, fun e2 hr2 => (by rw [hr] at hr2; cases hr2), fun st2 o2 hr2 => ?_⟩ (zE_t zs2 (zE_t zz3 (zE_t zz4 zz5)))
    rw [hr] at hr2
    cases hr2
    exact ⟨by rw [z5.1 28 rfl, z4.1 28 rfl]; show (s3.1 28).toInt = 0; rw [z3.1 28 rfl]; exact f28, hE5, hN5, v1⟩
end LK
