theorem lxI_b {p : Nat} {q : lxS} (h : lxI p q) (hp : p ≤ 200) : q.1.length + q.2.1.length ≤ 267 ∧ q.2.1.length ≤ 17 := by
  obtain ⟨h1, h2, h3, h4, h5, h6⟩ := h
  cases e : q.2.2.2.2 with
  | true =>
    rw [e] at h6
    simp only [cond_true] at h6
    exact ⟨by omega, lx_up_18 h1 (by omega)⟩
  | false =>
    rw [e] at h6
    simp only [cond_false] at h6
    exact ⟨by omega, lx_up_18 h1 (by omega)⟩
theorem lx_go_s {t : List Int32} {n p : Nat} {q : lxS} (h : p < t.length) : lx_go t (n + 1) p q = lx_go t n (lx_step t p q).1 (lx_step t p q).2 := by
  show (if p < t.length then _ else _) = _
  rw [if_pos h]
theorem lx_go_e {t : List Int32} {n p : Nat} {q : lxS} (h : ¬ p < t.length) : lx_go t n p q = q := by
  cases n with
  | zero => rfl
  | succ n => show (if p < t.length then _ else _) = _; rw [if_neg h]
theorem ct_98l (xs : Option (List Int32)) (d : Nat) (hd : 4 ≤ d) (t : List Int32) (Q : zS → Prop) : ∀ (n p : Nat) (q : lxS) (s : zS) (a1 a2 a3 : Int32), t.length - p < n → p ≤ t.length → lxI p q → tX t s → tkR q.1 s → idR q.2.1 s → (s.1 4).toInt = q.2.2.1 → a1.toInt = q.2.2.2.1 → a2 = zb q.2.2.2.2 → a3.toInt = p → (∀ s1, tkR (lx_fin t (lx_go t n p q)) s1 → zE [2, 3, 4] [4, 5, 6, 7] s s1 → (s1.2 7).length = 24 → Q s1) → zWv xs d 98 21 [(0, .ref 5), (1, .int a1), (2, .int a2), (3, .int a3)] s Q := by
  obtain ⟨d, rfl⟩ : ∃ e, d = e + 1 := ⟨d - 1, by omega⟩
  intro n
  induction n with
  | zero => intro p q s a1 a2 a3 hn; exact absurd hn (Nat.not_lt_zero _)
  | succ n ih =>
    intro p q s a1 a2 a3 hn hp hI ht hk hi ho h1 h2 h3 hQ
    have h200 := ht.2.2.1
    have hb := lxI_b hI (by omega)
    have hI0 := hI
    obtain ⟨i1, i2, i3, i4, i5, i6⟩ := hI
    refine vc_98_21 xs d s a1 a2 a3 Q ?_
    rw [ht.1, h3]
    refine ⟨fun hlt => ?_, fun hge => ?_⟩
    · have hpt : p < t.length := by omega
      have hst := lx_step_gt t p q hpt
      have hI1 := lxI_step hpt hI0
      rw [lx_go_s hpt] at hQ
      -- the round's end: p1 and the state behind it
      have hgo : ∀ (p1 : Nat) (q1 : lxS) (s1 : zS) (b1 b2 b3 : Int32), lx_step t p q = (p1, q1) → zE [2, 3, 4] [4, 5, 6, 7] s s1 → tkR q1.1 s1 → idR q1.2.1 s1 → (s1.1 4).toInt = q1.2.2.1 → b1.toInt = q1.2.2.2.1 → b2 = zb q1.2.2.2.2 → b3.toInt = p1 → zWv xs (d + 1) 98 21 [(0, .ref 5), (1, .int b1), (2, .int b2), (3, .int b3)] s1 Q := by
        intro p1 q1 s1 b1 b2 b3 e hE g1 g2 g3 g4 g5 g6
        rw [e] at hst hI1 hQ
        exact ih p1 q1 s1 b1 b2 b3 (by simp only at hst; omega) hst.2 hI1 (tX_E hE rfl rfl ht) g1 g2 g3 g4 g5 g6 (fun s2 r1 r2 r3 => hQ s2 r1 (zE_t hE r2) r3)
      have a1' : (a3 + 1).toInt = ((p + 1 : Nat) : Int) := ti_inc h3 (by omega)
      have hzR : zR ((p : Int) + 1) := ⟨by omega, by omega⟩
      refine ct_85n xs d s ht p hpt a3 h3 _ (fun v7 hv7 => ?_)
      rw [hv7, ho]
      have htok : ¬ lx_c t p = 10 → ¬ lx_c t p = 35 → ¬ lx_c t p = 32 → lx_step t p q = ((lx_one t p).2, lx_tok t p q) := by
        intro c1 c2 c3
        unfold lx_step
        rw [if_neg (by omega), if_neg c2, if_neg (by omega)]
      have hone := lx_one_gt t p hpt
      have hcom : lx_c t p = 35 → ∀ v : Int32, v.toInt = lx_e lx_N t p → zR ((p : Int) + 1) ∧ (((p : Int) + 1) < v.toInt → (zWv xs (d + 1) 98 21 [(0, .ref 5), (1, .int a1), (2, .int a2), (3, .int v)] s Q)) ∧ (¬ ((p : Int) + 1) < v.toInt → (zWv xs (d + 1) 98 21 [(0, .ref 5), (1, .int a1), (2, .int a2), (3, .int (a3 + 1))] s Q)) := by
        intro h35 v hv
        have e : lx_step t p q = (lx_e lx_N t p, q) := by
          unfold lx_step
          rw [if_neg (by omega), if_pos h35]
        have hgt := lx_N_gt t p hpt h35
        refine ⟨hzR, fun _ => hgo _ q s a1 a2 v e (zE_r s) hk hi ho h1 h2 hv, fun hh => hgo _ q s a1 a2 (a3 + 1) e (zE_r s) hk hi ho h1 h2 ?_⟩
        rw [a1']; omega
      have hskip : lx_step t p q = (p + 1, q) → zR ((p : Int) + 1) ∧ (((p : Int) + 1) < ((p : Int) + 1) → (zWv xs (d + 1) 98 21 [(0, .ref 5), (1, .int a1), (2, .int a2), (3, .int (a3 + 1))] s Q)) ∧ (¬ ((p : Int) + 1) < ((p : Int) + 1) → (zWv xs (d + 1) 98 21 [(0, .ref 5), (1, .int a1), (2, .int a2), (3, .int (a3 + 1))] s Q)) := fun e => ⟨hzR, fun hh => by omega, fun _ => hgo _ q s a1 a2 (a3 + 1) e (zE_r s) hk hi ho h1 h2 a1'⟩
      refine ⟨fun h10 => ⟨fun h0 => ?_, fun h0 => ⟨fun h35 => ?_, fun h35 => ?_⟩⟩, fun h10 => ⟨fun h35 => ?_, fun h35 => ⟨fun h32 => ?_, fun h32 => ⟨fun hb0 => ?_, fun hb0 => ?_⟩⟩⟩⟩
      · -- a line feed with no bracket open
        rw [h2]
        refine ct_99 xs d (by omega) hk q.2.2.2.2 i5 (by omega) _ (fun s1 g1 g2 => ?_)
        have e : lx_step t p q = (p + 1, (lx_nl q.1 q.2.2.2.2, q.2.1, q.2.2.1, p + 1, true)) := by
          unfold lx_step
          rw [if_pos ⟨h10, h0⟩]
        refine ⟨hzR, fun hh => by omega, fun _ => hgo _ _ s1 (a3 + 1) 1 (a3 + 1) e (zE_m g2 ?_ ?_) g1 (idR_E g2 rfl rfl hi) ?_ a1' rfl a1'⟩
        · exact fun k hk => by simp at hk ⊢; omega
        · exact fun k hk => by simp at hk ⊢; omega
        · rw [g2.1 4 rfl]; exact ho
      · omega
      · refine hskip ?_
        unfold lx_step
        rw [if_neg (by omega), if_neg h35, if_pos (Or.inl h10)]
      · exact ct_87 xs d s ht p a3 h3 _ (fun v hv => hcom h35 v hv)
      · refine hskip ?_
        unfold lx_step
        rw [if_neg (by omega), if_neg h35, if_pos (Or.inr h32)]
      · -- a token behind others of its line
        rw [h2, zb_e] at hb0
        have e := htok h10 h35 h32
        have e2 : lx_tok t p q = (q.1 ++ [((lx_one t p).1, (p : Int), ((lx_one t p).2 : Int))], q.2.1, lx_op (lx_one t p).1 q.2.2.1, q.2.2.2.1, false) := by
          obtain ⟨ts, ind, op, lb, bare⟩ := q
          simp only at hb0
          subst hb0
          rfl
        rw [e2] at e
        refine ct_103 xs d (by omega) ht hk (by omega) p hpt a3 h3 _ ho i3 (by omega) _ (fun v s1 g1 g2 g3 g4 => ?_)
        have hE : zE [2, 3, 4] [4, 5, 6, 7] s s1 := zE_m g4 (fun k hk => by simp at hk ⊢; omega) (fun k hk => by simp at hk ⊢; omega)
        refine ⟨hzR, fun _ => hgo _ _ s1 a1 0 v e hE g2 (idR_E g4 rfl rfl hi) g3 h1 rfl g1, fun hh => hgo _ _ s1 a1 0 (a3 + 1) e hE g2 (idR_E g4 rfl rfl hi) g3 h1 rfl ?_⟩
        rw [a1']; omega
      · -- a line's first token
        rw [h2, zb_n] at hb0
        have e := htok h10 h35 h32
        have e2 : lx_tok t p q = ((lx_beg ((p : Int) - q.2.2.2.1) p q.1 q.2.1).1 ++ [((lx_one t p).1, (p : Int), ((lx_one t p).2 : Int))], (lx_beg ((p : Int) - q.2.2.2.1) p q.1 q.2.1).2, lx_op (lx_one t p).1 q.2.2.1, q.2.2.2.1, false) := by
          obtain ⟨ts, ind, op, lb, bare⟩ := q
          simp only at hb0
          subst hb0
          rfl
        rw [e2] at e
        have hsub : (a3 - a1).toInt = (p : Int) - q.2.2.2.1 := by
          rw [ti_sub (by rw [h3, h1]; exact ⟨by omega, by omega⟩), h3, h1]
        rw [hb0, cond_true] at i6
        have hbb := lx_beg_b (n := (p : Int) - q.2.2.2.1) (p := p) (ts := q.1) (ind := q.2.1) (lb := q.2.2.2.1) i1 (by omega) (by omega) (by omega) i6.2
        refine ct_101 xs d (by omega) hk hi (by omega) (by omega) (a3 - a1) a3 _ (fun s1 g1 g2 g3 => ?_)
        rw [hsub, h3] at g1 g2
        refine ct_103 xs d (by omega) (tX_E g3 rfl rfl ht) g1 (by omega) p hpt a3 h3 q.2.2.1 (by rw [g3.1 4 rfl]; exact ho) i3 (by omega) _ (fun v s2 r1 r2 r3 r4 => ?_)
        have hE : zE [2, 3, 4] [4, 5, 6, 7] s s2 := zE_t (zE_m g3 (fun k hk => by simp at hk ⊢; omega) (fun k hk => by simp at hk ⊢; omega)) (zE_m r4 (fun k hk => by simp at hk ⊢; omega) (fun k hk => by simp at hk ⊢; omega))
        refine ⟨hzR, fun _ => hgo _ _ s2 a1 0 v e hE r2 (idR_E r4 rfl rfl g2) r3 h1 rfl r1, fun hh => hgo _ _ s2 a1 0 (a3 + 1) e hE r2 (idR_E r4 rfl rfl g2) r3 h1 rfl ?_⟩
        rw [a1']; omega
    · rw [lx_go_e (by omega)] at hQ
      rw [h2]
      refine ct_99 xs d (by omega) hk q.2.2.2.2 i5 (by omega) _ (fun s1 g1 g2 => ?_)
      have hl : (lx_nl q.1 q.2.2.2.2).length ≤ q.1.length + 1 := by
        unfold lx_nl
        cases q.2.2.2.2 <;> simp
      refine ct_100 xs d (by omega) _ q.2.1 _ s1 g1 (idR_E g2 rfl rfl hi) (by omega) (fun s2 r1 r2 => hQ s2 ?_ (zE_t (zE_m g2 ?_ ?_) (zE_m r2 ?_ ?_)) (by rw [r2.2 7 rfl, g2.2 7 rfl]; exact hi.2.1))
      · rw [g2.1 1 rfl, ht.1] at r1; exact r1
      all_goals exact fun k hk => by simp at hk ⊢; omega
/-- Tokens.read: the tokens of the text -/
theorem ct_98 (xs : Option (List Int32)) (d : Nat) (hd : 4 ≤ d) {t : List Int32} {s : zS} (ht : tX t s) (h4 : (s.2 4).length = 272) (h5 : (s.2 5).length = 272) (h6 : (s.2 6).length = 272) (h7 : (s.2 7).length = 24) (Q : zS → Prop) (hQ : ∀ s1, tkR (lx t) s1 → zE [2, 3, 4] [4, 5, 6, 7] s s1 → (s1.2 7).length = 24 → Q s1) : zWv xs d 98 0 [(0, .ref 5)] s Q := by
  obtain ⟨d, rfl⟩ : ∃ e, d = e + 1 := ⟨d - 1, by omega⟩
  refine vc_98_0 xs d s Q ?_
  refine ct_98l xs (d + 1) hd t Q (t.length + 1) 0 ([], [], 0, 0, true) _ 0 1 0 (by omega) (by omega) lxI_0 ht ⟨rfl, zP_nil h4, zP_nil h5, zP_nil h6⟩ ⟨rfl, h7, by decide, fun j hj => absurd hj (Nat.not_lt_zero j)⟩ rfl rfl rfl rfl (fun s1 g1 g2 g3 => hQ s1 g1 (zE_t ?_ g2) g3)
  exact zE_f (zE_f (zE_f (zE_r s) rfl) rfl) rfl
