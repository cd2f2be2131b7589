theorem lx_one_c (t : List Int32) (p : Nat) : (lx_one t p).1 = 0 ∨ (lx_one t p).1 = 1 ∨ (lx_one t p).1 = 8 ∨ (lx_one t p).1 = 128 ∨ (16 ≤ (lx_one t p).1 ∧ (lx_one t p).1 ≤ 29) ∨ lx_sg (lx_one t p).1 = true := by
  unfold lx_one
  split
  · rcases lx_wc_b (lx_w t p (lx_e lx_A t p)) with h | h
    · exact Or.inl h
    · exact Or.inr (Or.inr (Or.inr (Or.inr (Or.inl h))))
  · split
    · exact Or.inr (Or.inl rfl)
    · split
      · exact Or.inr (Or.inr (Or.inr (Or.inl rfl)))
      · split
        · rename_i h; exact Or.inr (Or.inr (Or.inr (Or.inr (Or.inr h))))
        · exact Or.inr (Or.inr (Or.inl rfl))
/-- the last token -/
theorem mkR_last {ts : List lxT} {x : lxT} {s : zS} (h : mkR (ts ++ [x]) s) : zX (s.2 37) ((s.1 23).toInt - 1) ∧ zX (s.2 34) ((s.1 23).toInt - 1) ∧ (zg (s.2 34) ((s.1 23).toInt - 1)).toInt = lx_kd x.1 ∧ (x.1 ≠ 8 → (zg (s.2 37) ((s.1 23).toInt - 1)).toInt = lx_wh x.1) := by
  obtain ⟨h1, h2, h3, h4, h5, h6⟩ := h
  rw [List.length_append, List.length_singleton] at h1
  have e : ((s.1 23).toInt - 1).toNat = ts.length := by omega
  have l2 := h2.2.1
  rw [List.length_map, List.length_append, List.length_singleton] at l2
  refine ⟨⟨by omega, by rw [h5]; omega, by rw [h5]; omega⟩, zP_X h2 (by decide) (by omega) (by omega), ?_, ?_⟩
  · rw [zP_get h2 (by omega) (by rw [List.length_map, List.length_append, List.length_singleton]; omega), e, List.map_append, getD_app, if_neg (by rw [List.length_map]; omega), List.length_map, Nat.sub_self]
    rfl
  · intro hx
    have eg : (ts ++ [x]).getD ts.length (0, 0, 0) = x := by
      rw [List.getD_eq_getElem?_getD, List.getElem?_append_right (Nat.le_refl _), Nat.sub_self]; rfl
    have := h6 ts.length (by rw [List.length_append, List.length_singleton]; omega) (by rw [eg]; exact hx)
    rw [eg] at this
    unfold zg
    rw [e]
    exact this
section LM
variable (xs : Option (List Int32)) (d : Nat)
theorem ct_141f (hd : 1 ≤ d) (Q : zS → Prop) : ∀ (n : Nat) (ts : List lxT) (s : zS) (a1 a6 : Int32), mR ts s → a6.toInt + n = a1.toInt → 0 ≤ a6.toInt → ts.length + n + 1 ≤ 420 → (∀ s1, mR (ts ++ List.replicate n (6, (s.1 21).toInt, (s.1 21).toInt) ++ [(7, (s.1 21).toInt, (s.1 21).toInt)]) s1 → zE [23] [34, 35, 36, 37, 38] s s1 → Q s1) → zWv xs d 141 247 [(0, .ref 32), (1, .int a1), (6, .int a6)] s Q := by
  obtain ⟨d, rfl⟩ : ∃ e, d = e + 1 := ⟨d - 1, by omega⟩
  intro n
  induction n with
  | zero =>
    intro ts s a1 a6 hk h1 h0 hn hQ
    refine vc_141_247 xs d s a1 a6 Q ⟨fun h => by omega, fun _ => ?_⟩
    refine ct_140m xs d hk (by omega) 7 0 _ _ 7 (by decide) (fun _ => by decide) _ (fun s1 g1 g2 => hQ s1 ?_ g2)
    rw [List.replicate_zero, List.append_nil]
    exact g1
  | succ n ih =>
    intro ts s a1 a6 hk h1 h0 hn hQ
    refine vc_141_247 xs d s a1 a6 Q ⟨fun _ => ?_, fun h => by omega⟩
    refine ct_140m xs d hk (by omega) 6 0 _ _ 6 (by decide) (fun _ => by decide) _ (fun s1 g1 g2 => ?_)
    have e1 : s1.1 21 = s.1 21 := g2.1 21 rfl
    have hr := zr_t a1
    have e6 : (a6 + 1).toInt = a6.toInt + 1 := ti_1 rfl (by omega) (by have := hr.2; omega)
    refine ih _ s1 a1 (a6 + 1) g1 (by rw [e6]; omega) (by omega) (by rw [List.length_append, List.length_singleton]; omega) (fun s2 q1 q2 => hQ s2 ?_ (zE_t g2 q2))
    rw [e1] at q1
    rw [List.replicate_succ]
    rw [List.append_assoc ts] at q1
    exact q1
theorem ct_141c {t : List Int32} {s : zS} (ht : tM t s) (hd : 1 ≤ d) (a1 a2 a3 a4 : Int32) (Q : zS → Prop) (p : Nat) (hgo : ∀ b : Int32, b.toInt = lx_e lx_N t p → zWv xs d 141 24 [(0, .ref 32), (1, .int a1), (2, .int a2), (3, .int a3), (4, .int a4), (5, .int b)] s Q) : ∀ (n e : Nat) (b : Int32), t.length - e ≤ n → e ≤ t.length → lx_e lx_N t p = lx_e lx_N t e → b.toInt = e → zWv xs d 141 55 [(0, .ref 32), (1, .int a1), (2, .int a2), (3, .int a3), (4, .int a4), (7, .int b)] s Q := by
  obtain ⟨d, rfl⟩ : ∃ e, d = e + 1 := ⟨d - 1, by omega⟩
  have h200 := ht.2.2.1
  intro n
  induction n with
  | zero =>
    intro e b hn hel he hb
    refine vc_141_55 xs d s a1 a2 a3 a4 b Q ?_
    rw [ht.1, hb]
    exact ⟨fun h => by omega, fun _ => hgo b (by rw [he, lx_e_n (by omega), hb])⟩
  | succ n ih =>
    intro e b hn hel he hb
    refine vc_141_55 xs d s a1 a2 a3 a4 b Q ?_
    rw [ht.1, hb]
    refine ⟨fun hlt => ?_, fun _ => hgo b (by rw [he, lx_e_n (by omega), hb])⟩
    have hlt2 : e < t.length := by omega
    refine ⟨tx_X ht.2 (by omega), ?_⟩
    rw [tx_gi ht.2 hlt2]
    refine ⟨fun h10 => hgo b ?_, fun h10 => ih (e + 1) (b + 1) (by omega) (by omega) ?_ (ti_inc hb (by omega))⟩
    · rw [he, lx_e_s hlt2, show lx_N (lx_c t e) = false by simp [lx_N, h10], hb]; rfl
    · rw [he, lx_e_s hlt2, show lx_N (lx_c t e) = true by simp [lx_N, h10]]; rfl
theorem ct_141l (hd : 2 ≤ d) (t : List Int32) (hc : ∀ c ∈ t, ed_ok c = true) (Q : zS → Prop) : ∀ (n p : Nat) (q : lxS) (s : zS) (a1 a2 a3 a4 a5 : Int32), t.length - p < n → p ≤ t.length → lxI p q → tM t s → mR q.1 s → rwR q.2.1 s → a1.toInt = (q.2.1.length : Int) + 1 → a2.toInt = q.2.2.1 → a3.toInt = q.2.2.2.1 → a4 = zb (!q.2.2.2.2) → a5.toInt = p → (∀ s1, mR (lx_fin t (lx_go t n p q)) s1 → zE [23] [34, 35, 36, 37, 38, 39] s s1 → (s1.2 39).length = 210 → Q s1) → zWv xs d 141 24 [(0, .ref 32), (1, .int a1), (2, .int a2), (3, .int a3), (4, .int a4), (5, .int a5)] s Q := by
  obtain ⟨d, rfl⟩ : ∃ e, d = e + 1 := ⟨d - 1, by omega⟩
  have hm : ∀ k, [34, 35, 36, 37, 38, 39].contains k = false → [34, 35, 36, 37, 38].contains k = false := fun k hk => by simp at hk ⊢; omega
  intro n
  induction n with
  | zero => intro p q s a1 a2 a3 a4 a5 hn; exact absurd hn (Nat.not_lt_zero _)
  | succ n ih =>
    intro p q s a1 a2 a3 a4 a5 hn hp hI ht hk hi h1 h2 h3 h4 h5 hQ
    have h200 := ht.2.2.1
    have hb := lxI_b hI (by omega)
    have hI0 := hI
    obtain ⟨i1, i2, i3, i4, i5, i6⟩ := hI
    refine vc_141_24 xs d s a1 a2 a3 a4 a5 Q ?_
    rw [ht.1, h5]
    refine ⟨fun hlt => ?_, fun hge => ?_⟩
    · have hpt : p < t.length := by omega
      have hst := lx_step_gt t p q hpt
      have hI1 := lxI_step hpt hI0
      rw [lx_go_s hpt] at hQ
      have hgo : ∀ (p1 : Nat) (q1 : lxS) (s1 : zS) (b1 b2 b3 b4 b5 : Int32), lx_step t p q = (p1, q1) → zE [23] [34, 35, 36, 37, 38, 39] s s1 → mR q1.1 s1 → rwR q1.2.1 s1 → b1.toInt = (q1.2.1.length : Int) + 1 → b2.toInt = q1.2.2.1 → b3.toInt = q1.2.2.2.1 → b4 = zb (!q1.2.2.2.2) → b5.toInt = p1 → zWv xs (d + 1) 141 24 [(0, .ref 32), (1, .int b1), (2, .int b2), (3, .int b3), (4, .int b4), (5, .int b5)] s1 Q := by
        intro p1 q1 s1 b1 b2 b3 b4 b5 e hE g1 g2 g3 g4 g5 g6 g7
        rw [e] at hst hI1 hQ
        exact ih p1 q1 s1 b1 b2 b3 b4 b5 (by simp only at hst; omega) hst.2 hI1 (tM_E hE rfl rfl ht) g1 g2 g3 g4 g5 g6 g7 (fun s2 r1 r2 r3 => hQ s2 r1 (zE_t hE r2) r3)
      have a5' : (a5 + 1).toInt = ((p + 1 : Nat) : Int) := ti_inc h5 (by omega)
      have hskip : lx_step t p q = (p + 1, q) → zWv xs (d + 1) 141 24 [(0, .ref 32), (1, .int a1), (2, .int a2), (3, .int a3), (4, .int a4), (5, .int (a5 + 1))] s Q := fun e => hgo _ q s a1 a2 a3 a4 (a5 + 1) e (zE_r s) hk hi h1 h2 h3 h4 a5'
      refine ⟨tx_X ht.2 (by omega), ?_⟩
      rw [tx_gi ht.2 hpt]
      have htok : ¬ lx_c t p = 10 → ¬ lx_c t p = 35 → ¬ lx_c t p = 32 → lx_step t p q = ((lx_one t p).2, lx_tok t p q) := by
        intro c1 c2 c3
        unfold lx_step
        rw [if_neg (by omega), if_neg c2, if_neg (by omega)]
      -- behind a token
      have haft : ∀ (ts1 : List lxT) (ind1 : List Int) (b1 b4 v : Int32) (s1 : zS), lx_step t p q = ((lx_one t p).2, (ts1 ++ [((lx_one t p).1, (p : Int), ((lx_one t p).2 : Int))], ind1, lx_op (lx_one t p).1 q.2.2.1, q.2.2.2.1, false)) → zE [23] [34, 35, 36, 37, 38, 39] s s1 → mR (ts1 ++ [((lx_one t p).1, (p : Int), ((lx_one t p).2 : Int))]) s1 → rwR ind1 s1 → b1.toInt = (ind1.length : Int) + 1 → b4 = 1 → v.toInt = (lx_one t p).2 →
        zX (s1.2 37) ((s1.1 23).toInt - 1) ∧ zX (s1.2 34) ((s1.1 23).toInt - 1) ∧ ((zg (s1.2 34) ((s1.1 23).toInt - 1)).toInt = 3 → (((zg (s1.2 37) ((s1.1 23).toInt - 1)).toInt = 40 → (zWv xs (d + 1) 141 24 [(0, .ref 32), (1, .int b1), (2, .int (a2 + 1)), (3, .int a3), (4, .int b4), (5, .int v)] s1 Q)) ∧ (¬ (zg (s1.2 37) ((s1.1 23).toInt - 1)).toInt = 40 → (((zg (s1.2 37) ((s1.1 23).toInt - 1)).toInt = 91 → (zWv xs (d + 1) 141 24 [(0, .ref 32), (1, .int b1), (2, .int (a2 + 1)), (3, .int a3), (4, .int b4), (5, .int v)] s1 Q)) ∧ (¬ (zg (s1.2 37) ((s1.1 23).toInt - 1)).toInt = 91 → (((zg (s1.2 37) ((s1.1 23).toInt - 1)).toInt = 41 → ((0 < a2.toInt → (zWv xs (d + 1) 141 24 [(0, .ref 32), (1, .int b1), (2, .int (a2 - 1)), (3, .int a3), (4, .int b4), (5, .int v)] s1 Q)) ∧ (¬ 0 < a2.toInt → (zWv xs (d + 1) 141 24 [(0, .ref 32), (1, .int b1), (2, .int a2), (3, .int a3), (4, .int b4), (5, .int v)] s1 Q)))) ∧ (¬ (zg (s1.2 37) ((s1.1 23).toInt - 1)).toInt = 41 → (((zg (s1.2 37) ((s1.1 23).toInt - 1)).toInt = 93 → ((0 < a2.toInt → (zWv xs (d + 1) 141 24 [(0, .ref 32), (1, .int b1), (2, .int (a2 - 1)), (3, .int a3), (4, .int b4), (5, .int v)] s1 Q)) ∧ (¬ 0 < a2.toInt → (zWv xs (d + 1) 141 24 [(0, .ref 32), (1, .int b1), (2, .int a2), (3, .int a3), (4, .int b4), (5, .int v)] s1 Q)))) ∧ (¬ (zg (s1.2 37) ((s1.1 23).toInt - 1)).toInt = 93 → (zWv xs (d + 1) 141 24 [(0, .ref 32), (1, .int b1), (2, .int a2), (3, .int a3), (4, .int b4), (5, .int v)] s1 Q)))))))))) ∧ (¬ (zg (s1.2 34) ((s1.1 23).toInt - 1)).toInt = 3 → (zWv xs (d + 1) 141 24 [(0, .ref 32), (1, .int b1), (2, .int a2), (3, .int a3), (4, .int b4), (5, .int v)] s1 Q)) := by
        intro ts1 ind1 b1 b4 v s1 e hE g1 g2 g3 g4 g5
        obtain ⟨x1, x2, x3, x4⟩ := mkR_last g1.1
        have hcod := lx_one_c t p
        simp only at x3 x4
        generalize (lx_one t p).1 = c at *
        have hfin : ∀ b2 : Int32, b2.toInt = lx_op c q.2.2.1 → zWv xs (d + 1) 141 24 [(0, .ref 32), (1, .int b1), (2, .int b2), (3, .int a3), (4, .int b4), (5, .int v)] s1 Q := fun b2 hb2 => hgo _ _ s1 b1 b2 a3 b4 v e hE g1 g2 g3 hb2 h3 g4 g5
        have q1 : lx_op c q.2.2.1 = q.2.2.1 + 1 → _ := fun eo => hfin (a2 + 1) (by rw [ti_1 h2 (by omega) (by omega), eo])
        have q2 : lx_op c q.2.2.1 = q.2.2.1 - 1 → _ := fun eo => hfin (a2 - 1) (by rw [ti_m1 h2 (by omega) (by omega), eo])
        have q3 : lx_op c q.2.2.1 = q.2.2.1 → _ := fun eo => hfin a2 (by rw [h2, eo])
        refine ⟨x1, x2, ?_⟩
        rw [x3, h2]
        have hk3 : lx_kd c = 3 → 30 ≤ c := by
          intro hk
          unfold lx_kd at hk
          split at hk
          · subst hk
            rcases hcod with h | h | h | h | h | h
            · exact absurd h (by decide)
            · exact absurd h (by decide)
            · exact absurd h (by decide)
            · exact absurd h (by decide)
            · omega
            · exact absurd h (by decide)
          · split at hk
            · omega
            · omega
        have hk4 : ¬ lx_kd c = 3 → c < 40 ∨ 93 < c := by
          intro hk
          unfold lx_kd at hk
          split at hk
          · omega
          · split at hk
            · omega
            · exact absurd rfl hk
        refine ⟨fun hk => ?_, fun hk => q3 (lx_op_n (hk4 hk))⟩
        have h30 := hk3 hk
        rw [x4 (by omega)]
        have hwh : lx_wh c = if c = 128 then 1 else c := by
          unfold lx_wh
          rw [if_neg (by omega), if_neg (by omega)]
        rw [hwh]
        by_cases h128 : c = 128
        · rw [if_pos h128]
          have := q3 (lx_op_n (by omega))
          repeat' (first | exact this | refine And.intro ?_ ?_ | intro _)
          all_goals omega
        · rw [if_neg h128]
          unfold lx_op at q1 q2 q3
          repeat' (first | refine And.intro ?_ ?_ | intro _)
          all_goals first | exact q1 (by rw [if_pos (by omega)]) | exact q2 (by rw [if_neg (by omega), if_pos (by omega)]) | exact q3 (by rw [if_neg (by omega), if_neg (by omega)])
      refine ⟨fun h35 => ?_, fun h35 => ⟨fun h10 => ⟨fun h0 => ?_, fun h0 => ?_⟩, fun h10 => ⟨fun h32 => ?_, fun h32 => ⟨fun hb0 => ?_, fun hb0 => ?_⟩⟩⟩⟩
      · have e : lx_step t p q = (lx_e lx_N t p, q) := by
          unfold lx_step
          rw [if_neg (by omega), if_pos h35]
        refine ct_141c xs (d + 1) ht (by omega) a1 a2 a3 a4 Q p (fun b hb => hgo _ q s a1 a2 a3 a4 b e (zE_r s) hk hi h1 h2 h3 h4 hb) _ (p + 1) (a5 + 1) (Nat.le_refl _) (by omega) ?_ a5'
        rw [lx_e_s hpt, show lx_N (lx_c t p) = true by simp [lx_N, h35]]; rfl
      · have e : lx_step t p q = (p + 1, (lx_nl q.1 q.2.2.2.2, q.2.1, q.2.2.1, p + 1, true)) := by
          unfold lx_step
          rw [if_pos ⟨h10, by omega⟩]
        refine ct_142 xs d (by omega) hk q.2.2.2.2 i5 (by omega) a4 h4 _ (fun s1 g1 g2 => ?_)
        exact hgo _ _ s1 a1 a2 (a5 + 1) 0 (a5 + 1) e (zE_m g2 (fun _ h => h) hm) g1 (rwR_E g2 rfl hi) h1 h2 a5' rfl a5'
      · refine hskip ?_
        unfold lx_step
        rw [if_neg (by omega), if_neg h35, if_pos (Or.inl h10)]
      · refine hskip ?_
        unfold lx_step
        rw [if_neg (by omega), if_neg h35, if_pos (Or.inr h32)]
      · rw [h4, zb_e] at hb0
        have hb0 : q.2.2.2.2 = true := by cases e : q.2.2.2.2 <;> simp [e] at hb0 ⊢
        have e := htok h10 h35 h32
        have e2 : lx_tok t p q = ((lx_beg ((p : Int) - q.2.2.2.1) p q.1 q.2.1).1 ++ [((lx_one t p).1, (p : Int), ((lx_one t p).2 : Int))], (lx_beg ((p : Int) - q.2.2.2.1) p q.1 q.2.1).2, lx_op (lx_one t p).1 q.2.2.1, q.2.2.2.1, false) := by
          obtain ⟨ts, ind, op, lb, bare⟩ := q
          simp only at hb0
          subst hb0
          rfl
        rw [e2] at e
        rw [hb0, cond_true] at i6
        have hbb := lx_beg_b (n := (p : Int) - q.2.2.2.1) (p := p) (ts := q.1) (ind := q.2.1) (lb := q.2.2.2.1) i1 (by omega) (by omega) (by omega) i6.2
        refine ct_143 xs d (by omega) hk hi (by omega) (by omega) a1 a3 a5 h1 p q.2.2.2.1 h3 h5 (by omega) (by omega) _ (fun v s1 g0 g1 g2 g3 => ?_)
        refine ct_144 xs d (by omega) (tM_E g3 rfl rfl ht) hc g1 (by omega) p hpt a5 h5 _ (fun w s2 r1 r2 r3 => ?_)
        exact haft _ _ v 1 w s2 e (zE_t g3 (zE_m r3 (fun _ h => h) hm)) r2 (rwR_E r3 rfl g2) g0 rfl r1
      · rw [h4, zb_n] at hb0
        have hb0 : q.2.2.2.2 = false := by cases e : q.2.2.2.2 <;> simp [e] at hb0 ⊢
        have e := htok h10 h35 h32
        have e2 : lx_tok t p q = (q.1 ++ [((lx_one t p).1, (p : Int), ((lx_one t p).2 : Int))], q.2.1, lx_op (lx_one t p).1 q.2.2.1, q.2.2.2.1, false) := by
          obtain ⟨ts, ind, op, lb, bare⟩ := q
          simp only at hb0
          subst hb0
          rfl
        rw [e2] at e
        refine ct_144 xs d (by omega) ht hc hk (by omega) p hpt a5 h5 _ (fun w s2 r1 r2 r3 => ?_)
        exact haft _ _ a1 a4 w s2 e (zE_m r3 (fun _ h => h) hm) r2 (rwR_E r3 rfl hi) h1 (by rw [h4, hb0]; rfl) r1
    · rw [lx_go_e (by omega)] at hQ
      refine ct_142 xs d (by omega) hk q.2.2.2.2 i5 (by omega) a4 h4 _ (fun s1 g1 g2 => ?_)
      have hl : (lx_nl q.1 q.2.2.2.2).length ≤ q.1.length + 1 := by
        unfold lx_nl
        cases q.2.2.2.2 <;> simp
      refine ct_141f xs (d + 1) (by omega) Q q.2.1.length _ s1 a1 1 g1 (by rw [h1]; show (1 : Int) + _ = _; omega) (by decide) (by omega) (fun s2 r1 r2 => hQ s2 ?_ (zE_t (zE_m g2 (fun _ h => h) hm) (zE_m r2 (fun _ h => h) hm)) (by rw [r2.2 39 rfl, g2.2 39 rfl]; exact hi.1))
      rw [g2.1 21 rfl, ht.1] at r1
      exact r1
/-- split: the tokens of the text -/
theorem ct_141 (hd : 2 ≤ d) {t : List Int32} {s : zS} (ht : tM t s) (hc : ∀ c ∈ t, ed_ok c = true) (h4 : (s.2 34).length = 420) (h5 : (s.2 35).length = 420) (h6 : (s.2 36).length = 420) (h7 : (s.2 37).length = 420) (h8 : (s.2 38).length = 420) (h9 : (s.2 39).length = 210) (Q : zS → Prop) (hQ : ∀ s1, mR (lx t) s1 → zE [23] [34, 35, 36, 37, 38, 39] s s1 → (s1.2 39).length = 210 → Q s1) : zWv xs d 141 0 [(0, .ref 32)] s Q := by
  obtain ⟨d, rfl⟩ : ∃ e, d = e + 1 := ⟨d - 1, by omega⟩
  refine vc_141_0 xs d s Q ⟨⟨by omega, by rw [h9]; omega, by rw [h9]; omega⟩, ?_⟩
  refine ct_141l xs (d + 1) hd t hc Q (t.length + 1) 0 ([], [], 0, 0, true) _ 1 0 0 0 0 (by omega) (by omega) lxI_0 ht ⟨⟨rfl, zP_nil h4, zP_nil h5, zP_nil h6, h7, fun i hi => absurd hi (Nat.not_lt_zero i)⟩, zP_nil h8⟩ ⟨?_, by decide, ?_, fun j hj => absurd hj (Nat.not_lt_zero j)⟩ rfl rfl rfl rfl rfl (fun s1 g1 g2 g3 => hQ s1 g1 (zE_t (zE_a (zE_f (zE_r s) rfl) rfl) g2) g3)
  · show (zu (s.2 39) 0 0).length = 210
    rw [zu_len]; exact h9
  · show ((zu (s.2 39) 0 0).getD 0 0).toInt = 0
    unfold zu
    rw [getD_set (by rw [h9]; decide), if_pos (by decide)]
    rfl
end LM
