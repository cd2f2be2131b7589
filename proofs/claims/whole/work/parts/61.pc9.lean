/-! Parser.read. -/
def pM0 : pM := ([], [0], [0], [-1], [], [])
section PC
variable (xs : Option (List Int32)) {T : List lxT} {pl : Nat → Int}
theorem ct_40l (hT : tkW T pl) (hb : ∀ i, 0 ≤ tb T i) (d : Nat) (hd : 131 ≤ d) (ctx : pC) (Q : zS → Prop) : ∀ (k : Nat) (x : Int) (st : pS) (M : pM) (s : zS) (a2 : Int32), 0 ≤ a2.toInt → a2.toInt ≤ st.1 → pF (pp T k 13 ctx 0 x st) → pG T ctx 0 st M s 0 → pZ T ctx M s (pp T k 13 ctx 0 x st) (fun _ s1 => Q s1) → zWv xs d 40 8 [(0, .ref 26), (1, .int 1), (2, .int a2)] s Q := by
  obtain ⟨d, rfl⟩ : ∃ e, d = e + 1 := ⟨d - 1, by omega⟩
  intro k
  induction k with
  | zero => intro x st M s a2 h0 h2 hF; exact absurd rfl hF
  | succ k ih =>
    intro x st M s a2 h0 h2 hF hG hZ
    rw [pp] at hF hZ
    have hi := hG.2.2.2.2.2.2
    have hU := hG.1.2.1
    have hl := tkR_len hG.1.1.1
    have e3 : (a2 + 1).toInt = a2.toInt + 1 := ti_1 rfl (by omega) (by omega)
    refine vc_40_8 xs d s 1 a2 Q ?_
    rw [hG.1.1.1.1, hU.2.1]
    refine ⟨fun _ => ⟨fun h => absurd h (by decide), fun _ => ⟨fun h7 => ?_, fun h7 => ?_⟩⟩, fun h => by omega⟩
    · rw [if_pos h7] at hZ
      exact hZ s (by rw [pMo_0]; exact hG.1) (pE_r s)
    · rw [if_neg h7] at hF hZ
      refine (sSt xs hT hb k).1 d _ _ _ _ _ _ _ _ (by omega) (pF_bd1 hF) hG (pZ_bd hZ (fun st1 o1 s1 hr g1 g2 hZ1 => ?_) (fun e s1 hr g1 g2 hq => ?_))
      · have hq1 := pH_i (pQ_pp hT k 10 _ _ _ _ hi) hr
        have hG1 := pG_o hG hq1 g1
        have p1 := hq1.1
        simp only [p_q] at p1
        exact ih 0 st1 _ s1 _ (by omega) (by omega) (pF_bd2 hF hr) hG1 hZ1
      · refine vc_40_8 xs d s1 0 _ Q ⟨fun _ => ⟨fun _ => hq s1 g1 g2, fun h => absurd rfl h⟩, fun _ => hq s1 g1 g2⟩
theorem ct_41 (hT : tkW T pl) (d : Nat) (hd : 2 ≤ d) {s : zS} (hK : pK T s) (Q : zS → Prop) (hQ : ∀ s1, pG T (0, 0, 0, 0) 0 (0, 0, 1, 0) pM0 s1 0 → pE s s1 → Q s1) : zWv xs d 41 0 [(0, .ref 26)] s Q := by
  obtain ⟨d, rfl⟩ : ∃ e, d = e + 2 := ⟨d - 2, by omega⟩
  refine vc_41_0 xs (d + 1) s Q ?_
  refine vc_69_0 xs d s _ ?_
  obtain ⟨k1, k2, k3, k4, k5, k6, k7, k8, k9, k10, k11, k12, k13, k14, k15, k16, k17⟩ := hK
  have hK1 : pK T (zf s 6 0) := ⟨k1, k2, k3, k4, k5, k6, k7, k8, k9, k10, k11, k12, k13, by show (0 : Int) ≤ 0; decide, by show (0 : Int) ≤ 32; decide, k16, k17⟩
  refine ct_70 xs d hK1 0 0 _ (fun v s1 q1 q2 q3 => ?_)
  have hS := (q3 [] [] [] (by decide) ⟨rfl, rfl, rfl, zP_nil k4, zP_nil k5, zP_nil k6⟩).2
  obtain ⟨l1, l2, l3, l4, l5, l6, l7, l8, l9, l10, l11, l12, l13, l14, l15, l16, l17⟩ := q1
  have hl := hT.1
  obtain ⟨c1, c2, _, c4, c5, _⟩ := tk_c l1 hl
  have hcnt : (s1.1 2).toInt = (T.length : Int) := l1.1
  refine vc_66_0 xs (d + 1) _ _ ?_
  have fin : Q (zf (zf (zf (zf (zf (zf (zf (zf (zf (zf (zf (zf (zf s1 7 0) 5 0) 12 0) 13 0) 14 0) 15 (-1)) 16 (-1)) 8 (-1)) 9 4) 11 0) 8 ((-1) + 1)) 9 (zg (s1.2 4) 0)) 10 (zg (s1.2 5) 0)) := by
    refine hQ _ ⟨⟨?_, ?_, ?_⟩, ?_, ⟨rfl, rfl⟩, by decide, by decide, rfl, hl⟩ ?_
    · exact ⟨l1, l2, l3, l4, l5, l6, l7, l8, l9, l10, l11, by show (0 : Int) ≤ 0; decide, by show (0 : Int) ≤ 204; decide, l14, l15, by show (0 : Int) ≤ 0; decide, by show (0 : Int) ≤ 100; decide⟩
    · exact ⟨by show ((-1 : Int32) + 1).toInt = 0; decide, c4, c5, rfl, rfl⟩
    · intro _
      refine ⟨⟨rfl, zP_nil l2, zP_nil l3⟩, hS, ⟨rfl, zP_nil l7, zP_nil l8, zP_nil l9, zP_nil l10, zP_nil l11⟩, ?_, ⟨rfl, rfl⟩⟩
      show ((-1 : Int32)).toInt = -1
      decide
    · exact ⟨rfl, by decide, by decide, rfl, 0, by decide, by decide, by decide, by decide, rfl⟩
    · refine zE_f (zE_f (zE_f (zE_f (zE_f (zE_f (zE_f (zE_f (zE_f (zE_f (zE_f (zE_f (zE_f (zE_t (s1 := zf s 6 0) (zE_f (zE_r s) rfl) (zE_m q2 (fun k hk => by simp at hk ⊢; omega) (fun k hk => by simp at hk ⊢; omega))) rfl) rfl) rfl) rfl) rfl) rfl) rfl) rfl) rfl) rfl) rfl) rfl) rfl
  have z8 : ((-1 : Int32)).toInt = -1 := by decide
  have z9 : ((4 : Int32)).toInt = 4 := by decide
  show ((4 : Int32).toInt < 4 → _) ∧ (¬ (4 : Int32).toInt < 4 → ((8 < (4 : Int32).toInt → _) ∧ (¬ 8 < (4 : Int32).toInt → (zR ((-1 : Int32).toInt + 1) ∧ (((-1 : Int32).toInt + 1) < (s1.1 2).toInt → (zX (s1.2 4) ((-1 : Int32).toInt + 1) ∧ zX (s1.2 5) ((-1 : Int32).toInt + 1) ∧ _)) ∧ (¬ ((-1 : Int32).toInt + 1) < (s1.1 2).toInt → _)))))
  refine ⟨fun h => absurd h (by decide), fun _ => ⟨fun h => absurd h (by decide), fun _ => ⟨⟨by decide, by decide⟩, fun _ => ⟨c1, c2, fin⟩, fun h => ?_⟩⟩⟩
  rw [z8, hcnt] at h
  omega
/-- Parser.read -/
theorem ct_40 (hT : tkW T pl) (hb : ∀ i, 0 ≤ tb T i) (d : Nat) (hd : 131 ≤ d) {s : zS} (hK : pK T s) (Q : zS → Prop) (k : Nat) (hF : pF (pp T k 13 (0, 0, 0, 0) 0 0 (0, 0, 1, 0))) (hQ : ∀ s1, (∀ e, pp T k 13 (0, 0, 0, 0) 0 0 (0, 0, 1, 0) = .inl e → pFl T e s1) → (∀ st o, pp T k 13 (0, 0, 0, 0) 0 0 (0, 0, 1, 0) = .inr (st, o) → pI T (0, 0, 0, 0) st (pMo pM0 o) s1) → pE s s1 → Q s1) : zWv xs d 40 0 [(0, .ref 26)] s Q := by
  obtain ⟨d, rfl⟩ : ∃ e, d = e + 1 := ⟨d - 1, by omega⟩
  refine vc_40_0 xs d s Q ?_
  refine ct_41 xs hT d (by omega) hK _ (fun s1 g1 g2 => ?_)
  refine ct_40l xs hT hb (d + 1) hd _ Q k 0 _ _ s1 0 (by decide) (by decide) hF g1 (pZ_mk (fun e hr s2 y1 y2 => hQ s2 (fun e2 hr2 => ?_) (fun st o hr2 => ?_) (pE_t g2 y2)) (fun st o hr s2 y1 y2 => hQ s2 (fun e2 hr2 => ?_) (fun st2 o2 hr2 => ?_) (pE_t g2 y2)))
  · rw [hr] at hr2; cases hr2; exact y1
  · rw [hr] at hr2; cases hr2
  · rw [hr] at hr2; cases hr2
  · rw [hr] at hr2; cases hr2; exact y1
end PC
