section LM
variable (xs : Option (List Int32)) (d : Nat)
theorem ct_144 (hd : 1 ≤ d) {t : List Int32} {ts : List lxT} {s : zS} (ht : tM t s) (hc : ∀ c ∈ t, ed_ok c = true) (hk : mR ts s) (hn : ts.length < 420) (p : Nat) (hp : p < t.length) (a : Int32) (ha : a.toInt = p) (Q : Int32 → zS → Prop) (hQ : ∀ (v : Int32) (s1 : zS), v.toInt = (lx_one t p).2 → mR (ts ++ [((lx_one t p).1, (p : Int), ((lx_one t p).2 : Int))]) s1 → zE [23] [34, 35, 36, 37, 38] s s1 → Q v s1) : zWi xs d 144 0 [(0, .ref 32), (1, .int a)] s Q := by
  obtain ⟨d, rfl⟩ : ∃ e, d = e + 1 := ⟨d - 1, by omega⟩
  have h200 := ht.2.2.1
  have a1 : (a + 1).toInt = ((p + 1 : Nat) : Int) := ti_inc ha (by omega)
  have a2 : ((a + 1) + 1).toInt = ((p + 2 : Nat) : Int) := ti_inc a1 (by omega)
  have hput : ∀ (k w e v : Int32), k.toInt = lx_kd (lx_one t p).1 → ((lx_one t p).1 ≠ 8 → w.toInt = lx_wh (lx_one t p).1) → e.toInt = (lx_one t p).2 → v.toInt = (lx_one t p).2 → zWv xs d 140 0 [(0, .ref 32), (1, .int k), (2, .int w), (3, .int a), (4, .int e)] s (fun s1 => Q v s1) := by
    intro k w e v e1 e2 e3 e4
    refine ct_140m xs d hk hn k w a e (lx_one t p).1 e1 e2 _ (fun s1 g1 g2 => hQ v s1 e4 ?_ g2)
    rw [ha, e3] at g1
    exact g1
  have hX := tx_X ht.2 (p := p) (by omega)
  have hG := tx_gi ht.2 hp
  have hC := tC_b hc hp
  have hC2 : lx_c t p = (t.getD p 0).toInt := rfl
  -- the end of a name
  have hnm : lx_L (lx_c t p) = true → ∀ (e : Nat) (b : Int32) (w : Int64), lx_e lx_A t p = e → p < e → e ≤ t.length → b.toInt = e → w = lx_k t (e - p) p 0 → zR ((e : Int) - p) ∧ (8 < (e : Int) - p → (zWv xs d 140 0 [(0, .ref 32), (1, .int 0), (2, .int 0), (3, .int a), (4, .int b)] s (fun s29 => Q b s29))) ∧ (¬ 8 < (e : Int) - p → (zWi xs d 139 0 [(0, .long w)] s (fun v34 s32 => (0 < v34.toInt → (zWv xs d 140 0 [(0, .ref 32), (1, .int 2), (2, .int v34), (3, .int a), (4, .int b)] s32 (fun s39 => Q b s39))) ∧ (¬ 0 < v34.toInt → (zWv xs d 140 0 [(0, .ref 32), (1, .int 0), (2, .int v34), (3, .int a), (4, .int b)] s32 (fun s42 => Q b s42)))))) := by
    intro hL e b w he hpe hel hb hw
    have eo : lx_one t p = (lx_wc (lx_w t p e), e) := by
      unfold lx_one
      rw [hL, if_pos rfl, he]
    refine ⟨⟨by omega, by omega⟩, fun h8 => ?_, fun h8 => ?_⟩
    · have e0 : lx_w t p e = 0 := by unfold lx_w; rw [if_pos (by omega)]
      have e1 : lx_wc 0 = 0 := by decide
      rw [e0, e1] at eo
      exact hput 0 0 b b (by rw [eo]; rfl) (fun _ => by rw [eo]; rfl) (by rw [eo, hb]) (by rw [eo, hb])
    · have e0 : lx_w t p e = w := by unfold lx_w; rw [if_neg (by omega), hw]
      rw [e0] at eo
      refine ct_139 xs d s w _ (fun v hv => ?_)
      have hwb := lx_wc_b w
      unfold lx_wm at hv
      refine ⟨fun hpos => ?_, fun hnp => ?_⟩
      · have hne : ¬ lx_wc w = 0 := fun e0 => by rw [if_pos e0] at hv; omega
        rw [if_neg hne] at hv
        refine hput 2 v b b ?_ (fun _ => ?_) (by rw [eo, hb]) (by rw [eo, hb])
        · rw [eo]; show (2 : Int) = lx_kd (lx_wc w); unfold lx_kd; rw [if_neg (by omega), if_pos (by omega)]
        · rw [eo]; show v.toInt = lx_wh (lx_wc w); unfold lx_wh; rw [if_neg (by omega), if_pos (by omega)]; exact hv
      · have he0 : lx_wc w = 0 := by
          by_cases e0 : lx_wc w = 0
          · exact e0
          · rw [if_neg e0] at hv; omega
        rw [if_pos he0] at hv
        refine hput 0 v b b ?_ (fun _ => ?_) (by rw [eo, hb]) (by rw [eo, hb])
        · rw [eo]; show (0 : Int) = lx_kd (lx_wc w); rw [he0]; rfl
        · rw [eo]; show v.toInt = lx_wh (lx_wc w); rw [he0]; exact hv
  have hloop : lx_L (lx_c t p) = true → ∀ (n e : Nat) (b : Int32) (w : Int64), t.length - e ≤ n → p < e → e ≤ t.length → lx_e lx_A t p = lx_e lx_A t e → b.toInt = e → w = lx_k t (e - p) p 0 → zWi xs (d + 1) 144 22 [(0, .ref 32), (1, .int a), (3, .int b), (4, .long w)] s Q := by
    intro hL n
    induction n with
    | zero =>
      intro e b w hn hpe hel he hb hw
      refine vc_144_22 xs d s a b w Q ?_
      rw [ht.1, hb, ha]
      refine ⟨fun h => by omega, fun _ => ?_⟩
      exact hnm hL e b w (by rw [he, lx_e_n (by omega)]) hpe hel hb hw
    | succ n ih =>
      intro e b w hn hpe hel he hb hw
      refine vc_144_22 xs d s a b w Q ?_
      rw [ht.1, hb, ha]
      refine ⟨fun hlt => ?_, fun _ => hnm hL e b w (by rw [he, lx_e_n (by omega)]) hpe hel hb hw⟩
      have hlt2 : e < t.length := by omega
      have hXe := tx_X ht.2 (p := e) (by omega)
      have hGe := tx_gi ht.2 hlt2
      have hgo : lx_A (lx_c t e) = true → zX (s.2 31) (e : Int) ∧ zWi xs (d + 1) 144 22 [(0, .ref 32), (1, .int a), (3, .int (b + 1)), (4, .long ((w * 256) + (Int32.toInt64 (zg (s.2 31) (e : Int)))))] s Q := by
        intro hA
        refine ⟨hXe, ih (e + 1) (b + 1) _ (by omega) (by omega) (by omega) ?_ (ti_inc hb (by omega)) ?_⟩
        · rw [he, lx_e_s hlt2, hA]; rfl
        · rw [show e + 1 - p = (e - p) + 1 by omega, lx_k_s, ← hw, show p + (e - p) = e by omega, lx_sh _ _ (tC_b hc hlt2).1 (by have := (tC_b hc hlt2).2; omega), tx_g ht.2 hlt2]
      have hend : lx_A (lx_c t e) = false → _ := fun hA => hnm hL e b w (by rw [he, lx_e_s hlt2, hA]; rfl) hpe hel hb hw
      refine ⟨hXe, ?_⟩
      refine ct_138 xs d s _ _ ?_
      simp only [zb_e, Bool.not_eq_false]
      rw [hGe]
      refine ⟨fun hL1 => ⟨hXe, ?_⟩, fun hL1 => hgo (by simp [lx_A, hL1])⟩
      refine ct_137 xs d s _ _ ?_
      simp only [zb_e, Bool.not_eq_false]
      rw [hGe]
      exact ⟨fun hD1 => hend (by simp [lx_A, hL1, hD1]), fun hD1 => hgo (by simp [lx_A, hD1])⟩
  have hdig : lx_L (lx_c t p) = false → lx_D (lx_c t p) = true → ∀ (n e : Nat) (b : Int32), t.length - e ≤ n → e ≤ t.length → lx_e lx_D t p = lx_e lx_D t e → b.toInt = e → zWi xs (d + 1) 144 123 [(0, .ref 32), (1, .int a), (3, .int b)] s Q := by
    intro hL hD n
    have eo : lx_one t p = (1, lx_e lx_D t p) := by
      unfold lx_one
      rw [hL, hD, if_neg Bool.false_ne_true, if_pos rfl]
    have hfin : ∀ (e : Nat) (b : Int32), lx_e lx_D t p = e → b.toInt = e → zWv xs d 140 0 [(0, .ref 32), (1, .int 1), (2, .int 0), (3, .int a), (4, .int b)] s (fun s18 => Q b s18) := fun e b he hb => hput 1 0 b b (by rw [eo]; rfl) (fun _ => by rw [eo]; rfl) (by rw [eo, hb, he]) (by rw [eo, hb, he])
    induction n with
    | zero =>
      intro e b hn hel he hb
      refine vc_144_123 xs d s a b Q ?_
      rw [ht.1, hb]
      exact ⟨fun h => by omega, fun _ => hfin e b (by rw [he, lx_e_n (by omega)]) hb⟩
    | succ n ih =>
      intro e b hn hel he hb
      refine vc_144_123 xs d s a b Q ?_
      rw [ht.1, hb]
      refine ⟨fun hlt => ?_, fun _ => hfin e b (by rw [he, lx_e_n (by omega)]) hb⟩
      have hlt2 : e < t.length := by omega
      refine ⟨tx_X ht.2 (by omega), ?_⟩
      refine ct_137 xs d s _ _ ?_
      simp only [zb_e, Bool.not_eq_false]
      rw [tx_gi ht.2 hlt2]
      refine ⟨fun hD1 => hfin e b (by rw [he, lx_e_s hlt2, hD1]; rfl) hb, fun hD1 => ih (e + 1) (b + 1) (by omega) (by omega) ?_ (ti_inc hb (by omega))⟩
      rw [he, lx_e_s hlt2, hD1]; rfl
  -- signs and BAD
  have hsg : lx_L (lx_c t p) = false → lx_D (lx_c t p) = false → ¬ (lx_c t p = 58 ∧ lx_at t ((p + 1 : Nat) : Int) = 61) → lx_sg (lx_c t p) = true → zWv xs d 140 0 [(0, .ref 32), (1, .int 3), (2, .int (zg (s.2 31) (p : Int))), (3, .int a), (4, .int (a + 1))] s (fun s40 => Q (a + 1) s40) := by
    intro hL hD hW hs
    have eo : lx_one t p = (lx_c t p, p + 1) := by
      unfold lx_one
      rw [hL, hD, if_neg Bool.false_ne_true, if_neg Bool.false_ne_true, if_neg hW, hs, if_pos rfl]
    have hs2 := of_decide_eq_true hs
    refine hput 3 _ (a + 1) (a + 1) ?_ (fun _ => ?_) (by rw [eo, a1]) (by rw [eo, a1])
    · rw [eo]; show (3 : Int) = lx_kd (lx_c t p); unfold lx_kd; rw [if_neg (by omega), if_neg (by omega)]
    · rw [eo, hG]; show lx_c t p = lx_wh (lx_c t p); unfold lx_wh; rw [if_neg (by omega), if_neg (by omega), if_neg (by omega)]
  have hbd : lx_L (lx_c t p) = false → lx_D (lx_c t p) = false → lx_sg (lx_c t p) = false → zWv xs d 140 0 [(0, .ref 32), (1, .int 8), (2, .int (zg (s.2 31) (p : Int))), (3, .int a), (4, .int (a + 1))] s (fun s40 => Q (a + 1) s40) := by
    intro hL hD hs
    have hs2 := of_decide_eq_false hs
    have eo : lx_one t p = (8, p + 1) := by
      unfold lx_one
      rw [hL, hD, if_neg Bool.false_ne_true, if_neg Bool.false_ne_true, if_neg (fun e => by omega), hs, if_neg Bool.false_ne_true]
    exact hput 8 _ (a + 1) (a + 1) (by rw [eo]; rfl) (fun h => absurd (by rw [eo]) h) (by rw [eo, a1]) (by rw [eo, a1])
  refine vc_144_0 xs d s a Q ?_
  rw [ha]
  refine ⟨hX, ?_⟩
  refine ct_138 xs d s _ _ ?_
  simp only [zb_e, Bool.not_eq_false]
  rw [hG]
  refine ⟨fun hL => ?_, fun hL => ?_⟩
  · refine ct_137 xs d s _ _ ?_
    simp only [zb_e, Bool.not_eq_false]
    rw [hG, ht.1]
    refine ⟨fun hD => ⟨fun h58 => ⟨⟨by omega, by omega⟩, fun hlt => ?_, fun hlt => ?_⟩, fun h58 => ?_⟩, fun hD => ?_⟩
    · have hlt2 : p + 1 < t.length := by omega
      have hX1 := tx_X ht.2 (p := p + 1) (by omega)
      have hG1 := tx_gi ht.2 hlt2
      have hat : lx_at t ((p + 1 : Nat) : Int) = lx_c t (p + 1) := lx_at_c hlt2
      rw [show (((p + 1 : Nat)) : Int) = (p : Int) + 1 by omega] at hX1 hG1 hat
      refine ⟨hX1, ?_⟩
      rw [hG1]
      refine ⟨fun h61 => ?_, fun h61 => ?_⟩
      · have eo : lx_one t p = (128, p + 2) := by
          unfold lx_one
          rw [hL, hD, if_neg Bool.false_ne_true, if_neg Bool.false_ne_true, if_pos ⟨h58, by rw [show (((p + 1 : Nat)) : Int) = (p : Int) + 1 by omega, hat, h61]⟩]
        exact hput 3 1 _ _ (by rw [eo]; rfl) (fun _ => by rw [eo]; rfl) (by rw [eo, a2]) (by rw [eo, a2])
      · have hW : ¬ (lx_c t p = 58 ∧ lx_at t ((p + 1 : Nat) : Int) = 61) := by
          rw [show (((p + 1 : Nat)) : Int) = (p : Int) + 1 by omega, hat]; omega
        have := hsg hL hD hW (by unfold lx_sg; rw [h58]; rfl)
        repeat' (first | exact this | refine And.intro ?_ ?_ | intro _)
    · have hW : ¬ (lx_c t p = 58 ∧ lx_at t ((p + 1 : Nat) : Int) = 61) := by
        unfold lx_at
        rw [if_neg (by omega)]
        omega
      have := hsg hL hD hW (by unfold lx_sg; rw [h58]; rfl)
      repeat' (first | exact this | refine And.intro ?_ ?_ | intro _)
    · have hW : ¬ (lx_c t p = 58 ∧ lx_at t ((p + 1 : Nat) : Int) = 61) := fun e => h58 e.1
      have q1 := hsg hL hD hW
      have q2 := hbd hL hD
      repeat' (first | refine And.intro ?_ ?_ | intro _)
      all_goals first | exact q1 (decide_eq_true (by omega)) | exact q2 (decide_eq_false (by omega))
    · exact hdig hL hD _ (p + 1) (a + 1) (Nat.le_refl _) (by omega) (by rw [lx_e_s hp, hD]; rfl) a1
  · refine hloop hL _ (p + 1) (a + 1) _ (Nat.le_refl _) (by omega) (by omega) ?_ a1 ?_
    · rw [lx_e_s hp, show lx_A (lx_c t p) = true by simp [lx_A, hL]]; rfl
    · rw [show p + 1 - p = 0 + 1 by omega, lx_k_s, Nat.add_zero, lx_sh _ _ hC.1 (by omega), tx_g ht.2 hp]
      show _ = (0 : Int64) * 256 + _
      simp
end LM
