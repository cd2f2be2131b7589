/-! edit, replace, length, character. -/
def chF (l : List Int32) : Prop := ∀ c ∈ l, fits .char (.int c) = true
def qEdit (t : List Int32) (p q : Int32) (e : Int64) : Int32 × List Int32 :=
  if 0 ≤ p.toInt ∧ 0 ≤ q.toInt ∧ p.toInt + q.toInt ≤ (t.length : Int) then
    (if ed_al e 8 = true then (if t.length - q.toInt.toNat + ed_n e 8 ≤ 200 then (zI ((t.length - q.toInt.toNat + ed_n e 8 : Nat) : Int), tx_new t p.toInt.toNat q.toInt.toNat e) else (-2, t)) else (-1, t))
  else (-1, t)
theorem qEdit_ok {t : List Int32} (h : tOk t) (p q : Int32) (e : Int64) : tOk (qEdit t p q e).2 := by
  unfold qEdit
  split
  · rename_i h1
    split
    · rename_i h2
      split
      · rename_i h3
        refine ⟨?_, tx_new_ok h.2 h2⟩
        show (tx_new t p.toInt.toNat q.toInt.toNat e).length ≤ 200
        rw [tx_new_len (by omega)]
        exact h3
      · exact h
    · exact h
  · exact h
section ED
variable (xs : Option (List Int32)) (d : Nat) {t : List Int32} {s : zS}
theorem nI_e {v : Int32} {n : Nat} (h : v.toInt = n) (hn : n < 2147483648) : v = nI n := ti_ext (by rw [h, ti_nI hn])
theorem ct_20 (hd : 1 ≤ d) (e : Int64) (Q : Int32 → zS → Prop) (hQ : Q (nI (ed_n e 8)) s) : zWi xs d 20 0 [(0, .long e)] s Q := by
  obtain ⟨d, rfl⟩ : ∃ e, d = e + 1 := ⟨d - 1, by omega⟩
  exact ec_sz xs d (zH s) (zQi Q) e ⟨_, s, rfl, rfl, hQ⟩
theorem ct_21 (hd : 1 ≤ d) (e : Int64) (Q : Int32 → zS → Prop) (hQ : Q (bif ed_al e 8 then 1 else 0) s) : zWi xs d 21 0 [(0, .long e)] s Q := by
  obtain ⟨d, rfl⟩ : ∃ e, d = e + 1 := ⟨d - 1, by omega⟩
  exact ec_ar xs d (zH s) (zQi Q) e ⟨_, s, rfl, rfl, hQ⟩
theorem sz_i {n k m : Nat} (hn : n ≤ 200) (hk : k ≤ n) (hm : m ≤ 8) : (((nI n) - (nI k)) + (nI m)).toInt = ((n - k + m : Nat) : Int) := by
  rw [pk_sub hk, nI_add, ti_nI (by omega)]
set_option maxRecDepth 100000 in
/-- Text.replace -/
theorem ct_86 (hd : 2 ≤ d) (hX : tX t s) (hf : chF (s.2 2)) {a k : Nat} {e : Int64} (h1 : a + k ≤ t.length) (h2 : t.length - k + ed_n e 8 ≤ 200) (a1 a2 : Int32) (e1 : a1.toInt = a) (e2 : a2.toInt = k) (Q : zS → Prop) (hQ : ∀ s1, tX (tx_new t a k e) s1 → chF (s1.2 2) → zE [1] [2] s s1 → Q s1) : zWv xs d 86 0 [(0, .ref 3), (1, .int a1), (2, .int a2), (3, .long e)] s Q := by
  obtain ⟨d, rfl⟩ : ∃ e, d = e + 2 := ⟨d - 2, by omega⟩
  have h200 := hX.2.2.1
  have hn8 : ed_n e 8 ≤ 8 := ed_n_le e 8
  have ea := nI_e e1 (by omega)
  have ek := nI_e e2 (by omega)
  have en : s.1 1 = nI t.length := nI_e hX.1 (by omega)
  subst ea
  subst ek
  have hH : zH s = zH (zf s 1 (nI t.length)) := by rw [← en]; rfl
  unfold zWv
  rw [hH]
  refine wx_rep xs d t.length a k (zQv Q) e (s.2 2) hX.2.1 hf h1 h200 h2 ⟨zf (za s 2 (ed_w e 8 a (am_cp (s.2 2) (s.2 2) (a + k) (a + ed_n e 8) (t.length - a - k)))) 1 (((nI t.length) - (nI k)) + (nI (ed_n e 8))), rfl, rfl, hQ _ ⟨?_, tx_repx hX.2 h1 h2⟩ ?_ (zE_f (zE_a (zE_r s) rfl) rfl)⟩
  · show (((nI t.length) - (nI k)) + (nI (ed_n e 8))).toInt = _
    rw [sz_i h200 (by omega) hn8, tx_new_len h1]
  · exact tx_fit (l := s.2 2) (a := a) (e := e) hf 8 a _ (tx_cpf hf)
set_option maxRecDepth 100000 in
/-- the reference's replace -/
theorem ct_133 (hX : tM t s) (hk : (s.2 32).length = 200) {a k : Nat} {e : Int64} (h1 : a + k ≤ t.length) (h2 : t.length - k + ed_n e 8 ≤ 200) (a1 a2 a3 : Int32) (e1 : a1.toInt = a) (e2 : a2.toInt = k) (e3 : a3.toInt = ed_n e 8) (Q : zS → Prop) (hQ : ∀ s1, tM (tx_new t a k e) s1 → (s1.1 22).toInt = 1 → (s1.2 32).length = 200 → zE [21, 22] [31, 32] s s1 → Q s1) : zWv xs d 133 0 [(0, .ref 32), (1, .int a1), (2, .int a2), (3, .int a3), (4, .long e)] s Q := by
  have h200 := hX.2.2.1
  have hn8 : ed_n e 8 ≤ 8 := ed_n_le e 8
  have ea := nI_e e1 (by omega)
  have ek := nI_e e2 (by omega)
  have em := nI_e e3 (by omega)
  have en : s.1 21 = nI t.length := nI_e hX.1 (by omega)
  subst ea
  subst ek
  subst em
  have hH : zH s = zH (zf s 21 (nI t.length)) := by rw [← en]; rfl
  unfold zWv
  rw [hH]
  refine wm_rep xs d t.length a k e (zQv Q) (s.2 31) (s.2 32) hX.2.1 hk h1 h200 h2 ⟨zf (zf (za (za s 31 (md_r e t.length a k (s.2 31) (s.2 32))) 32 (md_c (t.length - a - k) (a + k) (s.2 31) (s.2 32))) 21 (((nI t.length) - (nI k)) + (nI (ed_n e 8)))) 22 1, rfl, rfl, hQ _ ⟨?_, tx_repm hX.2 hk h1 h2⟩ rfl ?_ (zE_f (zE_f (zE_a (zE_a (zE_r s) rfl) rfl) rfl) rfl)⟩
  · show (((nI t.length) - (nI k)) + (nI (ed_n e 8))).toInt = _
    rw [sz_i h200 (by omega) hn8, tx_new_len h1]
  · show (md_c (t.length - a - k) (a + k) (s.2 31) (s.2 32)).length = 200
    rw [md_c_len]; exact hk
theorem cK_1 {s1 : zS} (h : zE [0, 1] [2] s s1) (hK : cK s) : cK s1 := by
  obtain ⟨h4, h5, h6, h7, ⟨b1, b2, b3, b4, b5, b6, b7, b8, b9, b10, b11, b12, b13, b14, b15, b16⟩, c1, c2, c3⟩ := hK
  exact ⟨by rw [h.2 4 rfl]; exact h4, by rw [h.2 5 rfl]; exact h5, by rw [h.2 6 rfl]; exact h6, by rw [h.2 7 rfl]; exact h7, ⟨by rw [h.2 9 rfl]; exact b1, by rw [h.2 10 rfl]; exact b2, by rw [h.2 12 rfl]; exact b3, by rw [h.2 13 rfl]; exact b4, by rw [h.2 14 rfl]; exact b5, by rw [h.2 16 rfl]; exact b6, by rw [h.2 17 rfl]; exact b7, by rw [h.2 18 rfl]; exact b8, by rw [h.2 19 rfl]; exact b9, by rw [h.2 20 rfl]; exact b10, by rw [h.1 5 rfl]; exact b11, by rw [h.1 5 rfl]; exact b12, by rw [h.1 6 rfl]; exact b13, by rw [h.1 6 rfl]; exact b14, by rw [h.1 7 rfl]; exact b15, by rw [h.1 7 rfl]; exact b16⟩, by rw [h.2 21 rfl]; exact c1, by rw [h.2 22 rfl]; exact c2, by rw [h.2 23 rfl]; exact c3⟩
/-- the class's edit -/
theorem cq_109 (hd : 3 ≤ d) (ht : tOk t) (hI : cI t s) (hf : chF (s.2 2)) (p q : Int32) (e : Int64) (Q : Int32 → zS → Prop) (hQ : ∀ s1, cI (qEdit t p q e).2 s1 → chF (s1.2 2) → zE [0, 1] [2] s s1 → Q (qEdit t p q e).1 s1) : zWi xs d 109 0 [(0, .ref 2), (1, .int p), (2, .int q), (3, .long e)] s Q := by
  obtain ⟨d, rfl⟩ : ∃ e, d = e + 1 := ⟨d - 1, by omega⟩
  obtain ⟨hX, hK, hF⟩ := hI
  have h200 := hX.2.2.1
  have hn8 : ed_n e 8 ≤ 8 := ed_n_le e 8
  have hp := zr_t p
  have hq := zr_t q
  have no : ∀ v : Int32, qEdit t p q e = (v, t) → Q v s := fun v he => by
    rw [he] at hQ
    exact hQ s ⟨hX, hK, hF⟩ hf (zE_r s)
  have n1 : ¬ (0 ≤ p.toInt ∧ 0 ≤ q.toInt ∧ p.toInt + q.toInt ≤ (t.length : Int)) → Q (-1) s := fun h => no (-1) (by unfold qEdit; rw [if_neg h])
  refine vc_109_0 xs d s p q e Q ?_
  rw [hX.1]
  refine ⟨fun h => n1 (by omega), fun g1 => ⟨fun h => n1 (by omega), fun g2 => ⟨fun h => n1 (by omega), fun g3 => ⟨⟨by omega, by omega⟩, fun h => n1 (by omega), fun g4 => ?_⟩⟩⟩⟩
  have hpos : 0 ≤ p.toInt ∧ 0 ≤ q.toInt ∧ p.toInt + q.toInt ≤ (t.length : Int) := by omega
  refine ct_21 xs d (by omega) e _ ?_
  cases hal : ed_al e 8 with
  | false => exact ⟨fun _ => no (-1) (by unfold qEdit; rw [if_pos hpos, if_neg (by rw [hal]; decide)]), fun h => absurd rfl h⟩
  | true =>
    refine ⟨fun h => absurd h (by decide), fun _ => ct_20 xs d (by omega) e _ ?_⟩
    rw [ti_nI (by omega)]
    rw [hX.1]
    refine ⟨⟨by omega, by omega⟩, fun hfull => no (-2) ?_, fun hfit => ?_⟩
    · unfold qEdit
      rw [if_pos hpos, if_pos hal, if_neg (by omega)]
    · have h3 : t.length - q.toInt.toNat + ed_n e 8 ≤ 200 := by omega
      have eq : qEdit t p q e = (zI ((t.length - q.toInt.toNat + ed_n e 8 : Nat) : Int), tx_new t p.toInt.toNat q.toInt.toNat e) := by
        unfold qEdit
        rw [if_pos hpos, if_pos hal, if_pos h3]
      rw [eq] at hQ
      refine ct_86 xs d (by omega) hX hf (a := p.toInt.toNat) (k := q.toInt.toNat) (by omega) h3 p q (by omega) (by omega) _ (fun s1 k1 k2 z => ?_)
      have hl : (s1.1 1).toInt = ((t.length - q.toInt.toNat + ed_n e 8 : Nat) : Int) := by rw [k1.1, tx_new_len (by omega)]
      rw [zi_e hl]
      have z2 : zE [0, 1] [2] s (zf s1 0 1) := zE_f (zE_c z (by decide) (by decide)) rfl
      exact hQ (zf s1 0 1) ⟨k1, cK_1 z2 hK, fun h => absurd h (by show ¬ ((1 : Int32)).toInt = 0; decide)⟩ k2 z2
theorem mK_1 {s1 : zS} (h : zE [21, 22] [31, 32] s s1) (hK : mK s) : mK s1 := by
  obtain ⟨h34, h35, h36, h37, h39, ⟨l38, l40, l41, l42, l43, l44, l45, l46, l47, l48, l49, l50⟩, h51⟩ := hK
  exact ⟨by rw [h.2 34 rfl]; exact h34, by rw [h.2 35 rfl]; exact h35, by rw [h.2 36 rfl]; exact h36, by rw [h.2 37 rfl]; exact h37, by rw [h.2 39 rfl]; exact h39, ⟨by rw [h.2 38 rfl]; exact l38, by rw [h.2 40 rfl]; exact l40, by rw [h.2 41 rfl]; exact l41, by rw [h.2 42 rfl]; exact l42, by rw [h.2 43 rfl]; exact l43, by rw [h.2 44 rfl]; exact l44, by rw [h.2 45 rfl]; exact l45, by rw [h.2 46 rfl]; exact l46, by rw [h.2 47 rfl]; exact l47, by rw [h.2 48 rfl]; exact l48, by rw [h.2 49 rfl]; exact l49, by rw [h.2 50 rfl]; exact l50⟩, by rw [h.2 51 rfl]; exact h51⟩
set_option maxRecDepth 100000 in
/-- the reference's edit -/
theorem mq_132 (hd : 2 ≤ d) (ht : tOk t) (hI : mJ t s) (hk : (s.2 32).length = 200) (p q : Int32) (e : Int64) (Q : Int32 → zS → Prop) (hQ : ∀ s1, mJ (qEdit t p q e).2 s1 → (s1.2 32).length = 200 → zE [21, 22] [31, 32] s s1 → Q (qEdit t p q e).1 s1) : zWi xs d 132 0 [(0, .ref 32), (1, .int p), (2, .int q), (3, .long e)] s Q := by
  obtain ⟨d, rfl⟩ : ∃ e, d = e + 2 := ⟨d - 2, by omega⟩
  obtain ⟨hX, hK, hF⟩ := hI
  have h200 := hX.2.2.1
  have hn8 : ed_n e 8 ≤ 8 := ed_n_le e 8
  have hp := zr_t p
  have hq := zr_t q
  have en : s.1 21 = nI t.length := nI_e hX.1 (by omega)
  have hH : zH s = zH (zf s 21 (nI t.length)) := by rw [← en]; rfl
  have no : ∀ v : Int32, qEdit t p q e = (v, t) → zQi Q (some (.int v)) (zH (zf s 21 (nI t.length))) := fun v he => by
    rw [he] at hQ
    rw [← hH]
    exact ⟨v, s, rfl, rfl, hQ s ⟨hX, hK, hF⟩ hk (zE_r s)⟩
  unfold zWi
  rw [hH]
  by_cases hpos : 0 ≤ p.toInt ∧ 0 ≤ q.toInt ∧ p.toInt + q.toInt ≤ (t.length : Int)
  · have ep : p = nI p.toInt.toNat := nI_e (by omega) (by omega)
    have eqq : q = nI q.toInt.toNat := nI_e (by omega) (by omega)
    have goal := wm_edy xs d t.length p.toInt.toNat q.toInt.toNat e (s := s.2 31) (kp := s.2 32) (st := s.1 22) (u0 := oj_0 (s.1 0)) hX.2.1 hk (zQi Q) h200 (by omega) (fun hal => no (-1) (by unfold qEdit; rw [if_pos hpos, if_neg (by rw [hal]; decide)])) (fun hal hfull => no (-2) (by unfold qEdit; rw [if_pos hpos, if_pos hal, if_neg hfull])) (fun hal h3 => ?_)
    · rw [← ep, ← eqq] at goal
      exact goal
    · have eq : qEdit t p q e = (zI ((t.length - q.toInt.toNat + ed_n e 8 : Nat) : Int), tx_new t p.toInt.toNat q.toInt.toNat e) := by
        unfold qEdit
        rw [if_pos hpos, if_pos hal, if_pos h3]
      rw [eq] at hQ
      have hv : ((nI t.length) - (nI q.toInt.toNat)) + (nI (ed_n e 8)) = zI ((t.length - q.toInt.toNat + ed_n e 8 : Nat) : Int) := zi_e (sz_i h200 (by omega) hn8)
      refine ⟨_, zf (zf (za (za s 31 (md_r e t.length p.toInt.toNat q.toInt.toNat (s.2 31) (s.2 32))) 32 (md_c (t.length - p.toInt.toNat - q.toInt.toNat) (p.toInt.toNat + q.toInt.toNat) (s.2 31) (s.2 32))) 21 (((nI t.length) - (nI q.toInt.toNat)) + (nI (ed_n e 8)))) 22 1, rfl, rfl, ?_⟩
      rw [hv]
      have z : zE [21, 22] [31, 32] s (zf (zf (za (za s 31 (md_r e t.length p.toInt.toNat q.toInt.toNat (s.2 31) (s.2 32))) 32 (md_c (t.length - p.toInt.toNat - q.toInt.toNat) (p.toInt.toNat + q.toInt.toNat) (s.2 31) (s.2 32))) 21 (zI ((t.length - q.toInt.toNat + ed_n e 8 : Nat) : Int))) 22 1) := zE_f (zE_f (zE_a (zE_a (zE_r s) rfl) rfl) rfl) rfl
      refine hQ _ ⟨⟨?_, tx_repm hX.2 hk (by omega) h3⟩, mK_1 z hK, fun h => absurd h (by show ¬ ((1 : Int32)).toInt = 0; decide)⟩ ?_ z
      · show (zI ((t.length - q.toInt.toNat + ed_n e 8 : Nat) : Int)).toInt = _
        rw [zI_t ⟨by omega, by omega⟩, tx_new_len (by omega)]
      · show (md_c (t.length - p.toInt.toNat - q.toInt.toNat) (p.toInt.toNat + q.toInt.toNat) (s.2 31) (s.2 32)).length = 200
        rw [md_c_len]; exact hk
  · refine wm_edn xs (d + 1) t.length (s := s.2 31) (kp := s.2 32) (st := s.1 22) (u0 := oj_0 (s.1 0)) p q e (zQi Q) h200 ?_ (no (-1) (by unfold qEdit; rw [if_neg hpos]))
    rintro ⟨a, k, e1, e2, e3⟩
    subst e1
    subst e2
    rw [ti_nI (by omega), ti_nI (by omega)] at hpos
    omega
theorem mq_134 (hI : mJ t s) (Q : Int32 → zS → Prop) (hQ : Q (zI (t.length : Int)) s) : zWi xs d 134 0 [(0, .ref 32)] s Q := by
  refine vc_134_0 xs d s Q ?_
  rw [zi_e hI.1.1]
  exact hQ
theorem mq_135 (hI : mJ t s) (a : Int32) (Q : Int32 → zS → Prop) (hQ : Q (zI (lx_at t a.toInt)) s) : zWi xs d 135 0 [(0, .ref 32), (1, .int a)] s Q := by
  obtain ⟨hX, _, _⟩ := hI
  have h200 := hX.2.2.1
  refine vc_135_0 xs d s a Q ?_
  rw [hX.1]
  unfold lx_at at hQ
  refine ⟨fun h => ?_, fun h => ⟨fun h2 => ?_, fun h2 => ?_⟩⟩
  · rw [if_neg (by omega)] at hQ; exact hQ
  · rw [if_pos (by omega)] at hQ
    have e : ((a.toInt.toNat : Nat) : Int) = a.toInt := by omega
    have k1 := tx_X hX.2 (p := a.toInt.toNat) (by omega)
    have k2 := tx_g hX.2 (p := a.toInt.toNat) (by omega)
    rw [e] at k1 k2
    refine ⟨k1, ?_⟩
    rw [k2, zq_a (t.getD a.toInt.toNat 0)]
    exact hQ
  · rw [if_neg (by omega)] at hQ; exact hQ
end ED
