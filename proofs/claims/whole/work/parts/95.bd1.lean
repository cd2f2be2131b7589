/-! The class's binder: spellings. -/
def bR (t : List Int32) (T : List lxT) (L : List pSc) (C : List pOc) (s : zS) : Prop := tX t s ∧ sR (0 :: sS L) (0 :: sP L) ((-1) :: L.map (fun r => r.2.2.1)) s ∧ oR T C s ∧ (s.2 21).length = 100 ∧ (s.2 22).length = 100 ∧ (s.2 23).length = 100
def tkA (C : List pOc) (j : Nat) : Nat := (C.map (fun x => x.1)).getD j 0
theorem tkA_x {C : List pOc} {j : Nat} {x : pOc} (h : C[j]? = some x) : tkA C j = x.1 := by
  unfold tkA
  rw [List.getD_eq_getElem?_getD, List.getElem?_map, h]; rfl
theorem ge_x {C : List pOc} {j : Nat} (h : j < C.length) : ∃ x, C[j]? = some x := ⟨C[j], List.getElem?_eq_getElem h⟩
/-- spellings told by the first that has them -/
def spR (t : List Int32) (T : List lxT) (C : List pOc) (S : List Int) : Prop := ∀ i, i < S.length → ∃ k : Nat, S.getD i 0 = (k : Int) ∧ k ≤ i ∧ eqT t T (tkA C k) (tkA C i) = true ∧ ∀ j, j < k → eqT t T (tkA C j) (tkA C i) = false
theorem eqT_r {t : List Int32} {T : List lxT} (i : Nat) : eqT t T i i = true := decide_eq_true rfl
theorem spR_e {t : List Int32} {T : List lxT} {C : List pOc} {S : List Int} (h : spR t T C S) {i j : Nat} (hi : i < S.length) (hj : j < S.length) : S.getD i 0 = S.getD j 0 ↔ eqT t T (tkA C i) (tkA C j) = true := by
  obtain ⟨k, a1, a2, a3, a4⟩ := h i hi
  obtain ⟨m, b1, b2, b3, b4⟩ := h j hj
  have e3 := of_decide_eq_true a3
  have f3 := of_decide_eq_true b3
  rw [a1, b1]
  constructor
  · intro e
    have e' : k = m := by omega
    subst e'
    exact decide_eq_true (e3.symm.trans f3)
  · intro e
    have e1 := of_decide_eq_true e
    rcases Nat.lt_trichotomy k m with hlt | heq | hgt
    · have := of_decide_eq_false (b4 k hlt)
      exact absurd (e3.trans e1) this
    · rw [heq]
    · have := of_decide_eq_false (a4 m hgt)
      exact absurd (f3.trans e1.symm) this
section BD
variable (xs : Option (List Int32)) (d : Nat) {t : List Int32} {T : List lxT} {L : List pSc} {C : List pOc}
theorem oR_g {s : zS} (h : oR T C s) {j : Nat} {x : pOc} (hx : C[j]? = some x) : zX (s.2 16) (j : Int) ∧ zX (s.2 17) (j : Int) ∧ zX (s.2 18) (j : Int) ∧ zX (s.2 19) (j : Int) ∧ zX (s.2 20) (j : Int) ∧ (zg (s.2 16) (j : Int)).toInt = tb T x.1 ∧ (zg (s.2 17) (j : Int)).toInt = te T x.1 ∧ (zg (s.2 18) (j : Int)).toInt = x.2.1 ∧ (zg (s.2 19) (j : Int)).toInt = x.2.2.1 ∧ (zg (s.2 20) (j : Int)).toInt = x.2.2.2 := by
  obtain ⟨h0, h1, h2, h3, h4, h5⟩ := h
  have hj : j < C.length := by
    by_cases h : j < C.length
    · exact h
    · rw [List.getElem?_eq_none (by omega)] at hx; cases hx
  have hl := h1.2.1
  rw [List.length_map] at hl
  have gt : ∀ (f : pOc → Int) {a : List Int32}, zP 100 (C.map f) a → zX a (j : Int) ∧ (zg a (j : Int)).toInt = f x := by
    intro f a ha
    refine ⟨zP_X ha (by decide) (by omega) (by omega), ?_⟩
    rw [zP_get ha (by omega) (by rw [List.length_map]; omega), show ((j : Int)).toNat = j by omega, List.getD_eq_getElem?_getD, List.getElem?_map, hx]
    rfl
  have g1 := gt _ h1
  have g2 := gt _ h2
  have g3 := gt _ h3
  have g4 := gt _ h4
  have g5 := gt _ h5
  exact ⟨g1.1, g2.1, g3.1, g4.1, g5.1, g1.2, g2.2, g3.2, g4.2, g5.2⟩
theorem ct_90l {s : zS} (ht : tX t s) (hB : tkB t T) {i j : Nat} (hl : te T i - tb T i = te T j - tb T j) (a1 a2 a3 : Int32) (h1 : a1.toInt = tb T i) (h2 : a2.toInt = tb T j) (h3 : a3.toInt = te T i - tb T i) (Q : Int32 → zS → Prop) (hQ : Q (zb (eqT t T i j)) s) : ∀ (n m : Nat) (a4 : Int32), (te T i - tb T i).toNat - m = n → (m : Int) ≤ te T i - tb T i → a4.toInt = m → (∀ q : Nat, q < m → t.getD ((tb T i).toNat + q) 0 = t.getD ((tb T j).toNat + q) 0) → zWi xs (d + 1) 90 3 [(0, .ref 3), (1, .int a1), (2, .int a2), (3, .int a3), (4, .int a4)] s Q := by
  have b1 := hB.2 i
  have b2 := hB.2 j
  have b0 := hB.1
  intro n
  induction n with
  | zero =>
    intro m a4 hn hm ha he
    refine vc_90_3 xs d s a1 a2 a3 a4 Q ⟨fun h => by omega, fun _ => ?_⟩
    have e : eqT t T i j = true := decide_eq_true (sl_eq hB hl (fun q hq => he q (by omega)))
    rw [e] at hQ
    exact hQ
  | succ n ih =>
    intro m a4 hn hm ha he
    have e4 : (a4 + 1).toInt = ((m + 1 : Nat) : Int) := ti_inc ha (by omega)
    have x1 : (a1 + a4).toInt = (((tb T i).toNat + m : Nat) : Int) := by rw [ti_add (by rw [h1, ha]; exact ⟨by omega, by omega⟩), h1, ha]; omega
    have x2 : (a2 + a4).toInt = (((tb T j).toNat + m : Nat) : Int) := by rw [ti_add (by rw [h2, ha]; exact ⟨by omega, by omega⟩), h2, ha]; omega
    refine vc_90_3 xs d s a1 a2 a3 a4 Q ⟨fun _ => ct_85n xs d s ht _ (by omega) _ x1 _ (fun v hv => ct_85n xs d s ht _ (by omega) _ x2 _ (fun w hw => ?_)), fun h => by omega⟩
    rw [hv, hw]
    refine ⟨fun hh => ih (m + 1) (a4 + 1) (by omega) (by omega) e4 (fun q hq => ?_), fun hh => ?_⟩
    · by_cases e : q = m
      · subst e; exact ti_ext hh
      · exact he q (by omega)
    · have e : eqT t T i j = false := decide_eq_false (sl_ne hB (m := m) (by omega) (by omega) (fun e => hh (by unfold lx_c; rw [e])))
      rw [e] at hQ
      exact hQ
/-- sameSpelling -/
theorem ct_4 (hd : 2 ≤ d) {s : zS} (ht : tX t s) (hB : tkB t T) (hO : oR T C s) {i j : Nat} {x y : pOc} (hx : C[i]? = some x) (hy : C[j]? = some y) (a1 a2 : Int32) (h1 : a1.toInt = i) (h2 : a2.toInt = j) (Q : Int32 → zS → Prop) (hQ : Q (zb (eqT t T x.1 y.1)) s) : zWi xs d 4 0 [(0, .ref 27), (1, .int a1), (2, .int a2)] s Q := by
  obtain ⟨d, rfl⟩ : ∃ e, d = e + 2 := ⟨d - 2, by omega⟩
  obtain ⟨c1, c2, _, _, _, c6, c7, _⟩ := oR_g hO hx
  obtain ⟨e1, e2, _, _, _, e6, e7, _⟩ := oR_g hO hy
  have b1 := hB.2 x.1
  have b2 := hB.2 y.1
  have b0 := hB.1
  refine vc_4_0 xs (d + 1) s a1 a2 Q (vc_31_0 xs (d + 1) s a1 _ ?_)
  rw [h1]
  refine ⟨c2, c1, vc_31_0 xs (d + 1) s a2 _ ?_⟩
  rw [h2]
  refine ⟨e2, e1, ?_⟩
  have w1 : ((zg (s.2 17) (i : Int)) - (zg (s.2 16) (i : Int))).toInt = te T x.1 - tb T x.1 := by rw [ti_sub (by rw [c6, c7]; exact ⟨by omega, by omega⟩), c6, c7]
  have w2 : ((zg (s.2 17) (j : Int)) - (zg (s.2 16) (j : Int))).toInt = te T y.1 - tb T y.1 := by rw [ti_sub (by rw [e6, e7]; exact ⟨by omega, by omega⟩), e6, e7]
  rw [w1, w2]
  refine ⟨fun hl => ⟨c1, e1, vc_90_0 xs d s _ _ _ _ (ct_90l xs d ht hB hl _ _ _ c6 e6 w1 _ ?_ _ 0 0 rfl (by omega) rfl (fun q hq => absurd hq (Nat.not_lt_zero q)))⟩, fun hl => ?_⟩
  · cases he : eqT t T x.1 y.1 with
    | false => rw [he] at hQ; exact ⟨fun _ => hQ, fun h => absurd rfl h⟩
    | true => rw [he] at hQ; exact ⟨fun h => absurd h (by decide), fun _ => hQ⟩
  · have e : eqT t T x.1 y.1 = false := decide_eq_false (fun e => hl (by rw [← sl_len hB x.1, ← sl_len hB y.1, e]))
    rw [e] at hQ
    exact hQ
theorem ct_3i (hd : 2 ≤ d) (hB : tkB t T) {i : Nat} {x : pOc} (hx : C[i]? = some x) (a1 : Int32) (h1 : a1.toInt = i) (Q : zS → Prop) {s : zS} {S : List Int} (ht : tX t s) (hO : oR T C s) (hS : zP 100 (S ++ [(i : Int)]) (s.2 21)) (hl : S.length = i) (hi : i < 100) (hQ : ∀ (k : Nat) (s1 : zS), zP 100 (S ++ [(k : Int)]) (s1.2 21) → k ≤ i → eqT t T (tkA C k) x.1 = true → (∀ j, j < k → eqT t T (tkA C j) x.1 = false) → zE [] [21] s s1 → zWv xs (d + 1) 3 2 [(0, .ref 27), (1, .int (a1 + 1))] s1 Q) : ∀ (n m : Nat) (a2 : Int32), i - m = n → m ≤ i → a2.toInt = m → (∀ j, j < m → eqT t T (tkA C j) x.1 = false) → zWv xs (d + 1) 3 25 [(0, .ref 27), (1, .int a1), (2, .int a2)] s Q := by
  have hil : i < C.length := by
    by_cases h : i < C.length
    · exact h
    · rw [List.getElem?_eq_none (by omega)] at hx; cases hx
  intro n
  induction n with
  | zero =>
    intro m a2 hn hm h2 he
    have e : m = i := by omega
    subst e
    exact vc_3_25 xs d s a1 a2 Q ⟨fun h => by omega, fun _ => hQ m s hS (Nat.le_refl _) (by rw [tkA_x hx]; exact eqT_r _) he (zE_r s)⟩
  | succ n ih =>
    intro m a2 hn hm h2 he
    obtain ⟨y, hy⟩ := ge_x (C := C) (j := m) (by omega)
    have e2 : (a2 + 1).toInt = ((m + 1 : Nat) : Int) := ti_inc h2 (by omega)
    refine vc_3_25 xs d s a1 a2 Q ⟨fun _ => ct_4 xs d hd ht hB hO hx hy a1 a2 h1 h2 _ ?_, fun h => by omega⟩
    cases hs : eqT t T x.1 y.1 with
    | false =>
      refine ⟨fun _ => ih (m + 1) (a2 + 1) (by omega) (by omega) e2 (fun j hj => ?_), fun h => absurd rfl h⟩
      by_cases e : j = m
      · subst e
        rw [tkA_x hy]
        exact decide_eq_false (fun e => of_decide_eq_false hs e.symm)
      · exact he j (by omega)
    | true =>
      refine ⟨fun h => absurd h (by decide), fun _ => ?_⟩
      rw [h1]
      refine ⟨zP_X hS (by decide) (by omega) (by omega), hQ m _ ?_ (by omega) ?_ he (zE_a (zE_r s) rfl)⟩
      · show zP 100 (S ++ [(m : Int)]) (zu (s.2 21) (i : Int) a2)
        have h9 := zP_mid (v := a2) (i := (i : Int)) hS (by omega)
        rw [h2] at h9
        exact h9
      · rw [tkA_x hy]
        exact decide_eq_true (of_decide_eq_true hs).symm
/-- tellSpellings -/
theorem ct_3l (hd : 2 ≤ d) (hB : tkB t T) (hC : C.length ≤ 100) (Q : zS → Prop) : ∀ (n i : Nat) (s : zS) (S : List Int) (a1 : Int32), C.length - i = n → i ≤ C.length → a1.toInt = i → tX t s → oR T C s → zP 100 S (s.2 21) → S.length = i → spR t T C S → (∀ s1 S1, zP 100 S1 (s1.2 21) → S1.length = C.length → spR t T C S1 → zE [] [21] s s1 → Q s1) → zWv xs (d + 1) 3 2 [(0, .ref 27), (1, .int a1)] s Q := by
  intro n
  induction n with
  | zero =>
    intro i s S a1 hn hi h1 ht hO hS hl hp hQ
    exact vc_3_2 xs d s a1 Q ⟨fun h => by have := hO.1; omega, fun _ => hQ s S hS (by omega) hp (zE_r s)⟩
  | succ n ih =>
    intro i s S a1 hn hi h1 ht hO hS hl hp hQ
    have hoc := hO.1
    obtain ⟨x, hx⟩ := ge_x (C := C) (j := i) (by omega)
    have e1 : (a1 + 1).toInt = ((i + 1 : Nat) : Int) := ti_inc h1 (by omega)
    refine vc_3_2 xs d s a1 Q ⟨fun _ => ⟨zP_X hS (by decide) (by omega) (by omega), ?_⟩, fun h => by omega⟩
    have hE : zE [] [21] s (za s 21 (zu (s.2 21) a1.toInt a1)) := zE_a (zE_r s) rfl
    have hS1 : zP 100 (S ++ [(i : Int)]) (zu (s.2 21) a1.toInt a1) := by
      have h9 := zP_add (v := a1) hS (i := a1.toInt) (by omega) (by omega)
      rw [h1] at h9 ⊢
      exact h9
    refine ct_3i xs d hd hB hx a1 h1 Q (s := za s 21 (zu (s.2 21) a1.toInt a1)) (S := S) ht (oR_E hE rfl rfl rfl rfl rfl rfl hO) hS1 hl (by omega) (fun k s1 g1 g2 g3 g4 g5 => ?_) _ 0 0 rfl (Nat.zero_le _) rfl (fun j hj => absurd hj (Nat.not_lt_zero j))
    have hE1 := zE_t hE g5
    have ht1 : tX t s1 := by
      unfold tX
      rw [hE1.1 1 rfl, hE1.2 2 rfl]
      exact ht
    refine ih (i + 1) s1 (S ++ [(k : Int)]) (a1 + 1) (by omega) (by omega) e1 ht1 (oR_E hE1 rfl rfl rfl rfl rfl rfl hO) g1 (by rw [List.length_append, List.length_singleton, hl]) ?_ (fun s2 S2 q1 q2 q3 q4 => hQ s2 S2 q1 q2 q3 (zE_t hE1 q4))
    intro j hj
    rw [List.length_append, List.length_singleton] at hj
    by_cases e : j < S.length
    · rw [getD_app, if_pos e]
      exact hp j e
    · have ej : j = i := by omega
      subst ej
      rw [getD_app, if_neg e, show j - S.length = 0 by omega, tkA_x hx]
      exact ⟨k, rfl, g2, g3, g4⟩
theorem ct_3 (hd : 3 ≤ d) (hB : tkB t T) (hC : C.length ≤ 100) {s : zS} (hb : bR t T L C s) (Q : zS → Prop) (hQ : ∀ s1 S, bR t T L C s1 → zP 100 S (s1.2 21) → S.length = C.length → spR t T C S → zE [] [21] s s1 → Q s1) : zWv xs d 3 0 [(0, .ref 27)] s Q := by
  obtain ⟨d, rfl⟩ : ∃ e, d = e + 1 := ⟨d - 1, by omega⟩
  obtain ⟨b1, b2, b3, b4, b5, b6⟩ := hb
  refine vc_3_0 xs d s Q (ct_3l xs d (by omega) hB hC Q _ 0 s [] 0 rfl (Nat.zero_le _) rfl b1 b3 (zP_nil b4) rfl (fun i hi => absurd hi (Nat.not_lt_zero i)) (fun s1 S g1 g2 g3 g4 => hQ s1 S ⟨?_, sR_E g4 rfl rfl rfl rfl b2, oR_E g4 rfl rfl rfl rfl rfl rfl b3, g1.1, ?_, ?_⟩ g1 g2 g3 g4))
  · unfold tX
    rw [g4.1 1 rfl, g4.2 2 rfl]
    exact b1
  · rw [g4.2 22 rfl]; exact b5
  · rw [g4.2 23 rfl]; exact b6
end BD
