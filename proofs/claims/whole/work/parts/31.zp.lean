/-! Arrays that begin with a list. -/
def zP (n : Nat) (l : List Int) (a : List Int32) : Prop := a.length = n ∧ l.length ≤ n ∧ ∀ i, i < l.length → (a.getD i 0).toInt = l.getD i 0
theorem zP_nil {n : Nat} {a : List Int32} (h : a.length = n) : zP n [] a := ⟨h, Nat.zero_le _, fun i hi => absurd hi (Nat.not_lt_zero i)⟩
theorem getD_set {a : List Int32} {i j : Nat} {v : Int32} (hi : i < a.length) : (a.set i v).getD j 0 = if i = j then v else a.getD j 0 := by
  rw [List.getD_eq_getElem?_getD, List.getD_eq_getElem?_getD, List.getElem?_set]
  by_cases h : i = j
  · subst h
    simp [hi]
  · simp [h]
theorem getD_app {l r : List Int} {i : Nat} : (l ++ r).getD i 0 = if i < l.length then l.getD i 0 else r.getD (i - l.length) 0 := by
  rw [List.getD_eq_getElem?_getD, List.getD_eq_getElem?_getD, List.getD_eq_getElem?_getD]
  by_cases h : i < l.length
  · rw [List.getElem?_append_left h, if_pos h]
  · rw [List.getElem?_append_right (by omega), if_neg h]
theorem zP_push {n : Nat} {l : List Int} {a : List Int32} {v : Int32} (h : zP n l a) (hn : l.length < n) : zP n (l ++ [v.toInt]) (a.set l.length v) := by
  obtain ⟨h1, h2, h3⟩ := h
  refine ⟨by rw [List.length_set]; exact h1, by rw [List.length_append]; exact hn, ?_⟩
  intro i hi
  rw [List.length_append, List.length_singleton] at hi
  rw [getD_set (by omega), getD_app]
  by_cases e : l.length = i
  · subst e
    rw [if_pos rfl, if_neg (Nat.lt_irrefl _), Nat.sub_self]
    rfl
  · rw [if_neg e, if_pos (by omega)]
    exact h3 i (by omega)
theorem zP_get {n : Nat} {l : List Int} {a : List Int32} {i : Int} (h : zP n l a) (h0 : 0 ≤ i) (h1 : i < (l.length : Int)) : (zg a i).toInt = l.getD i.toNat 0 := h.2.2 i.toNat (by omega)
theorem zP_X {n : Nat} {l : List Int} {a : List Int32} {i : Int} (h : zP n l a) (hn : n < 2147483648) (h0 : 0 ≤ i) (h1 : i < (n : Int)) : zX a i := ⟨h0, by rw [h.1]; exact h1, by rw [h.1]; exact hn⟩
/-- what stays as it was: all numbers but those of F, all arrays but those of A -/
def zE (F A : List Nat) (s s1 : zS) : Prop := (∀ k, F.contains k = false → s1.1 k = s.1 k) ∧ (∀ k, A.contains k = false → s1.2 k = s.2 k)
theorem zE_r {F A : List Nat} (s : zS) : zE F A s s := ⟨fun _ _ => rfl, fun _ _ => rfl⟩
theorem zE_t {F A : List Nat} {s s1 s2 : zS} (h1 : zE F A s s1) (h2 : zE F A s1 s2) : zE F A s s2 := ⟨fun k hk => (h2.1 k hk).trans (h1.1 k hk), fun k hk => (h2.2 k hk).trans (h1.2 k hk)⟩
theorem zE_f {F A : List Nat} {s s1 : zS} {j : Nat} {v : Int32} (h : zE F A s s1) (hj : F.contains j = true) : zE F A s (zf s1 j v) := by
  refine ⟨fun k hk => ?_, fun k hk => h.2 k hk⟩
  rw [zf_f]
  cases e : (k == j) with
  | true => rw [eq_of_beq e] at hk; rw [hk] at hj; cases hj
  | false => exact h.1 k hk
theorem zE_a {F A : List Nat} {s s1 : zS} {j : Nat} {l : List Int32} (h : zE F A s s1) (hj : A.contains j = true) : zE F A s (za s1 j l) := by
  refine ⟨fun k hk => h.1 k hk, fun k hk => ?_⟩
  rw [za_a]
  cases e : (k == j) with
  | true => rw [eq_of_beq e] at hk; rw [hk] at hj; cases hj
  | false => exact h.2 k hk
theorem zE_m {F A F1 A1 : List Nat} {s s1 : zS} (h : zE F A s s1) (hf : ∀ k, F1.contains k = false → F.contains k = false) (ha : ∀ k, A1.contains k = false → A.contains k = false) : zE F1 A1 s s1 := ⟨fun k hk => h.1 k (hf k hk), fun k hk => h.2 k (ha k hk)⟩
theorem ti_add {x y : Int32} (h : zR (x.toInt + y.toInt)) : (x + y).toInt = x.toInt + y.toInt := by rw [show x + y = zI (x.toInt + y.toInt) from zq_add (zq_a _) (zq_a _), zI_t h]
theorem ti_sub {x y : Int32} (h : zR (x.toInt - y.toInt)) : (x - y).toInt = x.toInt - y.toInt := by rw [show x - y = zI (x.toInt - y.toInt) from zq_sub (zq_a _) (zq_a _), zI_t h]
theorem ti_nI {n : Nat} (h : n < 2147483648) : (nI n).toInt = (n : Int) := by
  show (Int32.ofNat n).toInt = _
  rw [Int32.toInt_ofNat_of_lt (by omega)]
theorem ti_ext {x y : Int32} (h : x.toInt = y.toInt) : x = y := by rw [zq_a x, zq_a y, h]
/-! The characters of a text. -/
def lx_c (t : List Int32) (p : Nat) : Int := (t.getD p 0).toInt
def lx_D (c : Int) : Bool := decide (48 ≤ c) && decide (c ≤ 57)
def lx_L (c : Int) : Bool := (decide (97 ≤ c) && decide (c ≤ 122)) || ((decide (65 ≤ c) && decide (c ≤ 90)) || decide (c = 95))
def lx_A (c : Int) : Bool := lx_L c || lx_D c
def lx_N (c : Int) : Bool := !decide (c = 10)
/-- the first place from p on, where a character that isn't of f stands, or the text's end -/
def lx_e (f : Int → Bool) (t : List Int32) (p : Nat) : Nat := p + ((t.drop p).takeWhile (fun c => f c.toInt)).length
theorem lx_e_s {f : Int → Bool} {t : List Int32} {p : Nat} (h : p < t.length) : lx_e f t p = bif f (lx_c t p) then lx_e f t (p + 1) else p := by
  unfold lx_e lx_c
  rw [List.drop_eq_getElem_cons h, List.takeWhile_cons]
  have e : t.getD p 0 = t[p] := by rw [List.getD_eq_getElem?_getD, List.getElem?_eq_getElem h]; rfl
  rw [e]
  cases f (t[p]).toInt with
  | true => simp only [if_true, cond_true, List.length_cons]; omega
  | false => simp
theorem lx_e_n {f : Int → Bool} {t : List Int32} {p : Nat} (h : ¬ p < t.length) : lx_e f t p = p := by
  unfold lx_e
  rw [List.drop_eq_nil_of_le (by omega)]
  rfl
theorem lx_e_ge (f : Int → Bool) (t : List Int32) (p : Nat) : p ≤ lx_e f t p := by unfold lx_e; omega
theorem lx_e_le {f : Int → Bool} {t : List Int32} {p : Nat} (h : p ≤ t.length) : lx_e f t p ≤ t.length := by
  have h1 : ((t.drop p).takeWhile (fun c => f c.toInt)).length ≤ (t.drop p).length := (List.takeWhile_sublist _).length_le
  rw [List.length_drop] at h1
  unfold lx_e
  omega
/-- the text in the class's cells, and in the reference's -/
def tX (t : List Int32) (s : zS) : Prop := (s.1 1).toInt = t.length ∧ tx_in t (s.2 2)
def tM (t : List Int32) (s : zS) : Prop := (s.1 21).toInt = t.length ∧ tx_in t (s.2 31)
theorem tx_g {t l : List Int32} (h : tx_in t l) {p : Nat} (hp : p < t.length) : (zg l (p : Int)) = t.getD p 0 := by
  unfold zg
  rw [List.getD_eq_getElem?_getD, List.getD_eq_getElem?_getD, show ((p : Int)).toNat = p by omega, h.2.2 p hp]
theorem tx_X {t l : List Int32} (h : tx_in t l) {p : Nat} (hp : p < 200) : zX l (p : Int) := ⟨by omega, by rw [h.1]; omega, by rw [h.1]; omega⟩
/-! The table of words. -/
def zX14 (i : Int) : Prop := 0 ≤ i ∧ i < 14
theorem zw_ll {d mi pc : Nat} {lv : am_V} {st : List Value} {h : List am_E} {Q : Option Value → List am_E → Prop} {len : Nat} {x : am_X} {idx : Int32} {i : Int} {C : am_C} (hat : am_at C mi pc = some (.laload, len, x)) (hC : C.2.2.2.2 = am_wd) (q : idx = zI i) (hx : zX14 i) (hg : am_W C d mi (pc + 1) lv (.long (am_wd.getD i.toNat 0) :: st) h Q) : am_W C d mi pc lv (.int idx :: .ref 1 :: st) h Q := by
  refine am_w0 (z := (pc + 1, lv, .long (am_wd.getD i.toNat 0) :: st, h)) hat rfl ?_ hg
  show am_lld C.2.2.2.2 pc lv (.int idx :: .ref 1 :: st) h = _
  rw [hC]
  obtain ⟨h0, h1⟩ := hx
  have e : am_wd.length = 14 := rfl
  obtain ⟨g0, g1, g2⟩ := zX_g (l := List.replicate 14 0) q ⟨h0, by rw [List.length_replicate]; exact h1, by rw [List.length_replicate]; decide⟩
  unfold am_lld
  simp only [g0, decide_false, cond_false, g1]
  have hi : i.toNat < am_wd.length := by rw [e]; omega
  rw [List.getD_eq_getElem?_getD, List.getElem?_eq_getElem hi]
  rfl
