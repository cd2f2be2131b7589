/-! The state of the two objects: the numbers of their fields, their arrays. -/
abbrev zS : Type := (Nat → Int32) × (Nat → List Int32)
def zf (s : zS) (k : Nat) (v : Int32) : zS := (fun j => bif j == k then v else s.1 j, s.2)
def za (s : zS) (k : Nat) (l : List Int32) : zS := (s.1, fun j => bif j == k then l else s.2 j)
def zH (s : zS) : List am_E := HH (oj_0 (s.1 0)) (oj_1 (s.1 1)) (.inl (true, s.2 2)) (oj_2 (s.1 2) (s.1 3) (s.1 4)) (.inl (false, s.2 4)) (.inl (false, s.2 5)) (.inl (false, s.2 6)) (.inl (false, s.2 7)) (oj_3 (s.1 5)) (.inl (false, s.2 9)) (.inl (false, s.2 10)) (oj_4 (s.1 6)) (.inl (false, s.2 12)) (.inl (false, s.2 13)) (.inl (false, s.2 14)) (oj_5 (s.1 7)) (.inl (false, s.2 16)) (.inl (false, s.2 17)) (.inl (false, s.2 18)) (.inl (false, s.2 19)) (.inl (false, s.2 20)) (.inl (false, s.2 21)) (.inl (false, s.2 22)) (.inl (false, s.2 23)) (oj_6 (s.1 8) (s.1 9) (s.1 10) (s.1 11) (s.1 12) (s.1 13) (s.1 14) (s.1 15) (s.1 16)) (oj_7 (s.1 17) (s.1 18)) (oj_8 (s.1 19) (s.1 20)) (.inl (true, s.2 27)) (.inl (false, s.2 28)) (.inl (false, s.2 29)) (oj_9 (s.1 21) (s.1 22) (s.1 23) (s.1 24) (s.1 25) (s.1 26) (s.1 27) (s.1 28) (s.1 29) (s.1 30) (s.1 31) (s.1 32) (s.1 33) (s.1 34)) (.inl (false, s.2 31)) (.inl (false, s.2 32)) (.inl (false, s.2 33)) (.inl (false, s.2 34)) (.inl (false, s.2 35)) (.inl (false, s.2 36)) (.inl (false, s.2 37)) (.inl (false, s.2 38)) (.inl (false, s.2 39)) (.inl (false, s.2 40)) (.inl (false, s.2 41)) (.inl (false, s.2 42)) (.inl (false, s.2 43)) (.inl (false, s.2 44)) (.inl (false, s.2 45)) (.inl (false, s.2 46)) (.inl (false, s.2 47)) (.inl (false, s.2 48)) (.inl (false, s.2 49)) (.inl (false, s.2 50)) (.inl (false, s.2 51)) (.inl (false, s.2 52)) (.inl (false, s.2 53))
def zI (x : Int) : Int32 := Int32.ofInt x
def zR (x : Int) : Prop := -2147483648 ≤ x ∧ x ≤ 2147483647
def zX (l : List Int32) (i : Int) : Prop := 0 ≤ i ∧ i < (l.length : Int) ∧ l.length < 2147483648
def zg (l : List Int32) (i : Int) : Int32 := l.getD i.toNat 0
def zu (l : List Int32) (i : Int) (v : Int32) : List Int32 := l.set i.toNat v
def zQi (Q : Int32 → zS → Prop) (r : Option Value) (h : List am_E) : Prop := ∃ v s, r = some (.int v) ∧ h = zH s ∧ Q v s
def zQl (Q : Int64 → zS → Prop) (r : Option Value) (h : List am_E) : Prop := ∃ v s, r = some (.long v) ∧ h = zH s ∧ Q v s
def zQv (Q : zS → Prop) (r : Option Value) (h : List am_E) : Prop := ∃ s, r = none ∧ h = zH s ∧ Q s
def zWi (xs : Option (List Int32)) (d m pc : Nat) (lv : am_V) (s : zS) (Q : Int32 → zS → Prop) : Prop := am_W (am_CX xs) d m pc lv [] (zH s) (zQi Q)
def zWl (xs : Option (List Int32)) (d m pc : Nat) (lv : am_V) (s : zS) (Q : Int64 → zS → Prop) : Prop := am_W (am_CX xs) d m pc lv [] (zH s) (zQl Q)
def zWv (xs : Option (List Int32)) (d m pc : Nat) (lv : am_V) (s : zS) (Q : zS → Prop) : Prop := am_W (am_CX xs) d m pc lv [] (zH s) (zQv Q)
theorem zWi_w {xs : Option (List Int32)} {d m pc : Nat} {lv : am_V} {s : zS} {Q Q1 : Int32 → zS → Prop} (h : zWi xs d m pc lv s Q1) (hq : ∀ v s1, Q1 v s1 → Q v s1) : zWi xs d m pc lv s Q := am_ww h (by rintro _ _ ⟨v, s1, rfl, rfl, h1⟩; exact ⟨v, s1, rfl, rfl, hq v s1 h1⟩)
theorem zWv_w {xs : Option (List Int32)} {d m pc : Nat} {lv : am_V} {s : zS} {Q Q1 : zS → Prop} (h : zWv xs d m pc lv s Q1) (hq : ∀ s1, Q1 s1 → Q s1) : zWv xs d m pc lv s Q := am_ww h (by rintro _ _ ⟨s1, rfl, rfl, h1⟩; exact ⟨s1, rfl, rfl, hq s1 h1⟩)
theorem zf_f (s : zS) (k j : Nat) (v : Int32) : (zf s k v).1 j = bif j == k then v else s.1 j := rfl
theorem zf_a (s : zS) (k : Nat) (v : Int32) : (zf s k v).2 = s.2 := rfl
theorem za_f (s : zS) (k : Nat) (l : List Int32) : (za s k l).1 = s.1 := rfl
theorem za_a (s : zS) (k j : Nat) (l : List Int32) : (za s k l).2 j = bif j == k then l else s.2 j := rfl
theorem zq_a (x : Int32) : x = zI x.toInt := (Int32.ofInt_toInt x).symm
theorem zq_add {x y : Int32} {a b : Int} (h1 : x = zI a) (h2 : y = zI b) : x + y = zI (a + b) := by subst h1; subst h2; exact (Int32.ofInt_add a b).symm
theorem zq_sub {x y : Int32} {a b : Int} (h1 : x = zI a) (h2 : y = zI b) : x - y = zI (a - b) := by subst h1; subst h2; exact (Int32.ofInt_sub a b).symm
theorem zq_mul {x y : Int32} {a b : Int} (h1 : x = zI a) (h2 : y = zI b) : x * y = zI (a * b) := by subst h1; subst h2; exact (Int32.ofInt_mul a b).symm
theorem zr_t (x : Int32) : zR x.toInt := ⟨Int32.le_toInt x, Int32.toInt_le x⟩
theorem zI_t {a : Int} (h : zR a) : (zI a).toInt = a := Int32.toInt_ofInt_of_le h.1 (by have := h.2; omega)
theorem zI_inj {a b : Int} (ha : zR a) (hb : zR b) (h : zI a = zI b) : a = b := by rw [← zI_t ha, ← zI_t hb, h]
theorem zk_eq {x y : Int32} {a b : Int} (p : x = zI a) (q : y = zI b) (ra : zR a) (rb : zR b) : (x = y) ↔ a = b := ⟨fun h => zI_inj ra rb (by rw [← p, ← q, h]), fun h => by rw [p, q, h]⟩
theorem zk_lt {x y : Int32} {a b : Int} (p : x = zI a) (q : y = zI b) (ra : zR a) (rb : zR b) : (x < y) ↔ a < b := by rw [Int32.lt_iff_toInt_lt, p, q, zI_t ra, zI_t rb]
theorem zk_le {x y : Int32} {a b : Int} (p : x = zI a) (q : y = zI b) (ra : zR a) (rb : zR b) : (x ≤ y) ↔ a ≤ b := by rw [Int32.le_iff_toInt_le, p, q, zI_t ra, zI_t rb]
theorem zt_eq {x y : Int32} {a b : Int} (p : x = zI a) (q : y = zI b) (ra : zR a) (rb : zR b) (h : a = b) : am_if .eq x y = true := decide_eq_true ((zk_eq p q ra rb).mpr h)
theorem zn_eq {x y : Int32} {a b : Int} (p : x = zI a) (q : y = zI b) (ra : zR a) (rb : zR b) (h : ¬ a = b) : am_if .eq x y = false := decide_eq_false (fun e => h ((zk_eq p q ra rb).mp e))
theorem zt_ne {x y : Int32} {a b : Int} (p : x = zI a) (q : y = zI b) (ra : zR a) (rb : zR b) (h : ¬ a = b) : am_if .ne x y = true := decide_eq_true (fun e => h ((zk_eq p q ra rb).mp e))
theorem zn_ne {x y : Int32} {a b : Int} (p : x = zI a) (q : y = zI b) (ra : zR a) (rb : zR b) (h : a = b) : am_if .ne x y = false := decide_eq_false (fun e => e ((zk_eq p q ra rb).mpr h))
theorem zt_lt {x y : Int32} {a b : Int} (p : x = zI a) (q : y = zI b) (ra : zR a) (rb : zR b) (h : a < b) : am_if .lt x y = true := decide_eq_true ((zk_lt p q ra rb).mpr h)
theorem zn_lt {x y : Int32} {a b : Int} (p : x = zI a) (q : y = zI b) (ra : zR a) (rb : zR b) (h : ¬ a < b) : am_if .lt x y = false := decide_eq_false (fun e => h ((zk_lt p q ra rb).mp e))
theorem zt_ge {x y : Int32} {a b : Int} (p : x = zI a) (q : y = zI b) (ra : zR a) (rb : zR b) (h : ¬ a < b) : am_if .ge x y = true := decide_eq_true ((zk_le q p rb ra).mpr (by omega))
theorem zn_ge {x y : Int32} {a b : Int} (p : x = zI a) (q : y = zI b) (ra : zR a) (rb : zR b) (h : a < b) : am_if .ge x y = false := decide_eq_false (fun e => by have := (zk_le q p rb ra).mp e; omega)
theorem zt_gt {x y : Int32} {a b : Int} (p : x = zI a) (q : y = zI b) (ra : zR a) (rb : zR b) (h : b < a) : am_if .gt x y = true := decide_eq_true ((zk_lt q p rb ra).mpr h)
theorem zn_gt {x y : Int32} {a b : Int} (p : x = zI a) (q : y = zI b) (ra : zR a) (rb : zR b) (h : ¬ b < a) : am_if .gt x y = false := decide_eq_false (fun e => h ((zk_lt q p rb ra).mp e))
theorem zt_le {x y : Int32} {a b : Int} (p : x = zI a) (q : y = zI b) (ra : zR a) (rb : zR b) (h : ¬ b < a) : am_if .le x y = true := decide_eq_true ((zk_le p q ra rb).mpr (by omega))
theorem zn_le {x y : Int32} {a b : Int} (p : x = zI a) (q : y = zI b) (ra : zR a) (rb : zR b) (h : b < a) : am_if .le x y = false := decide_eq_false (fun e => by have := (zk_le p q ra rb).mp e; omega)
theorem zmx_t {x y : Int32} {a b : Int} (p : x = zI a) (q : y = zI b) (ra : zR a) (rb : zR b) (h : a < b) : (if x < y then y else x) = y := if_pos ((zk_lt p q ra rb).mpr h)
theorem zmx_n {x y : Int32} {a b : Int} (p : x = zI a) (q : y = zI b) (ra : zR a) (rb : zR b) (h : ¬ a < b) : (if x < y then y else x) = x := if_neg (fun e => h ((zk_lt p q ra rb).mp e))
theorem zr_b {v : Int32} (h : v = 0 ∨ v = 1) : am_dr (some .boolean) .ireturn [.int v] = some (some (.int v)) := by rcases h with rfl | rfl <;> rfl
theorem zX_g {l : List Int32} {i : Int} {idx : Int32} (q : idx = zI i) (hx : zX l i) : ¬ idx < 0 ∧ idx.toNatClampNeg = i.toNat ∧ idx.toNatClampNeg < l.length := by
  obtain ⟨h0, h1, h2⟩ := hx
  have hr : zR i := ⟨by omega, by omega⟩
  have e : idx.toNatClampNeg = i.toNat := by rw [← Int32.toNat_toInt, q, zI_t hr]
  refine ⟨?_, e, by rw [e]; omega⟩
  rw [zk_lt q (show (0 : Int32) = zI 0 by decide) hr ⟨by decide, by decide⟩]
  omega
section ZW
variable {C : am_C} {d mi pc : Nat} {lv : am_V} {st : List Value} {h h1 : List am_E} {Q : Option Value → List am_E → Prop} {len : Nat} {x : am_X} {idx v : Int32} {a : Nat}
theorem zw_li {l : List Int32} {i : Int} (hat : am_at C mi pc = some (.iaload, len, x)) (ha : am_ar h a = some (false, l)) (q : idx = zI i) (hx : zX l i) (hg : am_W C d mi (pc + 1) lv (.int (zg l i) :: st) h Q) : am_W C d mi pc lv (.int idx :: .ref a :: st) h Q := by
  obtain ⟨g0, g1, g2⟩ := zX_g q hx
  refine am_wli hat ha g0 ?_ hg
  rw [g1]
  rw [g1] at g2
  unfold zg
  rw [List.getD_eq_getElem?_getD, List.getElem?_eq_getElem g2]
  rfl
theorem zw_lc {l : List Int32} {i : Int} (hat : am_at C mi pc = some (.caload, len, x)) (ha : am_ar h a = some (true, l)) (q : idx = zI i) (hx : zX l i) (hg : am_W C d mi (pc + 1) lv (.int (zg l i) :: st) h Q) : am_W C d mi pc lv (.int idx :: .ref a :: st) h Q := by
  obtain ⟨g0, g1, g2⟩ := zX_g q hx
  refine am_wlc hat ha g0 ?_ hg
  rw [g1]
  rw [g1] at g2
  unfold zg
  rw [List.getD_eq_getElem?_getD, List.getElem?_eq_getElem g2]
  rfl
theorem zw_si {l : List Int32} {i : Int} (hat : am_at C mi pc = some (.iastore, len, x)) (ha : am_ar h a = some (false, l)) (q : idx = zI i) (hx : zX l i) (hh : h.set (a - 2) (.inl (false, zu l i v)) = h1) (hg : am_W C d mi (pc + 1) lv st h1 Q) : am_W C d mi pc lv (.int v :: .int idx :: .ref a :: st) h Q := by
  obtain ⟨g0, g1, g2⟩ := zX_g q hx
  refine am_wsi hat ha g0 g2 ?_ hg
  rw [g1]
  exact hh
theorem zw_lk {dflt : Int} {ps : Array (Int × Int)} {b : Int32} {tgt : Nat} (hat : am_at C mi pc = some (.lookupswitch dflt ps, len, x)) (ht : am_to pc (Op.lookupswitch.offset ps.toList dflt b.toInt) = some tgt) (hg : am_W C d mi tgt lv st h Q) : am_W C d mi pc lv (.int b :: st) h Q := by
  refine am_w0 (z := (tgt, lv, st, h)) hat rfl ?_ hg
  show am_sw (fun a => am_to pc (Op.lookupswitch.offset ps.toList dflt a.toInt)) lv (.int b :: st) h = _
  simp [am_sw, ht]
end ZW
theorem zp_0 {s : zS} {pc : Nat} {lv : am_V} {v : Int32} {st : List Value} (hb : am_fi .boolean (.int v) = true) : am_put .boolean 0 8 pc lv (.int v :: .ref 2 :: st) (zH s) = some (pc + 3, lv, st, zH (zf s 0 v)) := by
  show (bif _ && (_ && am_fi .boolean (.int v)) then _ else _) = _
  rw [hb]
  rfl
theorem zp_1 {s : zS} {pc : Nat} {lv : am_V} {v : Int32} {st : List Value} : am_put .int 1 1 pc lv (.int v :: .ref 3 :: st) (zH s) = some (pc + 3, lv, st, zH (zf s 1 v)) := rfl
theorem zp_2 {s : zS} {pc : Nat} {lv : am_V} {v : Int32} {st : List Value} : am_put .int 2 5 pc lv (.int v :: .ref 5 :: st) (zH s) = some (pc + 3, lv, st, zH (zf s 2 v)) := rfl
theorem zp_3 {s : zS} {pc : Nat} {lv : am_V} {v : Int32} {st : List Value} : am_put .int 2 6 pc lv (.int v :: .ref 5 :: st) (zH s) = some (pc + 3, lv, st, zH (zf s 3 v)) := rfl
theorem zp_4 {s : zS} {pc : Nat} {lv : am_V} {v : Int32} {st : List Value} : am_put .int 2 7 pc lv (.int v :: .ref 5 :: st) (zH s) = some (pc + 3, lv, st, zH (zf s 4 v)) := rfl
theorem zp_5 {s : zS} {pc : Nat} {lv : am_V} {v : Int32} {st : List Value} : am_put .int 3 2 pc lv (.int v :: .ref 10 :: st) (zH s) = some (pc + 3, lv, st, zH (zf s 5 v)) := rfl
theorem zp_6 {s : zS} {pc : Nat} {lv : am_V} {v : Int32} {st : List Value} : am_put .int 4 3 pc lv (.int v :: .ref 13 :: st) (zH s) = some (pc + 3, lv, st, zH (zf s 6 v)) := rfl
theorem zp_7 {s : zS} {pc : Nat} {lv : am_V} {v : Int32} {st : List Value} : am_put .int 5 8 pc lv (.int v :: .ref 17 :: st) (zH s) = some (pc + 3, lv, st, zH (zf s 7 v)) := rfl
theorem zp_8 {s : zS} {pc : Nat} {lv : am_V} {v : Int32} {st : List Value} : am_put .int 6 4 pc lv (.int v :: .ref 26 :: st) (zH s) = some (pc + 3, lv, st, zH (zf s 8 v)) := rfl
theorem zp_9 {s : zS} {pc : Nat} {lv : am_V} {v : Int32} {st : List Value} : am_put .int 6 5 pc lv (.int v :: .ref 26 :: st) (zH s) = some (pc + 3, lv, st, zH (zf s 9 v)) := rfl
theorem zp_10 {s : zS} {pc : Nat} {lv : am_V} {v : Int32} {st : List Value} : am_put .int 6 6 pc lv (.int v :: .ref 26 :: st) (zH s) = some (pc + 3, lv, st, zH (zf s 10 v)) := rfl
theorem zp_11 {s : zS} {pc : Nat} {lv : am_V} {v : Int32} {st : List Value} : am_put .int 6 7 pc lv (.int v :: .ref 26 :: st) (zH s) = some (pc + 3, lv, st, zH (zf s 11 v)) := rfl
theorem zp_12 {s : zS} {pc : Nat} {lv : am_V} {v : Int32} {st : List Value} : am_put .int 6 8 pc lv (.int v :: .ref 26 :: st) (zH s) = some (pc + 3, lv, st, zH (zf s 12 v)) := rfl
theorem zp_13 {s : zS} {pc : Nat} {lv : am_V} {v : Int32} {st : List Value} : am_put .int 6 9 pc lv (.int v :: .ref 26 :: st) (zH s) = some (pc + 3, lv, st, zH (zf s 13 v)) := rfl
theorem zp_14 {s : zS} {pc : Nat} {lv : am_V} {v : Int32} {st : List Value} : am_put .int 6 10 pc lv (.int v :: .ref 26 :: st) (zH s) = some (pc + 3, lv, st, zH (zf s 14 v)) := rfl
theorem zp_15 {s : zS} {pc : Nat} {lv : am_V} {v : Int32} {st : List Value} : am_put .int 6 11 pc lv (.int v :: .ref 26 :: st) (zH s) = some (pc + 3, lv, st, zH (zf s 15 v)) := rfl
theorem zp_16 {s : zS} {pc : Nat} {lv : am_V} {v : Int32} {st : List Value} : am_put .int 6 12 pc lv (.int v :: .ref 26 :: st) (zH s) = some (pc + 3, lv, st, zH (zf s 16 v)) := rfl
theorem zp_17 {s : zS} {pc : Nat} {lv : am_V} {v : Int32} {st : List Value} : am_put .int 7 3 pc lv (.int v :: .ref 27 :: st) (zH s) = some (pc + 3, lv, st, zH (zf s 17 v)) := rfl
theorem zp_18 {s : zS} {pc : Nat} {lv : am_V} {v : Int32} {st : List Value} : am_put .int 7 4 pc lv (.int v :: .ref 27 :: st) (zH s) = some (pc + 3, lv, st, zH (zf s 18 v)) := rfl
theorem zp_19 {s : zS} {pc : Nat} {lv : am_V} {v : Int32} {st : List Value} : am_put .int 8 3 pc lv (.int v :: .ref 28 :: st) (zH s) = some (pc + 3, lv, st, zH (zf s 19 v)) := rfl
theorem zp_20 {s : zS} {pc : Nat} {lv : am_V} {v : Int32} {st : List Value} : am_put .int 8 4 pc lv (.int v :: .ref 28 :: st) (zH s) = some (pc + 3, lv, st, zH (zf s 20 v)) := rfl
theorem zp_21 {s : zS} {pc : Nat} {lv : am_V} {v : Int32} {st : List Value} : am_put .int 9 0 pc lv (.int v :: .ref 32 :: st) (zH s) = some (pc + 3, lv, st, zH (zf s 21 v)) := rfl
theorem zp_22 {s : zS} {pc : Nat} {lv : am_V} {v : Int32} {st : List Value} (hb : am_fi .boolean (.int v) = true) : am_put .boolean 9 4 pc lv (.int v :: .ref 32 :: st) (zH s) = some (pc + 3, lv, st, zH (zf s 22 v)) := by
  show (bif _ && (_ && am_fi .boolean (.int v)) then _ else _) = _
  rw [hb]
  rfl
theorem zp_23 {s : zS} {pc : Nat} {lv : am_V} {v : Int32} {st : List Value} : am_put .int 9 5 pc lv (.int v :: .ref 32 :: st) (zH s) = some (pc + 3, lv, st, zH (zf s 23 v)) := rfl
theorem zp_24 {s : zS} {pc : Nat} {lv : am_V} {v : Int32} {st : List Value} : am_put .int 9 12 pc lv (.int v :: .ref 32 :: st) (zH s) = some (pc + 3, lv, st, zH (zf s 24 v)) := rfl
theorem zp_25 {s : zS} {pc : Nat} {lv : am_V} {v : Int32} {st : List Value} : am_put .int 9 13 pc lv (.int v :: .ref 32 :: st) (zH s) = some (pc + 3, lv, st, zH (zf s 25 v)) := rfl
theorem zp_26 {s : zS} {pc : Nat} {lv : am_V} {v : Int32} {st : List Value} : am_put .int 9 14 pc lv (.int v :: .ref 32 :: st) (zH s) = some (pc + 3, lv, st, zH (zf s 26 v)) := rfl
theorem zp_27 {s : zS} {pc : Nat} {lv : am_V} {v : Int32} {st : List Value} : am_put .int 9 17 pc lv (.int v :: .ref 32 :: st) (zH s) = some (pc + 3, lv, st, zH (zf s 27 v)) := rfl
theorem zp_28 {s : zS} {pc : Nat} {lv : am_V} {v : Int32} {st : List Value} : am_put .int 9 18 pc lv (.int v :: .ref 32 :: st) (zH s) = some (pc + 3, lv, st, zH (zf s 28 v)) := rfl
theorem zp_29 {s : zS} {pc : Nat} {lv : am_V} {v : Int32} {st : List Value} : am_put .int 9 19 pc lv (.int v :: .ref 32 :: st) (zH s) = some (pc + 3, lv, st, zH (zf s 29 v)) := rfl
theorem zp_30 {s : zS} {pc : Nat} {lv : am_V} {v : Int32} {st : List Value} : am_put .int 9 20 pc lv (.int v :: .ref 32 :: st) (zH s) = some (pc + 3, lv, st, zH (zf s 30 v)) := rfl
theorem zp_31 {s : zS} {pc : Nat} {lv : am_V} {v : Int32} {st : List Value} : am_put .int 9 23 pc lv (.int v :: .ref 32 :: st) (zH s) = some (pc + 3, lv, st, zH (zf s 31 v)) := rfl
theorem zp_32 {s : zS} {pc : Nat} {lv : am_V} {v : Int32} {st : List Value} : am_put .int 9 31 pc lv (.int v :: .ref 32 :: st) (zH s) = some (pc + 3, lv, st, zH (zf s 32 v)) := rfl
theorem zp_33 {s : zS} {pc : Nat} {lv : am_V} {v : Int32} {st : List Value} : am_put .int 9 33 pc lv (.int v :: .ref 32 :: st) (zH s) = some (pc + 3, lv, st, zH (zf s 33 v)) := rfl
theorem zp_34 {s : zS} {pc : Nat} {lv : am_V} {v : Int32} {st : List Value} : am_put .int 9 34 pc lv (.int v :: .ref 32 :: st) (zH s) = some (pc + 3, lv, st, zH (zf s 34 v)) := rfl
theorem zh_2 (s : zS) (l : List Int32) : (zH s).set 2 (.inl (true, l)) = zH (za s 2 l) := rfl
theorem zh_4 (s : zS) (l : List Int32) : (zH s).set 4 (.inl (false, l)) = zH (za s 4 l) := rfl
theorem zh_5 (s : zS) (l : List Int32) : (zH s).set 5 (.inl (false, l)) = zH (za s 5 l) := rfl
theorem zh_6 (s : zS) (l : List Int32) : (zH s).set 6 (.inl (false, l)) = zH (za s 6 l) := rfl
theorem zh_7 (s : zS) (l : List Int32) : (zH s).set 7 (.inl (false, l)) = zH (za s 7 l) := rfl
theorem zh_9 (s : zS) (l : List Int32) : (zH s).set 9 (.inl (false, l)) = zH (za s 9 l) := rfl
theorem zh_10 (s : zS) (l : List Int32) : (zH s).set 10 (.inl (false, l)) = zH (za s 10 l) := rfl
theorem zh_12 (s : zS) (l : List Int32) : (zH s).set 12 (.inl (false, l)) = zH (za s 12 l) := rfl
theorem zh_13 (s : zS) (l : List Int32) : (zH s).set 13 (.inl (false, l)) = zH (za s 13 l) := rfl
theorem zh_14 (s : zS) (l : List Int32) : (zH s).set 14 (.inl (false, l)) = zH (za s 14 l) := rfl
theorem zh_16 (s : zS) (l : List Int32) : (zH s).set 16 (.inl (false, l)) = zH (za s 16 l) := rfl
theorem zh_17 (s : zS) (l : List Int32) : (zH s).set 17 (.inl (false, l)) = zH (za s 17 l) := rfl
theorem zh_18 (s : zS) (l : List Int32) : (zH s).set 18 (.inl (false, l)) = zH (za s 18 l) := rfl
theorem zh_19 (s : zS) (l : List Int32) : (zH s).set 19 (.inl (false, l)) = zH (za s 19 l) := rfl
theorem zh_20 (s : zS) (l : List Int32) : (zH s).set 20 (.inl (false, l)) = zH (za s 20 l) := rfl
theorem zh_21 (s : zS) (l : List Int32) : (zH s).set 21 (.inl (false, l)) = zH (za s 21 l) := rfl
theorem zh_22 (s : zS) (l : List Int32) : (zH s).set 22 (.inl (false, l)) = zH (za s 22 l) := rfl
theorem zh_23 (s : zS) (l : List Int32) : (zH s).set 23 (.inl (false, l)) = zH (za s 23 l) := rfl
theorem zh_27 (s : zS) (l : List Int32) : (zH s).set 27 (.inl (true, l)) = zH (za s 27 l) := rfl
theorem zh_28 (s : zS) (l : List Int32) : (zH s).set 28 (.inl (false, l)) = zH (za s 28 l) := rfl
theorem zh_29 (s : zS) (l : List Int32) : (zH s).set 29 (.inl (false, l)) = zH (za s 29 l) := rfl
theorem zh_31 (s : zS) (l : List Int32) : (zH s).set 31 (.inl (false, l)) = zH (za s 31 l) := rfl
theorem zh_32 (s : zS) (l : List Int32) : (zH s).set 32 (.inl (false, l)) = zH (za s 32 l) := rfl
theorem zh_33 (s : zS) (l : List Int32) : (zH s).set 33 (.inl (false, l)) = zH (za s 33 l) := rfl
theorem zh_34 (s : zS) (l : List Int32) : (zH s).set 34 (.inl (false, l)) = zH (za s 34 l) := rfl
theorem zh_35 (s : zS) (l : List Int32) : (zH s).set 35 (.inl (false, l)) = zH (za s 35 l) := rfl
theorem zh_36 (s : zS) (l : List Int32) : (zH s).set 36 (.inl (false, l)) = zH (za s 36 l) := rfl
theorem zh_37 (s : zS) (l : List Int32) : (zH s).set 37 (.inl (false, l)) = zH (za s 37 l) := rfl
theorem zh_38 (s : zS) (l : List Int32) : (zH s).set 38 (.inl (false, l)) = zH (za s 38 l) := rfl
theorem zh_39 (s : zS) (l : List Int32) : (zH s).set 39 (.inl (false, l)) = zH (za s 39 l) := rfl
theorem zh_40 (s : zS) (l : List Int32) : (zH s).set 40 (.inl (false, l)) = zH (za s 40 l) := rfl
theorem zh_41 (s : zS) (l : List Int32) : (zH s).set 41 (.inl (false, l)) = zH (za s 41 l) := rfl
theorem zh_42 (s : zS) (l : List Int32) : (zH s).set 42 (.inl (false, l)) = zH (za s 42 l) := rfl
theorem zh_43 (s : zS) (l : List Int32) : (zH s).set 43 (.inl (false, l)) = zH (za s 43 l) := rfl
theorem zh_44 (s : zS) (l : List Int32) : (zH s).set 44 (.inl (false, l)) = zH (za s 44 l) := rfl
theorem zh_45 (s : zS) (l : List Int32) : (zH s).set 45 (.inl (false, l)) = zH (za s 45 l) := rfl
theorem zh_46 (s : zS) (l : List Int32) : (zH s).set 46 (.inl (false, l)) = zH (za s 46 l) := rfl
theorem zh_47 (s : zS) (l : List Int32) : (zH s).set 47 (.inl (false, l)) = zH (za s 47 l) := rfl
theorem zh_48 (s : zS) (l : List Int32) : (zH s).set 48 (.inl (false, l)) = zH (za s 48 l) := rfl
theorem zh_49 (s : zS) (l : List Int32) : (zH s).set 49 (.inl (false, l)) = zH (za s 49 l) := rfl
theorem zh_50 (s : zS) (l : List Int32) : (zH s).set 50 (.inl (false, l)) = zH (za s 50 l) := rfl
theorem zh_51 (s : zS) (l : List Int32) : (zH s).set 51 (.inl (false, l)) = zH (za s 51 l) := rfl
theorem zh_52 (s : zS) (l : List Int32) : (zH s).set 52 (.inl (false, l)) = zH (za s 52 l) := rfl
theorem zh_53 (s : zS) (l : List Int32) : (zH s).set 53 (.inl (false, l)) = zH (za s 53 l) := rfl
