/-! Arrays read and written at a number's place. -/
theorem am_gd {l : List Int32} {i : Nat} (hi : i < l.length) (hL : l.length < 2 ^ 31) : l[(nI i).toNatClampNeg]? = some (l.getD i 0) := by
  rw [nI_clamp (by omega), List.getD_eq_getElem?_getD, List.getElem?_eq_getElem hi]
  rfl
section AMX
variable {C : am_C} {d mi pc : Nat} {lv : am_V} {st : List Value} {h h1 : List am_E} {Q : Option Value → List am_E → Prop} {len : Nat} {x : am_X} {idx v : Int32} {a i : Nat} {l : List Int32}
theorem am_wliE (hat : am_at C mi pc = some (.iaload, len, x)) (ha : am_ar h a = some (false, l)) (hix : idx = nI i) (hi : i < l.length) (hL : l.length < 2 ^ 31) (hg : am_W C d mi (pc + 1) lv (.int (l.getD i 0) :: st) h Q) : am_W C d mi pc lv (.int idx :: .ref a :: st) h Q := by
  subst hix
  exact am_wli hat ha (nI_pos (by omega)) (am_gd hi hL) hg
theorem am_wlcE (hat : am_at C mi pc = some (.caload, len, x)) (ha : am_ar h a = some (true, l)) (hix : idx = nI i) (hi : i < l.length) (hL : l.length < 2 ^ 31) (hg : am_W C d mi (pc + 1) lv (.int (l.getD i 0) :: st) h Q) : am_W C d mi pc lv (.int idx :: .ref a :: st) h Q := by
  subst hix
  exact am_wlc hat ha (nI_pos (by omega)) (am_gd hi hL) hg
theorem am_wlsE (hat : am_at C mi pc = some (.iaload, len, x)) (ha : C.2.2.2.1 = some l) (hix : idx = nI i) (hi : i < l.length) (hL : l.length < 2 ^ 31) (hg : am_W C d mi (pc + 1) lv (.int (l.getD i 0) :: st) h Q) : am_W C d mi pc lv (.int idx :: .ref 0 :: st) h Q := by
  subst hix
  exact am_wls hat ha (nI_pos (by omega)) (am_gd hi hL) hg
theorem am_wsiE (hat : am_at C mi pc = some (.iastore, len, x)) (ha : am_ar h a = some (false, l)) (hix : idx = nI i) (hi : i < l.length) (hL : l.length < 2 ^ 31) (hh : h.set (a - 2) (.inl (false, l.set i v)) = h1) (hg : am_W C d mi (pc + 1) lv st h1 Q) : am_W C d mi pc lv (.int v :: .int idx :: .ref a :: st) h Q := by
  subst hix
  have e := nI_clamp (n := i) (by omega)
  exact am_wsi hat ha (nI_pos (by omega)) (by rw [e]; exact hi) (by rw [e]; exact hh) hg
theorem am_wscE (hat : am_at C mi pc = some (.castore, len, x)) (ha : am_ar h a = some (true, l)) (hix : idx = nI i) (hi : i < l.length) (hL : l.length < 2 ^ 31) (hh : h.set (a - 2) (.inl (true, l.set i (vp_nar .char v))) = h1) (hg : am_W C d mi (pc + 1) lv st h1 Q) : am_W C d mi pc lv (.int v :: .int idx :: .ref a :: st) h Q := by
  subst hix
  have e := nI_clamp (n := i) (by omega)
  exact am_wsc hat ha (nI_pos (by omega)) (by rw [e]; exact hi) (by rw [e]; exact hh) hg
theorem am_wal {l : List Int32} {v : Int32} (hat : am_at C mi pc = some (.arraylength, len, x)) (ha : C.2.2.2.1 = some l) (hv : Int32.ofNat l.length = v) (hg : am_W C d mi (pc + 1) lv (.int v :: st) h Q) : am_W C d mi pc lv (.ref 0 :: st) h Q := by
  refine am_w0 (z := (pc + 1, lv, .int v :: st, h)) hat rfl ?_ hg
  show am_len C.2.2.2.1 C.2.2.2.2 pc lv (.ref 0 :: st) h = _
  simp [am_len, ha, hv]
end AMX
/-- numbers on top of the stack by another name -/
theorem am_wt {C : am_C} {d mi pc : Nat} {lv : am_V} {st : List Value} {h : List am_E} {Q : Option Value → List am_E → Prop} {x y : Int32} (e : x = y) (hg : am_W C d mi pc lv (.int y :: st) h Q) : am_W C d mi pc lv (.int x :: st) h Q := e ▸ hg
theorem am_cp_len {f g : List Int32} {sp dp n : Nat} (h1 : sp + n ≤ f.length) (h2 : dp + n ≤ g.length) : (am_cp f g sp dp n).length = g.length := (am_cp_fun f g sp dp n h1 h2).1
theorem am_cp_get {f g : List Int32} {sp dp n : Nat} (h1 : sp + n ≤ f.length) (h2 : dp + n ≤ g.length) (j : Nat) : (am_cp f g sp dp n)[j]? = if dp ≤ j ∧ j < dp + n then f[sp + (j - dp)]? else g[j]? := by
  have l1 : (g.take dp).length = dp := by rw [List.length_take]; omega
  have l2 : ((f.drop sp).take n).length = n := by rw [List.length_take, List.length_drop]; omega
  unfold am_cp
  by_cases hj : j < dp
  · rw [List.getElem?_append_left (by rw [l1]; exact hj), List.getElem?_take_of_lt hj, if_neg (by omega)]
  · rw [List.getElem?_append_right (by rw [l1]; omega), l1]
    by_cases hk : j < dp + n
    · rw [List.getElem?_append_left (by rw [l2]; omega), List.getElem?_take_of_lt (by omega), List.getElem?_drop, if_pos (by omega)]
    · rw [List.getElem?_append_right (by rw [l2]; omega), l2, List.getElem?_drop, if_neg (by omega)]
      have e : dp + n + (j - dp - n) = j := by omega
      rw [e]
/-- System.arraycopy of chars -/
theorem am_acpG {d pc : Nat} {lv : am_V} {r : List Value} {h h1 : List am_E} {n dp sp : Int32} {j k a1 a2 a3 : Nat} {lo lq : List Int32} (hj : h[j]? = some (.inl (true, lo))) (hk : h[k]? = some (.inl (true, lq))) (hd : 1 ≤ d) (h8 : am_ca r ≤ 8) (e1 : sp = nI a1) (e2 : dp = nI a2) (e3 : n = nI a3) (b0 : a1 < 2 ^ 31 ∧ a2 < 2 ^ 31 ∧ a3 < 2 ^ 31) (b1 : a1 + a3 ≤ lq.length) (b2 : a2 + a3 ≤ lo.length) (hf : ∀ c ∈ lq, fits .char (.int c) = true) (hh : h.set j (.inl (true, am_cp lq lo a1 a2 a3)) = h1) : am_acp d pc lv (.int n :: .int dp :: .ref (j + 2) :: .int sp :: .ref (k + 2) :: r) h = some (pc + 3, lv, r, h1) := by
  subst e1
  subst e2
  subst e3
  have g1 : am_ar h (j + 2) = some (true, lo) := by simp [am_ar, hj]
  have g2 : am_ar h (k + 2) = some (true, lq) := by simp [am_ar, hk]
  have c1 := nI_clamp b0.1
  have c2 := nI_clamp b0.2.1
  have c3 := nI_clamp b0.2.2
  have hall : ((lq.drop a1).take a3).all (fun z => fits .char (.int z)) = true := List.all_eq_true.mpr (fun z hz => hf z (List.mem_of_mem_drop (List.mem_of_mem_take hz)))
  have hc : am_acc d r (true, lo) (true, lq) (nI a1) (nI a2) (nI a3) = true := by
    unfold am_acc
    rw [c1, c2, c3]
    simp only [Bool.and_eq_true, decide_eq_true_eq, Bool.not_eq_true', decide_eq_false_iff_not]
    exact ⟨⟨trivial, trivial⟩, ⟨hd, h8⟩, ⟨nI_pos b0.1, nI_pos b0.2.1, nI_pos b0.2.2⟩, ⟨b1, b2⟩, hall⟩
  unfold am_acp
  simp only [g1, g2]
  show (bif am_acc d r (true, lo) (true, lq) (nI a1) (nI a2) (nI a3) then some (pc + 3, lv, r, h.set (j + 2 - 2) (.inl (true, am_cp lq lo (nI a1).toNatClampNeg (nI a2).toNatClampNeg (nI a3).toNatClampNeg))) else none) = _
  rw [hc, c1, c2, c3, cond_true]
  show some (pc + 3, lv, r, h.set j (.inl (true, am_cp lq lo a1 a2 a3))) = _
  rw [hh]
/-- k steps that leave the heap as it is -/
theorem am_wh {C : am_C} {d mi pc : Nat} {lv : am_V} {st : List Value} {h : List am_E} {Q : Option Value → List am_E → Prop} (k : Nat) {pc1 : Nat} {lv1 : am_V} {st1 : List Value} (hk : am_ks C d mi k (pc, lv, st, h) = some (pc1, lv1, st1, h)) (hg : am_W C d mi pc1 lv1 st1 h Q) : am_W C d mi pc lv st h Q := am_wn k hk hg
