/-! Contracts of the reference's lexer. -/
def lx_kd (c : Int) : Int := if c ≤ 8 then c else if c ≤ 29 then 2 else 3
def lx_wh (c : Int) : Int := if c ≤ 8 then 0 else if c ≤ 29 then c - 15 else if c = 128 then 1 else c
def mkR (ts : List lxT) (s : zS) : Prop := (s.1 23).toInt = ts.length ∧ zP 420 (ts.map (fun x => lx_kd x.1)) (s.2 34) ∧ zP 420 (ts.map (fun x => x.2.1)) (s.2 35) ∧ zP 420 (ts.map (fun x => x.2.2)) (s.2 36) ∧ (s.2 37).length = 420 ∧ (∀ i, i < ts.length → (ts.getD i (0, 0, 0)).1 ≠ 8 → ((s.2 37).getD i 0).toInt = lx_wh (ts.getD i (0, 0, 0)).1)
def rlR (rs : List Int) (s : zS) : Prop := zP 420 rs (s.2 38)
theorem mkR_E {F A : List Nat} {ts : List lxT} {s s1 : zS} (h : zE F A s s1) (hF : F.contains 23 = false) (h4 : A.contains 34 = false) (h5 : A.contains 35 = false) (h6 : A.contains 36 = false) (h7 : A.contains 37 = false) (hk : mkR ts s) : mkR ts s1 := by
  unfold mkR
  rw [h.1 23 hF, h.2 34 h4, h.2 35 h5, h.2 36 h6, h.2 37 h7]
  exact hk
theorem tM_E {F A : List Nat} {t : List Int32} {s s1 : zS} (h : zE F A s s1) (hF : F.contains 21 = false) (h2 : A.contains 31 = false) (hk : tM t s) : tM t s1 := by
  unfold tM
  rw [h.1 21 hF, h.2 31 h2]
  exact hk
/-- the rows of indentations: the first is 0 -/
def rwR (ind : List Int) (s : zS) : Prop := (s.2 39).length = 210 ∧ ind.length < 200 ∧ ((s.2 39).getD 0 0).toInt = 0 ∧ ∀ j, j < ind.length → ((s.2 39).getD (ind.length - j) 0).toInt = ind.getD j 0
theorem rwR_E {F A : List Nat} {ind : List Int} {s s1 : zS} (h : zE F A s s1) (h7 : A.contains 39 = false) (hk : rwR ind s) : rwR ind s1 := by
  unfold rwR
  rw [h.2 39 h7]
  exact hk
theorem rwR_pop {x : Int} {r : List Int} {s : zS} (h : rwR (x :: r) s) : rwR r s := by
  obtain ⟨h1, h2, h3, h4⟩ := h
  simp only [List.length_cons] at h2
  refine ⟨h1, by omega, h3, ?_⟩
  intro j hj
  have h5 := h4 (j + 1) (by simp only [List.length_cons]; omega)
  rw [show (x :: r).length - (j + 1) = r.length - j by simp only [List.length_cons]; omega] at h5
  exact h5
theorem rwR_top {ind : List Int} {s : zS} (h : rwR ind s) {a : Int32} (ha : a.toInt = (ind.length : Int) + 1) : zX (s.2 39) (a.toInt - 1) ∧ (zg (s.2 39) (a.toInt - 1)).toInt = lx_top ind := by
  obtain ⟨h1, h2, h3, h4⟩ := h
  refine ⟨⟨by omega, by rw [h1]; omega, by rw [h1]; omega⟩, ?_⟩
  unfold zg
  rw [show (a.toInt - 1).toNat = ind.length by omega]
  cases ind with
  | nil => exact h3
  | cons x r =>
    have h5 := h4 0 (by simp)
    exact h5
theorem rwR_push {n : Int} {ind : List Int} {s : zS} {a b : Int32} (h : rwR ind s) (ha : a.toInt = (ind.length : Int) + 1) (hb : b.toInt = n) (hn : ind.length < 199) : rwR (n :: ind) (za s 39 (zu (s.2 39) a.toInt b)) := by
  obtain ⟨h1, h2, h3, h4⟩ := h
  have e : a.toInt.toNat = ind.length + 1 := by omega
  refine ⟨?_, by simp only [List.length_cons]; omega, ?_, ?_⟩
  · show (zu (s.2 39) a.toInt b).length = 210
    rw [zu_len]; exact h1
  · show ((zu (s.2 39) a.toInt b).getD 0 0).toInt = 0
    unfold zu
    rw [e, getD_set (by omega), if_neg (by omega)]
    exact h3
  · intro j hj
    show ((zu (s.2 39) a.toInt b).getD _ 0).toInt = _
    unfold zu
    rw [e, getD_set (by omega)]
    simp only [List.length_cons] at hj ⊢
    cases j with
    | zero => rw [if_pos (by omega)]; exact hb
    | succ j =>
      rw [if_neg (by omega), show ind.length + 1 - (j + 1) = ind.length - j by omega]
      exact h4 j (by omega)
theorem lx_sh (w : Int64) (c : Int32) (h0 : 0 ≤ c.toInt) (h1 : c.toInt < 256) : (w <<< (Int32.toInt64 8 &&& 63)) ||| (Int32.toInt64 c) = w * 256 + Int32.toInt64 c := by
  have hc : c.toInt64.toBitVec = BitVec.ofNat 64 c.toInt.toNat := by
    apply BitVec.eq_of_toInt_eq
    rw [BitVec.toInt_ofNat']
    show (c.toBitVec.signExtend 64).toInt = _
    rw [BitVec.toInt_signExtend_of_le (by decide)]
    show c.toInt = _
    rw [Int.bmod_def]
    omega
  have e8 : (Int32.toInt64 8 &&& 63) = (8 : Int64) := by decide
  rw [e8]
  apply Int64.toBitVec_inj.mp
  have s8 : (w <<< (8 : Int64)).toBitVec = w.toBitVec <<< 8 := rfl
  have m8 : w.toBitVec <<< 8 = w.toBitVec * (256 : Int64).toBitVec := by
    rw [BitVec.shiftLeft_eq_mul_twoPow]
    rfl
  rw [Int64.toBitVec_or, Int64.toBitVec_add, Int64.toBitVec_mul, s8, ← m8, hc]
  rw [BitVec.add_eq_or_of_and_eq_zero]
  apply BitVec.eq_of_getLsbD_eq
  intro i hi
  rw [BitVec.getLsbD_and, BitVec.getLsbD_shiftLeft, BitVec.getLsbD_zero, BitVec.getLsbD_ofNat]
  by_cases h8 : i < 8
  · simp [h8]
  · have h2 : c.toInt.toNat.testBit i = false := Nat.testBit_lt_two_pow (Nat.lt_of_lt_of_le (show c.toInt.toNat < 2 ^ 8 by omega) (Nat.pow_le_pow_right (by decide) (by omega)))
    rw [h2]; simp
section LM
variable (xs : Option (List Int32)) (d : Nat)
theorem ct_137 (s : zS) (c : Int32) (Q : Int32 → zS → Prop) (hQ : Q (zb (lx_D c.toInt)) s) : zWi xs d 137 0 [(0, .int c)] s Q := by
  have q1 : lx_D c.toInt = true → Q 1 s := fun e => by rw [zb_1 e]; exact hQ
  have q0 : lx_D c.toInt = false → Q 0 s := fun e => by rw [zb_0 e]; exact hQ
  refine vc_137_0 xs d s c Q ?_
  repeat' (first | refine And.intro ?_ ?_ | intro _)
  all_goals first | exact q1 (by simp [lx_D] <;> omega) | exact q0 (by simp [lx_D] <;> omega)
theorem ct_138 (s : zS) (c : Int32) (Q : Int32 → zS → Prop) (hQ : Q (zb (lx_L c.toInt)) s) : zWi xs d 138 0 [(0, .int c)] s Q := by
  have q1 : lx_L c.toInt = true → Q 1 s := fun e => by rw [zb_1 e]; exact hQ
  have q0 : lx_L c.toInt = false → Q 0 s := fun e => by rw [zb_0 e]; exact hQ
  refine vc_138_0 xs d s c Q ?_
  repeat' (first | refine And.intro ?_ ?_ | intro _)
  all_goals first | exact q1 (by simp [lx_L] <;> omega) | exact q0 (by simp [lx_L] <;> omega)
def lx_wm (w : Int64) : Int := if lx_wc w = 0 then 0 else lx_wc w - 15
theorem ct_139 (s : zS) (w : Int64) (Q : Int32 → zS → Prop) (hQ : ∀ v : Int32, v.toInt = lx_wm w → Q v s) : zWi xs d 139 0 [(0, .long w)] s Q := by
  refine vc_139_0 xs d s w Q ?_
  simp only [lg_0]
  repeat' (first | refine And.intro ?_ ?_ | intro _)
  all_goals refine hQ _ ?_
  all_goals first | (rename_i h; subst h; decide) | skip
  rename_i h1 h2 h3 h4 h5 h6 h7 h8 h9 h10 h11 h12 h13 h14
  have e : lx_wc w = 0 := by
    unfold lx_wc am_wd
    simp only [lx_wf]
    rw [if_neg (fun e => h1 e.symm), if_neg (fun e => h2 e.symm), if_neg (fun e => h3 e.symm), if_neg (fun e => h4 e.symm), if_neg (fun e => h5 e.symm), if_neg (fun e => h6 e.symm), if_neg (fun e => h7 e.symm), if_neg (fun e => h8 e.symm), if_neg (fun e => h9 e.symm), if_neg (fun e => h10 e.symm), if_neg (fun e => h11 e.symm), if_neg (fun e => h12 e.symm), if_neg (fun e => h13 e.symm), if_neg (fun e => h14 e.symm)]
  unfold lx_wm
  rw [e]
  rfl
theorem ct_140 {ts : List lxT} {s : zS} (h : mkR ts s) (hr : rlR (List.replicate ts.length 0) s) (hn : ts.length < 420) (k w b e : Int32) (c : Int) (hk : k.toInt = lx_kd c) (hw : c ≠ 8 → w.toInt = lx_wh c) (Q : zS → Prop) (hQ : ∀ s1, mkR (ts ++ [(c, b.toInt, e.toInt)]) s1 → rlR (List.replicate (ts.length + 1) 0) s1 → zE [23] [34, 35, 36, 37, 38] s s1 → ((s1.2 37).getD ts.length 0) = w → Q s1) : zWv xs d 140 0 [(0, .ref 32), (1, .int k), (2, .int w), (3, .int b), (4, .int e)] s Q := by
  obtain ⟨h1, h2, h3, h4, h5, h6⟩ := h
  have e1 : (ts.map (fun x => lx_kd x.1)).length = ts.length := List.length_map _
  have e2 : (ts.map (fun x => x.2.1)).length = ts.length := List.length_map _
  have e3 : (ts.map (fun x => x.2.2)).length = ts.length := List.length_map _
  have e4 : (List.replicate ts.length (0 : Int)).length = ts.length := List.length_replicate
  have g37 : (zu (s.2 37) (s.1 23).toInt w).getD ts.length 0 = w := by
    unfold zu
    rw [show (s.1 23).toInt.toNat = ts.length by omega, getD_set (by omega), if_pos rfl]
  refine vc_140_0 xs d s k w b e Q ?_
  refine ⟨zP_X h2 (by decide) (by omega) (by omega), ⟨by omega, by rw [h5]; omega, by rw [h5]; omega⟩, zP_X h3 (by decide) (by omega) (by omega), zP_X h4 (by decide) (by omega) (by omega), zP_X hr (by decide) (by omega) (by omega), ?_⟩
  refine hQ _ ⟨?_, ?_, ?_, ?_, ?_, ?_⟩ ?_ (zE_f (zE_a (zE_a (zE_a (zE_a (zE_a (zE_r s) rfl) rfl) rfl) rfl) rfl) rfl) g37
  · show ((s.1 23) + 1).toInt = _
    rw [ti_1 h1 (by omega) (by omega), List.length_append]; rfl
  · show zP 420 _ (zu (s.2 34) (s.1 23).toInt k)
    rw [List.map_append]
    show zP 420 (_ ++ [lx_kd c]) _
    rw [← hk]
    exact zP_add h2 (by omega) (by omega)
  · show zP 420 _ (zu (s.2 35) (s.1 23).toInt b)
    rw [List.map_append]; exact zP_add h3 (by omega) (by omega)
  · show zP 420 _ (zu (s.2 36) (s.1 23).toInt e)
    rw [List.map_append]; exact zP_add h4 (by omega) (by omega)
  · show (zu (s.2 37) (s.1 23).toInt w).length = 420
    rw [zu_len]; exact h5
  · intro i hi hc
    rw [List.length_append, List.length_singleton] at hi
    show ((zu (s.2 37) (s.1 23).toInt w).getD i 0).toInt = _
    by_cases hit : i = ts.length
    · subst hit
      rw [g37]
      have eg : (ts ++ [(c, b.toInt, e.toInt)]).getD ts.length (0, 0, 0) = (c, b.toInt, e.toInt) := by
        rw [List.getD_eq_getElem?_getD, List.getElem?_append_right (Nat.le_refl _), Nat.sub_self]; rfl
      rw [eg] at hc ⊢
      exact hw hc
    · have eg : (ts ++ [(c, b.toInt, e.toInt)]).getD i (0, 0, 0) = ts.getD i (0, 0, 0) := by
        rw [List.getD_eq_getElem?_getD, List.getElem?_append_left (by omega), List.getD_eq_getElem?_getD]
      rw [eg] at hc ⊢
      unfold zu
      rw [getD_set (by omega), if_neg (by omega)]
      exact h6 i (by omega) hc
  · show zP 420 _ (zu (s.2 38) (s.1 23).toInt 0)
    rw [List.replicate_succ']
    exact zP_add hr (by omega) (by omega)
end LM
