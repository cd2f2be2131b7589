section AMS
variable {C : am_C} {G : List Cond} {D : va_G} {cI cC : ClassId} {base b t : Nat} {p : Program} {l : Launch} {e : Env} {R : Room} {s : State} {m : MethodId} {args : Array Value} {below : List Frame} {meth : Method} {c : Code} {M : am_M} {H : Heap} {locs : List Loc} {cells slots : Nat} {Q : State → Prop} {pc : Nat} {ls : Array Slot} {lv : am_V} {st : List Value} {h : List am_E} {z : am_Z}
theorem am_pget {k0 : Nat} {x : am_X} (O : am_OK C G) (F : am_F C G D cI cC base b t p s m args meth c M) (I : am_N C D cI cC base b t s cells h H locs) (hl : lv_has ls M.2.2.1 (am_lm base b t lv)) (hdec : decode M.2.1 pc = .ok (.getfield k0, 3)) (hfl : am_fl C G M k0 x) (hdo : am_get x.1 x.2.1 pc lv st h = some z)
    (k : ∀ (ls1 : Array Slot) (H1 : Heap) (locs1 : List Loc), am_N C D cI cC base b t s cells z.2.2.2 H1 locs1 → lv_has ls1 M.2.2.1 (am_lm base b t z.2.1) → W p l e R s m args below meth c H1 locs1 cells slots Q (F0 m z.1 ls1 (z.2.2.1.map (am_tr base b t)))) : W p l e R s m args below meth c H locs cells slots Q (F0 m pc ls (st.map (am_tr base b t))) := by
  obtain ⟨hx, hb, hml, hown, hts, hr, hlk, hnm, hK, hO, hbs⟩ := F
  obtain ⟨q, hq, hk, hlink⟩ := hfl
  have hco := O.2.1 _ _ hq
  obtain ⟨j, r, fs, v, rfl, hj, hv, rfl⟩ := am_get_inv hdo
  refine va_get (D := D) (cl := C.2.1) (C := q.1) (T := q.2.1) (N := q.2.2) (ci := x.1) (a := base + j) (v := am_tr base b t v) (fs := fs.map (am_tr base b t)) hx hb hts hco.1 hown hK I.1 j (am_w_at hj) hq x.2.1 hk (hts _ hlink) (fun y hy => by rw [← hco.2.2.2.2.2 _ hk]; exact hy) (by rw [List.getElem?_map, hv]; rfl) hdec (k ls H locs I hl)
theorem am_pput {k0 : Nat} {x : am_X} (O : am_OK C G) (F : am_F C G D cI cC base b t p s m args meth c M) (I : am_N C D cI cC base b t s cells h H locs) (hl : lv_has ls M.2.2.1 (am_lm base b t lv)) (hdec : decode M.2.1 pc = .ok (.putfield k0, 3)) (hfl : am_fl C G M k0 x) (hfi : ∃ q : vw_C, C.2.1[x.1]? = some q ∧ ((q.2.1 x.2.1).2.2.2 = false ∨ (q.2.1 x.2.1).2.2.2 = true ∧ M.1.name = "<init>" ∧ q.1 = M.1.cls)) (hdo : am_put (C.2.2.1 x.1 x.2.1) x.1 x.2.1 pc lv st h = some z)
    (k : ∀ (ls1 : Array Slot) (H1 : Heap) (locs1 : List Loc), am_N C D cI cC base b t s cells z.2.2.2 H1 locs1 → lv_has ls1 M.2.2.1 (am_lm base b t z.2.1) → W p l e R s m args below meth c H1 locs1 cells slots Q (F0 m z.1 ls1 (z.2.2.1.map (am_tr base b t)))) : W p l e R s m args below meth c H locs cells slots Q (F0 m pc ls (st.map (am_tr base b t))) := by
  obtain ⟨hx, hb, hml, hown, hts, hr, hlk, hnm, hK, hO, hbs⟩ := F
  obtain ⟨q, hq, hk, hlink⟩ := hfl
  obtain ⟨q', hq', hfin⟩ := hfi
  cases hq.symm.trans hq'
  have hco := O.2.1 _ _ hq
  obtain ⟨j, r, fs, v, rfl, hj, hkl, hty, rfl⟩ := am_put_inv hdo
  have hfit := am_fi_ok base b t hty
  have hgo : ∀ (H1 : Heap) (locs1 : List Loc), va_P D C.2.1 ((am_w base b t cI cC h).set j (base + j, .inr (x.1, (fs.map (am_tr base b t)).set x.2.1 (am_tr base b t v)))) H1 → va_D (am_A base) ((am_w base b t cI cC h).set j (base + j, .inr (x.1, (fs.map (am_tr base b t)).set x.2.1 (am_tr base b t v)))) → va_S (am_A base) s.heap H1 locs1 → W p l e R s m args below meth c H1 locs1 cells slots Q (F0 m (pc + 3) ls (r.map (am_tr base b t))) := by
    intro H1 locs1 hP1 _ hS1
    refine k ls H1 locs1 ⟨?_, ?_, hS1⟩ hl
    · rw [am_w_set]
      have e : am_e base b t cI cC (.inr (x.1, fs.set x.2.1 v)) = .inr (x.1, (fs.map (am_tr base b t)).set x.2.1 (am_tr base b t v)) := by
        show (Sum.inr (x.1, (fs.set x.2.1 v).map (am_tr base b t)) : va_E) = _
        rw [List.map_set]
      rw [e]
      exact hP1
    · rw [List.length_set]
      exact I.2.1
  rcases hfin with hf | ⟨hf, hin, hcl⟩
  · exact va_put (D := D) (cl := C.2.1) (C := q.1) (T := q.2.1) (N := q.2.2) (ci := x.1) (a := base + j) (v := am_tr base b t v) (fs := fs.map (am_tr base b t)) hx hb hts hco.1 (C.2.2.1 x.1) hco.2.1 hco.2.2.1 hown hK I.1 (am_w_D base b t cI cC h) I.2.2 j (am_w_at hj) hq x.2.1 hk (hts _ hlink) (fun y hy => by rw [← hco.2.2.2.2.2 _ hk]; exact hy) hf (hco.2.1 _ hk) hfit.1 hfit.2 (by rw [List.length_map]; exact hkl) hdec hgo
  · exact va_putF (D := D) (cl := C.2.1) (C := q.1) (T := q.2.1) (N := q.2.2) (ci := x.1) (a := base + j) (v := am_tr base b t v) (fs := fs.map (am_tr base b t)) hx hb hts hco.1 (C.2.2.1 x.1) hco.2.1 hco.2.2.1 hown hK I.1 (am_w_D base b t cI cC h) I.2.2 j (am_w_at hj) hq x.2.1 hk (hts _ hlink) (fun y hy => by rw [← hco.2.2.2.2.2 _ hk]; exact hy) hf (hnm hin) ((hco.2.2.2.2.2 _ hk).trans hcl) (hco.2.1 _ hk) hfit.1 hfit.2 (by rw [List.length_map]; exact hkl) hdec hgo
theorem am_in_of {i : Int32} {n : Nat} (h0 : ¬ i < 0) (h : i.toNatClampNeg < n) : vp_in i n := fun q => by
  rcases q with q | q
  · exact h0 q
  · exact Nat.not_le.mpr h q
theorem am_lt_of {α : Type} {a : List α} {i : Nat} {v : α} (h : a[i]? = some v) : i < a.length := (List.getElem?_eq_some_iff.mp h).1
theorem am_getD_of {a : List Int32} {i : Nat} {v : Int32} (h : a[i]? = some v) : a.getD i 0 = v := by rw [List.getD_eq_getElem?_getD, h]; rfl
theorem am_pildi (O : am_OK C G) (F : am_F C G D cI cC base b t p s m args meth c M) (I : am_N C D cI cC base b t s cells h H locs) (hl : lv_has ls M.2.2.1 (am_lm base b t lv)) (hdec : decode M.2.1 pc = .ok (.iaload, 1)) (hdo : am_ld false C.2.2.2.1 pc lv st h = some z)
    (k : ∀ (ls1 : Array Slot) (H1 : Heap) (locs1 : List Loc), am_N C D cI cC base b t s cells z.2.2.2 H1 locs1 → lv_has ls1 M.2.2.1 (am_lm base b t z.2.1) → W p l e R s m args below meth c H1 locs1 cells slots Q (F0 m z.1 ls1 (z.2.2.1.map (am_tr base b t)))) : W p l e R s m args below meth c H locs cells slots Q (F0 m pc ls (st.map (am_tr base b t))) := by
  obtain ⟨hx, hb, hml, hown, hts, hr, hlk, hnm, hK, hO, hbs⟩ := F
  obtain ⟨i, r, v, h0, rfl, hc⟩ := am_ld_inv hdo
  rcases hc with ⟨rfl, -, hv⟩ | ⟨j, a, rfl, hj, hv⟩
  · have K := k ls H locs I hl
    rw [← am_getD_of hv] at K
    exact va_sld hx hb hO.1 (Nat.lt_of_lt_of_le hO.2.1 hbs) (Nat.not_le.mpr hO.2.1) I.2.2 (am_in_of h0 (am_lt_of hv)) hdec K
  · have K := k ls H locs I hl
    rw [← am_getD_of hv] at K
    exact va_iald (D := D) (cl := C.2.1) (a := base + j) (f := fun j => a.getD j 0) (cA := cI) (n := a.length) hx hb hK I.1 j 0 (am_w_at hj) rfl (am_in_of h0 (am_lt_of hv)) hdec K
theorem am_pildc (O : am_OK C G) (F : am_F C G D cI cC base b t p s m args meth c M) (I : am_N C D cI cC base b t s cells h H locs) (hl : lv_has ls M.2.2.1 (am_lm base b t lv)) (hdec : decode M.2.1 pc = .ok (.caload, 1)) (hdo : am_ld true C.2.2.2.1 pc lv st h = some z)
    (k : ∀ (ls1 : Array Slot) (H1 : Heap) (locs1 : List Loc), am_N C D cI cC base b t s cells z.2.2.2 H1 locs1 → lv_has ls1 M.2.2.1 (am_lm base b t z.2.1) → W p l e R s m args below meth c H1 locs1 cells slots Q (F0 m z.1 ls1 (z.2.2.1.map (am_tr base b t)))) : W p l e R s m args below meth c H locs cells slots Q (F0 m pc ls (st.map (am_tr base b t))) := by
  obtain ⟨hx, hb, hml, hown, hts, hr, hlk, hnm, hK, hO, hbs⟩ := F
  obtain ⟨i, r, v, h0, rfl, hc⟩ := am_ld_inv hdo
  rcases hc with ⟨-, hff, -⟩ | ⟨j, a, rfl, hj, hv⟩
  · cases hff
  · have K := k ls H locs I hl
    rw [← am_getD_of hv] at K
    exact va_cald (D := D) (cl := C.2.1) (a := base + j) (f := fun j => a.getD j 0) (cA := cC) (n := a.length) hx hb hK I.1 j 1 (am_w_at hj) rfl (am_in_of h0 (am_lt_of hv)) hdec K
theorem am_plld (O : am_OK C G) (F : am_F C G D cI cC base b t p s m args meth c M) (I : am_N C D cI cC base b t s cells h H locs) (hl : lv_has ls M.2.2.1 (am_lm base b t lv)) (hdec : decode M.2.1 pc = .ok (.laload, 1)) (hdo : am_lld C.2.2.2.2 pc lv st h = some z)
    (k : ∀ (ls1 : Array Slot) (H1 : Heap) (locs1 : List Loc), am_N C D cI cC base b t s cells z.2.2.2 H1 locs1 → lv_has ls1 M.2.2.1 (am_lm base b t z.2.1) → W p l e R s m args below meth c H1 locs1 cells slots Q (F0 m z.1 ls1 (z.2.2.1.map (am_tr base b t)))) : W p l e R s m args below meth c H locs cells slots Q (F0 m pc ls (st.map (am_tr base b t))) := by
  obtain ⟨hx, hb, hml, hown, hts, hr, hlk, hnm, hK, hO, hbs⟩ := F
  obtain ⟨i, r, v, h0, rfl, rfl, hv⟩ := am_lld_inv hdo
  exact va_tl (v := .long v) hx hb hO.2.2.1 I.2.2 (am_in_of h0 (am_lt_of hv)) (by show Value.long (C.2.2.2.2.getD _ 0) = _; rw [List.getD_eq_getElem?_getD, hv]; rfl) hdec (k ls H locs I hl)
theorem am_set_upd (a : List Int32) (i : Nat) (v : Int32) (hi : i < a.length) : (fun j => (a.set i v).getD j 0) = upd (fun j => a.getD j 0) i v := by
  funext j
  unfold upd
  rw [List.getD_eq_getElem?_getD, List.getElem?_set]
  by_cases hj : j = i
  · subst hj
    rw [if_pos rfl, if_pos hi, if_pos rfl]
    rfl
  · rw [if_neg (fun q => hj q.symm), if_neg hj]
    exact List.getD_eq_getElem?_getD.symm
theorem am_psti (O : am_OK C G) (F : am_F C G D cI cC base b t p s m args meth c M) (I : am_N C D cI cC base b t s cells h H locs) (hl : lv_has ls M.2.2.1 (am_lm base b t lv)) (hdec : decode M.2.1 pc = .ok (.iastore, 1)) (hdo : am_sto false pc lv st h = some z)
    (k : ∀ (ls1 : Array Slot) (H1 : Heap) (locs1 : List Loc), am_N C D cI cC base b t s cells z.2.2.2 H1 locs1 → lv_has ls1 M.2.2.1 (am_lm base b t z.2.1) → W p l e R s m args below meth c H1 locs1 cells slots Q (F0 m z.1 ls1 (z.2.2.1.map (am_tr base b t)))) : W p l e R s m args below meth c H locs cells slots Q (F0 m pc ls (st.map (am_tr base b t))) := by
  obtain ⟨hx, hb, hml, hown, hts, hr, hlk, hnm, hK, hO, hbs⟩ := F
  obtain ⟨i, v, r, j, a, h0, rfl, hj, hi, rfl⟩ := am_sto_inv hdo
  refine va_iast (D := D) (cl := C.2.1) (a := base + j) (f := fun j => a.getD j 0) (cA := cI) (n := a.length) hx hb hK I.1 (am_w_D base b t cI cC h) I.2.2 j 0 (am_w_at hj) rfl (am_in_of h0 hi) hdec (fun H1 locs1 hP1 _ hS1 => k ls H1 locs1 ⟨?_, ?_, hS1⟩ hl)
  · rw [am_w_set]
    have e : am_e base b t cI cC (.inl (false, a.set i.toNatClampNeg v)) = .inl (cI, a.length, .inl (upd (fun j => a.getD j 0) i.toNatClampNeg v)) := by
      show (Sum.inl (cI, (a.set i.toNatClampNeg v).length, Sum.inl (fun j => (a.set i.toNatClampNeg v).getD j 0)) : va_E) = _
      rw [am_set_upd a _ v hi, List.length_set]
    have e2 : (bif false then vp_nar .char v else v) = v := rfl
    rw [e2, e]
    exact hP1
  · rw [List.length_set]
    exact I.2.1
theorem am_pstc (O : am_OK C G) (F : am_F C G D cI cC base b t p s m args meth c M) (I : am_N C D cI cC base b t s cells h H locs) (hl : lv_has ls M.2.2.1 (am_lm base b t lv)) (hdec : decode M.2.1 pc = .ok (.castore, 1)) (hdo : am_sto true pc lv st h = some z)
    (k : ∀ (ls1 : Array Slot) (H1 : Heap) (locs1 : List Loc), am_N C D cI cC base b t s cells z.2.2.2 H1 locs1 → lv_has ls1 M.2.2.1 (am_lm base b t z.2.1) → W p l e R s m args below meth c H1 locs1 cells slots Q (F0 m z.1 ls1 (z.2.2.1.map (am_tr base b t)))) : W p l e R s m args below meth c H locs cells slots Q (F0 m pc ls (st.map (am_tr base b t))) := by
  obtain ⟨hx, hb, hml, hown, hts, hr, hlk, hnm, hK, hO, hbs⟩ := F
  obtain ⟨i, v, r, j, a, h0, rfl, hj, hi, rfl⟩ := am_sto_inv hdo
  refine va_cast (D := D) (cl := C.2.1) (a := base + j) (f := fun j => a.getD j 0) (cA := cC) (n := a.length) hx hb hK I.1 (am_w_D base b t cI cC h) I.2.2 j 1 (am_w_at hj) rfl (am_in_of h0 hi) hdec (fun H1 locs1 hP1 _ hS1 => k ls H1 locs1 ⟨?_, ?_, hS1⟩ hl)
  · rw [am_w_set]
    have e : am_e base b t cI cC (.inl (true, a.set i.toNatClampNeg (vp_nar .char v))) = .inl (cC, a.length, .inl (upd (fun j => a.getD j 0) i.toNatClampNeg (vp_nar .char v))) := by
      show (Sum.inl (cC, (a.set i.toNatClampNeg (vp_nar .char v)).length, Sum.inl (fun j => (a.set i.toNatClampNeg (vp_nar .char v)).getD j 0)) : va_E) = _
      rw [am_set_upd a _ _ hi, List.length_set]
    have e2 : (bif true then vp_nar .char v else v) = vp_nar .char v := rfl
    rw [e2, e]
    exact hP1
  · rw [List.length_set]
    exact I.2.1
theorem am_plen (O : am_OK C G) (F : am_F C G D cI cC base b t p s m args meth c M) (I : am_N C D cI cC base b t s cells h H locs) (hl : lv_has ls M.2.2.1 (am_lm base b t lv)) (hdec : decode M.2.1 pc = .ok (.arraylength, 1)) (hdo : am_len C.2.2.2.1 C.2.2.2.2 pc lv st h = some z)
    (k : ∀ (ls1 : Array Slot) (H1 : Heap) (locs1 : List Loc), am_N C D cI cC base b t s cells z.2.2.2 H1 locs1 → lv_has ls1 M.2.2.1 (am_lm base b t z.2.1) → W p l e R s m args below meth c H1 locs1 cells slots Q (F0 m z.1 ls1 (z.2.2.1.map (am_tr base b t)))) : W p l e R s m args below meth c H locs cells slots Q (F0 m pc ls (st.map (am_tr base b t))) := by
  obtain ⟨hx, hb, hml, hown, hts, hr, hlk, hnm, hK, hO, hbs⟩ := F
  obtain ⟨r, v, rfl, hc⟩ := am_len_inv hdo
  rcases hc with ⟨rfl, rfl⟩ | ⟨rfl, rfl⟩ | ⟨j, o, rfl, hj, rfl⟩
  · exact va_slen hx hb hO.1 (Nat.lt_of_lt_of_le hO.2.1 hbs) (Nat.not_le.mpr hO.2.1) I.2.2 hdec (k ls H locs I hl)
  · exact va_tlen hx hb hO.2.2.1 I.2.2 rfl hdec (k ls H locs I hl)
  · obtain ⟨tg, a⟩ := o
    cases tg with
    | false => exact va_alen (D := D) (cl := C.2.1) (a := base + j) (cA := cI) (ty := .int) hx hb hK I.1 j 0 (am_w_at hj) rfl rfl hdec (k ls H locs I hl)
    | true => exact va_alen (D := D) (cl := C.2.1) (a := base + j) (cA := cC) (ty := .char) hx hb hK I.1 j 1 (am_w_at hj) rfl rfl hdec (k ls H locs I hl)
theorem am_cp_fun (f g : List Int32) (sp dp n : Nat) (h1 : sp + n ≤ f.length) (h2 : dp + n ≤ g.length) : (am_cp f g sp dp n).length = g.length ∧ (fun j => (am_cp f g sp dp n).getD j 0) = va_cpy (fun j => f.getD j 0) (fun j => g.getD j 0) sp dp n := by
  have l1 : (g.take dp).length = dp := by rw [List.length_take]; omega
  have l2 : ((f.drop sp).take n).length = n := by rw [List.length_take, List.length_drop]; omega
  refine ⟨?_, ?_⟩
  · unfold am_cp
    rw [List.length_append, List.length_append, l1, l2, List.length_drop]
    omega
  · funext j
    unfold am_cp va_cpy
    rw [List.getD_eq_getElem?_getD]
    by_cases hj : j < dp
    · rw [List.getElem?_append_left (by rw [l1]; exact hj), List.getElem?_take_of_lt hj, if_neg (by omega)]
      exact List.getD_eq_getElem?_getD.symm
    · rw [List.getElem?_append_right (by rw [l1]; omega), l1]
      by_cases hk : j < dp + n
      · rw [List.getElem?_append_left (by rw [l2]; omega), List.getElem?_take_of_lt (by omega), List.getElem?_drop, if_pos (by omega)]
        exact List.getD_eq_getElem?_getD.symm
      · rw [List.getElem?_append_right (by rw [l2]; omega), l2, List.getElem?_drop, if_neg (by omega)]
        have e : dp + n + (j - dp - n) = j := by omega
        rw [e]
        exact List.getD_eq_getElem?_getD.symm
theorem am_pmax {k0 d : Nat} (O : am_OK C G) (F : am_F C G D cI cC base b t p s m args meth c M) (I : am_N C D cI cC base b t s cells h H locs) (hl : lv_has ls M.2.2.1 (am_lm base b t lv)) (hd : d ≤ R.frames ∧ 64 * d ≤ R.locals) (hcs : cells ≤ R.cells ∧ slots ≤ R.slots) (hdec : decode M.2.1 pc = .ok (.invokestatic k0, 3)) (hlink : Cond.methodLink M.1.cls k0 Lib.Math.max.name ∈ G) (hdo : am_max d pc lv st h = some z)
    (k : ∀ (ls1 : Array Slot) (H1 : Heap) (locs1 : List Loc), am_N C D cI cC base b t s cells z.2.2.2 H1 locs1 → lv_has ls1 M.2.2.1 (am_lm base b t z.2.1) → W p l e R s m args below meth c H1 locs1 cells slots Q (F0 m z.1 ls1 (z.2.2.1.map (am_tr base b t)))) : W p l e R s m args below meth c H locs cells slots Q (F0 m pc ls (st.map (am_tr base b t))) := by
  obtain ⟨hx, hb, hml, hown, hts, hr, hlk, hnm, hK, hO, hbs⟩ := F
  obtain ⟨x, y, r, rfl, h1, h8, rfl⟩ := am_max_inv hdo
  obtain ⟨hg, -, -, g1, g2, g3, -⟩ := O.1
  exact va_mmax hx hb (hml.trans hl.1.symm) hown (hts _ hlink) (hts _ g1) (hts _ g2) (hts _ g3) (by omega) (by rw [am_ca_tr]; omega) hcs.1 hcs.2 hdec (k ls H locs I hl)
theorem am_poi {k0 d : Nat} (O : am_OK C G) (F : am_F C G D cI cC base b t p s m args meth c M) (I : am_N C D cI cC base b t s cells h H locs) (hl : lv_has ls M.2.2.1 (am_lm base b t lv)) (hd : d ≤ R.frames ∧ 64 * d ≤ R.locals) (hdec : decode M.2.1 pc = .ok (.invokespecial k0, 3)) (hlink : Cond.methodLink M.1.cls k0 objectInit ∈ G) (hdo : am_oi d pc lv st h = some z)
    (k : ∀ (ls1 : Array Slot) (H1 : Heap) (locs1 : List Loc), am_N C D cI cC base b t s cells z.2.2.2 H1 locs1 → lv_has ls1 M.2.2.1 (am_lm base b t z.2.1) → W p l e R s m args below meth c H1 locs1 cells slots Q (F0 m z.1 ls1 (z.2.2.1.map (am_tr base b t)))) : W p l e R s m args below meth c H locs cells slots Q (F0 m pc ls (st.map (am_tr base b t))) := by
  obtain ⟨hx, hb, hml, hown, hts, hr, hlk, hnm, hK, hO, hbs⟩ := F
  obtain ⟨a, r, rfl, h1, h8, rfl⟩ := am_oi_inv hdo
  obtain ⟨hg, g1, g2, -⟩ := O.1
  have K := k ls H locs I hl
  match a, K with
  | 0, K => exact W.objInit (a := b) (rest := r.map (am_tr base b t)) hx hb hown (hts _ hlink) (hts _ g1) (hts _ g2) rfl (hl.1.trans hml.symm) rfl hdec (by omega) (by show 2 * 0 + _ + 12 ≤ _; rw [am_ca_tr]; omega) K
  | 1, K => exact W.objInit (a := t) (rest := r.map (am_tr base b t)) hx hb hown (hts _ hlink) (hts _ g1) (hts _ g2) rfl (hl.1.trans hml.symm) rfl hdec (by omega) (by show 2 * 0 + _ + 12 ≤ _; rw [am_ca_tr]; omega) K
  | j + 2, K => exact W.objInit (a := base + j) (rest := r.map (am_tr base b t)) hx hb hown (hts _ hlink) (hts _ g1) (hts _ g2) rfl (hl.1.trans hml.symm) rfl hdec (by omega) (by show 2 * 0 + _ + 12 ≤ _; rw [am_ca_tr]; omega) K
theorem am_pacp {k0 d : Nat} (O : am_OK C G) (F : am_F C G D cI cC base b t p s m args meth c M) (I : am_N C D cI cC base b t s cells h H locs) (hl : lv_has ls M.2.2.1 (am_lm base b t lv)) (hd : d ≤ R.frames ∧ 64 * d ≤ R.locals) (hdec : decode M.2.1 pc = .ok (.invokestatic k0, 3)) (hlink : Cond.methodLink M.1.cls k0 arraycopyName ∈ G) (hdo : am_acp d pc lv st h = some z)
    (k : ∀ (ls1 : Array Slot) (H1 : Heap) (locs1 : List Loc), am_N C D cI cC base b t s cells z.2.2.2 H1 locs1 → lv_has ls1 M.2.2.1 (am_lm base b t z.2.1) → W p l e R s m args below meth c H1 locs1 cells slots Q (F0 m z.1 ls1 (z.2.2.1.map (am_tr base b t)))) : W p l e R s m args below meth c H locs cells slots Q (F0 m pc ls (st.map (am_tr base b t))) := by
  obtain ⟨hx, hb, hml, hown, hts, hr, hlk, hnm, hK, hO, hbs⟩ := F
  obtain ⟨n, dp, sp, j, j2, o, q, r, rfl, hj, hj2, hc, rfl⟩ := am_acp_inv hdo
  obtain ⟨hg, -, -, -, -, -, g1, g2, g3, -⟩ := O.1
  obtain ⟨to, lo⟩ := o
  obtain ⟨tq, lq⟩ := q
  unfold am_acc at hc
  simp only [Bool.and_eq_true, decide_eq_true_eq, Bool.not_eq_true', decide_eq_false_iff_not] at hc
  obtain ⟨⟨e1, e2⟩, ⟨d1, d8⟩, ⟨s1, s2, s3⟩, ⟨b1, b2⟩, hall⟩ := hc
  subst e1
  subst e2
  have hcp := am_cp_fun lq lo sp.toNatClampNeg dp.toNatClampNeg n.toNatClampNeg b1 b2
  refine va_copyi (D := D) (cl := C.2.1) (a := base + j) (a0 := base + j2) (c0 := cC) (c1 := cC) (n0 := lq.length) (n1 := lo.length) (f := fun j => lq.getD j 0) (g := fun j => lo.getD j 0) (ty := .char) hx hb (hml.trans hl.1.symm) hown (hts _ hlink) (hts _ g1) (hts _ g2) (hts _ g3) hK I.1 (am_w_D base b t cI cC h) I.2.2 j2 j 1 1 (am_w_at hj2) (am_w_at hj) rfl rfl rfl s1 s2 s3 b1 b2 ?_ (by omega) ?_ hdec (fun H1 locs1 hP1 _ hS1 => k ls H1 locs1 ⟨?_, ?_, hS1⟩ hl)
  · intro i hi
    rw [List.all_eq_true] at hall
    refine hall _ ?_
    rw [List.getD_eq_getElem?_getD]
    have hlt : sp.toNatClampNeg + i < lq.length := by omega
    rw [List.getElem?_eq_getElem hlt]
    refine List.mem_of_getElem? (i := i) ?_
    rw [List.getElem?_take_of_lt hi, List.getElem?_drop, List.getElem?_eq_getElem hlt]
    rfl
  · rw [am_ca_tr]
    have : nativeFrameWords "java/lang/System" "arraycopy" 5 = 7 := by decide +kernel
    omega
  · rw [am_w_set]
    have e : am_e base b t cI cC (.inl (true, am_cp lq lo sp.toNatClampNeg dp.toNatClampNeg n.toNatClampNeg)) = .inl (cC, lo.length, .inl (va_cpy (fun j => lq.getD j 0) (fun j => lo.getD j 0) sp.toNatClampNeg dp.toNatClampNeg n.toNatClampNeg)) := by
      show (Sum.inl (cC, (am_cp lq lo sp.toNatClampNeg dp.toNatClampNeg n.toNatClampNeg).length, Sum.inl (fun j => (am_cp lq lo sp.toNatClampNeg dp.toNatClampNeg n.toNatClampNeg).getD j 0)) : va_E) = _
      rw [hcp.1, hcp.2]
    rw [e]
    exact hP1
  · rw [List.length_set]
    exact I.2.1
end AMS
