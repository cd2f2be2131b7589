def am_Pc (C : am_C) (D : va_G) (cI cC : ClassId) (base b t : Nat) (vs : List Value) (h : List am_E) : Array Value → State → Prop := va_Pc (vs.map (am_tr base b t)) (fun U => U.heap.size = base + h.length ∧ va_P D C.2.1 (am_w base b t cI cC h) U.heap ∧ va_K D C.2.1 [(cI, .int), (cC, .char)] U ∧ am_Old C base b t U U.heap)
def am_Qc (C : am_C) (D : va_G) (cI cC : ClassId) (base b t : Nat) (r : Option Value) (h h1 : List am_E) (c1 : Nat) : Array Value → State → Outcome → State → Prop := fun _ st oc u => (oc = .returned (r.map (am_tr base b t)) ∧ h1.length = h.length + c1 ∧ va_P D C.2.1 (am_w base b t cI cC h1) u.heap) ∧ va_F (am_A base) st u
def am_rm (d c1 s1 : Nat) : Room := { frames := d, cells := c1, slots := s1, locals := 64 * d }
theorem am_blind (C : am_C) (D : va_G) (cI cC : ClassId) (base b t : Nat) (vs : List Value) (h : List am_E) : FrameBlind (am_Pc C D cI cC base b t vs h) := fun a U g mk q => by
  obtain ⟨q0, q1, qP, qK, qO⟩ := q
  exact ⟨q0, q1, qP, va_K.moved (u := U) (U := U.calling g mk a) (Vm.Alike.refl U.vm) qK, am_Old.moved (u := U) (U := U.calling g mk a) (Vm.Alike.refl U.vm) qO⟩
theorem am_tr_dv (base b t : Nat) (ty : FieldType) : am_tr base b t (defaultValue ty) = defaultValue ty := by cases ty <;> rfl
section AMU
variable {C : am_C} {G : List Cond} {D : va_G} {cI cC : ClassId} {base b t : Nat} {p : Program} {l : Launch} {e : Env} {R : Room} {s : State} {m : MethodId} {args : Array Value} {below : List Frame} {meth : Method} {c : Code} {M : am_M} {H : Heap} {locs : List Loc} {cells slots : Nat} {Q : State → Prop} {pc : Nat} {ls : Array Slot} {lv : am_V} {st : List Value} {h : List am_E}
theorem am_back {a : Array Value} {st0 rest : List Value} {r : Option Value} {h1 : List am_E} {c1 s1 : Nat} (I : am_N C D cI cC base b t s cells h H locs)
    (hr : va_Run p l e R s m args below meth c H locs cells slots c1 s1 (F0 m pc ls st0) rest (am_Qc C D cI cC base b t r h h1 c1 a) (am_A base))
    (kk : ∀ (H1 : Heap) (locs1 : List Loc), am_N C D cI cC base b t s (cells + c1) h1 H1 locs1 → W p l e R s m args below meth c H1 locs1 (cells + c1) (slots + s1) Q (F0 m (pc + 3) ls ((r.map (am_tr base b t)).toList ++ rest))) : W p l e R s m args below meth c H locs cells slots Q (F0 m pc ls st0) := by
  intro T hT X
  obtain ⟨v, st₀, u, T', L, h0, X', hL, e1, e2, ⟨⟨hv, hlen, hP1⟩, hz, hk⟩, st⟩ := hr T hT X
  cases hv
  rw [h0] at hz hk
  have hS := I.2.2
  have hN : am_N C D cI cC base b t s (cells + c1) h1 T'.heap (locs ++ L) := by
    refine ⟨by rw [e1]; exact hP1, by rw [hlen]; have := I.2.1; omega, Nat.le_trans hS.1 (by rw [e1]; exact hz), fun q g1 g2 => ?_, fun q hq => ?_⟩
    · rw [e1, hk q (Nat.lt_of_lt_of_le g1 hS.1) g2]
      exact hS.2.1 q g1 g2
    · rcases List.mem_append.mp hq with g | g
      · exact hS.2.2 q g
      · exact hL q g
  obtain ⟨t2, a1, b1⟩ := kk T'.heap (locs ++ L) hN T' rfl X'
  exact ⟨t2, st t2 a1, b1⟩
theorem am_ent {vs : List Value} (F : am_F C G D cI cC base b t p s m args meth c M) (I : am_N C D cI cC base b t s cells h H locs) (hz : H.size = base + h.length) (U : State) (hU : U.heap = H) (hW : s.WarmedH U.vm) : am_Pc C D cI cC base b t vs h (vs.map (am_tr base b t)).toArray U := by
  obtain ⟨hx, hb, hml, hown, hts, hr, hlk, hnm, hK, hO, hbs⟩ := F
  refine ⟨rfl, by rw [hU]; exact hz, by rw [hU]; exact I.1, va_K.moved hW.alike hK, ?_⟩
  rw [hU]
  exact (am_Old.moved hW.alike hO).kept (fun a g1 g2 => I.2.2.2.1 a g1 g2)
theorem am_good (O : am_OK C G) {w : Cond} (h : w ∈ G) : w ∈ G ∧ ((w.onTables && w.keeps) = true ∨ ∃ ty, w = .arrayClass ty) := ⟨h, O.1.1 w h⟩
/-- a call -/
theorem am_pc {i : Instr} {len d1 c1 s1 : Nat} {x : am_X} {z : Nat × List Value × List Value} {r : Option Value} {h1 : List am_E} (O : am_OK C G) (F : am_F C G D cI cC base b t p s m args meth c M) (I : am_N C D cI cC base b t s cells h H locs) (hl : lv_has ls M.2.2.1 (am_lm base b t lv)) (hd : d1 + 1 ≤ R.frames ∧ 64 * (d1 + 1) ≤ R.locals) (hcs : cells + c1 ≤ R.cells ∧ slots + s1 ≤ R.slots) (hok : am_ok C G M (pc, i, len, x)) (hkd : am_kd i x = 1) (hdc : am_dc C i x st h = some z)
    (hM : ∀ N : am_M, C.1[z.1]? = some N → z.1 ≠ 0 → (lg_sl z.2.1).length ≤ N.2.2.1 → Met l N.1 (Cond.code N.1 N.2.1 N.2.2.1 N.2.2.2.1 :: G) (am_rm d1 c1 s1) (am_Pc C D cI cC base b t z.2.1 h) (am_Qc C D cI cC base b t r h h1 c1) c1 s1 (am_A base))
    (kk : ∀ (H1 : Heap) (locs1 : List Loc), am_N C D cI cC base b t s (cells + c1) h1 H1 locs1 → W p l e R s m args below meth c H1 locs1 (cells + c1) (slots + s1) Q (F0 m (pc + 3) ls ((r.toList ++ z.2.2).map (am_tr base b t)))) : W p l e R s m args below meth c H locs cells slots Q (F0 m pc ls (st.map (am_tr base b t))) := by
  refine am_small (fun hz0 => ?_)
  have FX := F
  obtain ⟨hx, hb, hml, hown, hts, hr, hlk, hnm, hK, hO, hbs⟩ := FX
  have hz := I.size hbs hz0
  obtain ⟨x1, x2, x3, x4⟩ := x
  have hdec : decode M.2.1 pc = .ok (i, len) := hok.1
  have hlo : am_lo C G M pc i len (x1, x2, x3, x4) := hok.2
  clear hok
  have kk : ∀ (H1 : Heap) (locs1 : List Loc), am_N C D cI cC base b t s (cells + c1) h1 H1 locs1 → W p l e R s m args below meth c H1 locs1 (cells + c1) (slots + s1) Q (F0 m (pc + 3) ls ((r.map (am_tr base b t)).toList ++ z.2.2.map (am_tr base b t))) := by
    intro H1 locs1 I1
    have K := kk H1 locs1 I1
    rw [List.map_append] at K
    cases r <;> exact K
  cases i
  case invokevirtual k0 =>
    obtain ⟨hlen, hne, N, ci, q, hN, hx4, hq, hqc, m1, m2, m3, m4⟩ := hlo
    have hlen : len = 3 := hlen
    subst hlen
    have hx4 : x4 = .ref ci := hx4
    subst hx4
    obtain ⟨j, fs, rr, N', hst, hln, hj, hN', hsl, h8, rfl⟩ := am_cv_inv hdc
    have hmc := (O.2.2 _ _ hN).2 hne
    refine am_back I (va_runV (As := ((st.take x2).reverse).map (am_tr base b t)) (rest := rr.map (am_tr base b t)) (C := N.1.cls) (b := base + j) (n := x2) ⟨hx, hb, hml, hown, hts⟩ (hM N hN hne (by cases hN.symm.trans hN'; exact hsl)) (cwV x2 hts ?_ rfl rfl rfl ⟨rfl, hmc.2.2.2.1.1, hmc.2.2.2.1.2, m4⟩ ⟨hd.1, ?_⟩) ⟨am_blind C D cI cC base b t _ h, ?_, ?_⟩ rfl ?_ hl.1 ?_ (lv_room (by rw [am_ca_tr]; exact h8)) hdec hcs) kk
    · intro w hw
      simp only [wsV, List.cons_append, List.nil_append, List.mem_cons] at hw
      rcases hw with rfl | rfl | rfl | rfl | rfl | hw
      · exact am_good O m1
      · exact am_good O m2
      · exact am_good O m3
      · exact am_good O hmc.2.1
      · exact am_good O hmc.1
      · exact am_good O hw
    · have := hmc.2.2.2.2
      show 8 + (N.2.2.1 + 11) + 64 * d1 ≤ R.locals
      omega
    · have hv := va_recv hK I.1 hq (am_w_at hj)
      rw [hqc] at hv
      exact hv
    · intro U hU hW
      exact am_ent F I hz U hU hW
    · rw [List.length_map, List.length_reverse]
      exact hln
    · exact (congrArg (List.map (am_tr base b t)) hst).trans (by rw [List.map_append, ← List.map_reverse, List.reverse_reverse]; rfl)
  case invokespecial k0 =>
    obtain ⟨hlen, hq⟩ := hlo
    have hlen : len = 3 := hlen
    subst hlen
    rcases hq with ⟨h1, -⟩ | ⟨-, hne, N, hN, m1, m2, m3, m4, m5⟩
    · have h1 : x1 = 1002 := h1
      subst h1
      exact absurd (show (0 : Nat) = 1 from hkd) (by decide)
    · obtain ⟨a, rr, N', hst, hln, hN', hsl, h8, rfl⟩ := am_ci_inv hdc
      have hmc := (O.2.2 _ _ hN).2 hne
      have hsl2 : (lg_sl (.ref a :: (st.take x2).reverse)).length ≤ N.2.2.1 := by cases hN.symm.trans hN'; exact hsl
      have hMet := hM N hN hne hsl2
      rw [m4] at hMet
      have hcode := hmc.1
      rw [m4] at hcode
      have hrun : ∀ a' : Nat, am_tr base b t (.ref a) = .ref a' → W p l e R s m args below meth c H locs cells slots Q (F0 m pc ls (st.map (am_tr base b t))) := by
        intro a' ha'
        refine am_back I (va_runI (As := ((st.take x2).reverse).map (am_tr base b t)) (rest := rr.map (am_tr base b t)) (b := a') (n := x2) (bytes := N.2.1) (maxL := N.2.2.1) ⟨hx, hb, hml, hown, hts⟩ hMet (cwI x2 hts ?_ rfl rfl rfl (hts _ hmc.2.1) (hts _ m1) (hts _ m2) m3 ⟨hmc.2.2.2.1.1, hmc.2.2.2.1.2, m5⟩ ⟨hd.1, ?_⟩) ⟨am_blind C D cI cC base b t _ h, ?_⟩ rfl ?_ hl.1 ?_ (lv_room (by rw [am_ca_tr]; exact h8)) hdec hcs) kk
        · intro w hw
          rcases List.mem_cons.mp hw with rfl | hw
          · exact am_good O hcode
          · exact am_good O hw
        · have := hmc.2.2.2.2
          show 8 + (N.2.2.1 + 11) + 64 * d1 ≤ R.locals
          omega
        · intro U hU hW
          have hE := am_ent (vs := .ref a :: (st.take x2).reverse) F I hz U hU hW
          rw [List.map_cons, ha'] at hE
          exact hE
        · rw [List.length_map, List.length_reverse]
          exact hln
        · exact (congrArg (List.map (am_tr base b t)) hst).trans (by rw [List.map_append, ← List.map_reverse, List.reverse_reverse, List.map_cons, ha'])
      match a, hrun with
      | 0, hrun => exact hrun b rfl
      | 1, hrun => exact hrun t rfl
      | j + 2, hrun => exact hrun (base + j) rfl
  case invokestatic k0 =>
    obtain ⟨hlen, hq⟩ := hlo
    have hlen : len = 3 := hlen
    subst hlen
    rcases hq with ⟨h1, -⟩ | ⟨h1, -⟩ | ⟨-, -, hne, N, hN, m1, m2, m3⟩
    · have h1 : x1 = 1000 := h1
      subst h1
      exact absurd (show (0 : Nat) = 1 from hkd) (by decide)
    · have h1 : x1 = 1001 := h1
      subst h1
      exact absurd (show (0 : Nat) = 1 from hkd) (by decide)
    · obtain ⟨N', hln, hN', hsl, h8, rfl⟩ := am_cs_inv hdc
      have hmc := (O.2.2 _ _ hN).2 hne
      have hsl2 : (lg_sl (st.take x2).reverse).length ≤ N.2.2.1 := by cases hN.symm.trans hN'; exact hsl
      refine am_back I (va_runS (As := ((st.take x2).reverse).map (am_tr base b t)) (rest := (st.drop x2).map (am_tr base b t)) (n := x2) ⟨hx, hb, hml, hown, hts⟩ (hM N hN hne hsl2) (va_cwS x2 hts ?_ rfl rfl rfl ⟨hmc.2.2.2.1.1, hmc.2.2.2.1.2, m3⟩ ⟨hd.1, ?_⟩) ⟨am_blind C D cI cC base b t _ h, ?_⟩ rfl ?_ hl.1 ?_ (lv_room (by rw [am_ca_tr]; exact h8)) hdec hcs) kk
      · intro w hw
        simp only [va_wsS, List.cons_append, List.nil_append, List.mem_cons] at hw
        rcases hw with rfl | rfl | rfl | rfl | hw
        · exact am_good O m1
        · exact am_good O m2
        · exact am_good O hmc.2.1
        · exact am_good O hmc.1
        · exact am_good O hw
      · have := hmc.2.2.2.2
        show 8 + (N.2.2.1 + 11) + 64 * d1 ≤ R.locals
        omega
      · intro U hU hW
        exact am_ent F I hz U hU hW
      · rw [List.length_map, List.length_reverse]
        exact hln
      · show st.map (am_tr base b t) = _
        rw [← List.map_reverse, List.reverse_reverse, ← List.map_append, List.take_append_drop]
  all_goals exact absurd (show (none : Option (Nat × List Value × List Value)) = some z from hdc) (by simp)
/-- a making -/
theorem am_pn {i : Instr} {len : Nat} {x : am_X} {z : Nat × List Value × am_E × Nat} (O : am_OK C G) (F : am_F C G D cI cC base b t p s m args meth c M) (I : am_N C D cI cC base b t s cells h H locs) (hl : lv_has ls M.2.2.1 (am_lm base b t lv)) (hcs : cells + 1 ≤ R.cells ∧ slots + z.2.2.2 ≤ R.slots) (hok : am_ok C G M (pc, i, len, x)) (hdn : am_dn C i x pc st = some z)
    (kk : ∀ (H1 : Heap), am_N C D cI cC base b t s (cells + 1) (h ++ [z.2.2.1]) H1 locs → W p l e R s m args below meth c H1 locs (cells + 1) (slots + z.2.2.2) Q (F0 m z.1 ls ((.ref (h.length + 2) :: z.2.1).map (am_tr base b t)))) : W p l e R s m args below meth c H locs cells slots Q (F0 m pc ls (st.map (am_tr base b t))) := by
  refine am_small (fun hz0 => ?_)
  obtain ⟨hx, hb, hml, hown, hts, hr, hlk, hnm, hK, hO, hbs⟩ := F
  have hz := I.size hbs hz0
  have hgrow : ∀ (H1 : Heap) (e1 : am_E), va_at D C.2.1 (base + h.length, am_e base b t cI cC e1) H1 → H1.size = H.size + 1 → (∀ q, q < H.size → H1[q]? = H[q]?) → am_N C D cI cC base b t s (cells + 1) (h ++ [e1]) H1 locs := by
    intro H1 e1 ha hs1 ho
    refine ⟨?_, ?_, ?_⟩
    · rw [am_w_push]
      refine (va_P.kept I.1 (fun k q hq => ho q.1 ((I.1 k q hq).lt))).app (fun k q hq => ?_)
      have hk1 : k < 1 := (List.getElem?_eq_some_iff.mp hq).1
      obtain rfl : k = 0 := by omega
      cases hq
      exact ha
    · rw [List.length_append, List.length_singleton]
      have := I.2.1
      omega
    · exact ⟨by have := I.2.2.1; omega, fun q g1 g2 => (ho q (Nat.lt_of_lt_of_le g1 I.2.2.1)).trans (I.2.2.2.1 q g1 g2), I.2.2.2.2⟩
  obtain ⟨x1, x2, x3, x4⟩ := x
  have hdec : decode M.2.1 pc = .ok (i, len) := hok.1
  have hlo : am_lo C G M pc i len (x1, x2, x3, x4) := hok.2
  clear hok
  cases i
  case newarray ty =>
    have hlen : len = 2 := hlo
    subst hlen
    obtain ⟨n, rr, tg, rfl, h0, h1, hty, rfl⟩ := am_na_inv hdn
    have hdv : (fun j => Value.int ((List.replicate n.toNatClampNeg (0 : Int32)).getD j 0)) = fun _ => Value.int 0 := by
      funext j
      rw [List.getD_eq_getElem?_getD, List.getElem?_replicate]
      split <;> rfl
    rcases hty with ⟨rfl, rfl⟩ | ⟨rfl, rfl⟩
    · refine va_newaK (atype := .int) (N := n.toNatClampNeg) hx hb (hts _ O.1.2.2.2.2.2.2.2.2.2.1) rfl hdec rfl h0 rfl (by show n.toNatClampNeg * 4 ≤ _; omega) hcs.1 hcs.2 hz fun H1 cA e1 z1 o1 hAr hNm => ?_
      have hcA : cA = cI := Option.some.inj (hNm.symm.trans (hK.2 0 _ rfl).2)
      subst hcA
      refine kk H1 (hgrow H1 _ ?_ (by rw [z1, hz]) (fun q g => o1 q (by rw [← hz]; exact g)))
      show H1[base + h.length]? = some (arrV cA (List.replicate n.toNatClampNeg (0 : Int32)).length (fun j => .int ((List.replicate n.toNatClampNeg (0 : Int32)).getD j 0)))
      rw [hdv, List.length_replicate, e1]
      rfl
    · refine va_newaK (atype := .char) (N := n.toNatClampNeg) hx hb (hts _ O.1.2.2.2.2.2.2.2.2.2.2) rfl hdec rfl h0 rfl (by show n.toNatClampNeg * 2 ≤ _; omega) hcs.1 hcs.2 hz fun H1 cA e1 z1 o1 hAr hNm => ?_
      have hcA : cA = cC := Option.some.inj (hNm.symm.trans (hK.2 1 _ rfl).2)
      subst hcA
      refine kk H1 (hgrow H1 _ ?_ (by rw [z1, hz]) (fun q g => o1 q (by rw [← hz]; exact g)))
      show H1[base + h.length]? = some (arrV cA (List.replicate n.toNatClampNeg (0 : Int32)).length (fun j => .int ((List.replicate n.toNatClampNeg (0 : Int32)).getD j 0)))
      rw [hdv, List.length_replicate, e1]
      rfl
  case new k0 =>
    obtain ⟨hlen, q, hq, hcl⟩ := hlo
    have hlen : len = 3 := hlen
    subst hlen
    have hq : C.2.1[x1]? = some q := hq
    have hco := O.2.1 _ _ hq
    have hdn : am_new C x1 pc st = some z := hdn
    unfold am_new at hdn
    rw [hq] at hdn
    obtain rfl := Option.some.inj hdn
    have hKn := hK.1 x1 _ hq
    refine W.newcK hx hb hown (hts _ hcl) (hts _ hco.2.2.2.1) (hts _ hco.2.2.2.2.1) rfl hdec hcs.1 hcs.2 hKn.2.1 hz fun H1 kC hkC e1 z1 o1 => ?_
    refine kk H1 (hgrow H1 _ ?_ (by rw [z1, hz]) (fun q g => o1 q (by rw [← hz]; exact g)))
    refine ⟨q, hq, (u_born (C.2.2.1 x1) hts hco.1 hKn hkC e1 hco.2.1).to ?_⟩
    intro j hj
    show defaultValue (C.2.2.1 x1 j) = ((((List.range q.2.2).map (fun j => defaultValue (C.2.2.1 x1 j))).map (am_tr base b t)).getD j .null)
    rw [List.getD_eq_getElem?_getD, List.getElem?_map, List.getElem?_map, List.getElem?_range hj]
    exact (am_tr_dv base b t _).symm
  all_goals exact absurd (show (none : Option (Nat × List Value × am_E × Nat)) = some z from hdn) (by simp)
/-- an end -/
theorem am_ret {i : Instr} {len : Nat} {x : am_X} {r : Option Value} {Qc : Array Value → State → Outcome → State → Prop} {free : Addr → Prop} (F : am_F C G D cI cC base b t p s m args meth c M) (hok : am_ok C G M (pc, i, len, x)) (hdr : am_dr M.2.2.2.1 i st = some r)
    (hq : ∀ u : State, u.heap = H → s.WarmedH u.vm → Qc args s (.returned (r.map (am_tr base b t))) u) (hf : ∀ q ∈ locs, free q.base) : W p l e R s m args below meth c H locs cells slots (MQ below Qc args s cells slots free) (F0 m pc ls (st.map (am_tr base b t))) := by
  obtain ⟨hx, hb, hml, hown, hts, hr, hlk, hnm, hK, hO, hbs⟩ := F
  have hdec : decode M.2.1 pc = .ok (i, len) := hok.1
  have hlo : am_lo C G M pc i len x := hok.2
  cases i
  case ireturn =>
    have hlen : len = 1 := hlo
    subst hlen
    have hdr : am_ri M.2.2.2.1 st = some r := hdr
    unfold am_ri at hdr
    rcases st with _ | ⟨v0, st⟩
    · exact absurd hdr (by simp)
    cases v0 with
    | int v =>
      rcases st with _ | ⟨v1, st⟩
      · generalize hre : M.2.2.2.1 = ret at hdr hr
        cases ret with
        | none => exact absurd hdr (by simp)
        | some ty =>
          cases ty with
          | int =>
            obtain rfl := Option.some.inj hdr
            exact W.iret hx hb hr hq hf hdec (hlocks := hlk)
          | boolean =>
            have hdr : (bif decide (v = 0) || decide (v = 1) then some (some (.int v)) else none) = some r := hdr
            cases hc : (decide (v = 0) || decide (v = 1)) with
            | false => rw [hc] at hdr; cases hdr
            | true =>
              rw [hc] at hdr
              obtain rfl := Option.some.inj hdr
              have hn : narrow .boolean (.int v) = .int v := (am_fi_ok base b t (ty := .boolean) (v := .int v) hc).1
              exact W.zret (ty := .boolean) hx hb hr hn hq hf hdec (hlocks := hlk)
          | _ => exact absurd hdr (by simp)
      · exact absurd hdr (by simp)
    | _ => exact absurd hdr (by simp)
  case lreturn =>
    have hlen : len = 1 := hlo
    subst hlen
    have hdr : am_rl M.2.2.2.1 st = some r := hdr
    unfold am_rl at hdr
    rcases st with _ | ⟨v0, st⟩
    · exact absurd hdr (by simp)
    cases v0 with
    | long v =>
      rcases st with _ | ⟨v1, st⟩
      · generalize hre : M.2.2.2.1 = ret at hdr hr
        cases ret with
        | none => exact absurd hdr (by simp)
        | some ty =>
          cases ty with
          | long =>
            obtain rfl := Option.some.inj hdr
            exact W.lret hx hb hr hq hf hdec (hlocks := hlk)
          | _ => exact absurd hdr (by simp)
      · exact absurd hdr (by simp)
    | _ => exact absurd hdr (by simp)
  case return_ =>
    have hlen : len = 1 := hlo
    subst hlen
    have hdr : am_rv M.2.2.2.1 st = some r := hdr
    unfold am_rv at hdr
    rcases st with _ | ⟨v0, st⟩
    · generalize hre : M.2.2.2.1 = ret at hdr hr
      cases ret with
      | none =>
        obtain rfl := Option.some.inj hdr
        exact W.vret hx hb hr hq hf hdec (hlocks := hlk)
      | some ty => exact absurd hdr (by simp)
    · exact absurd hdr (by simp)
  all_goals exact absurd (show (none : Option (Option Value)) = some r from hdr) (by simp)
end AMU
theorem am_kd_cases (i : Instr) (x : am_X) : am_kd i x = 0 ∨ am_kd i x = 1 ∨ am_kd i x = 2 ∨ am_kd i x = 3 := by
  cases i
  case invokespecial k =>
    show (bif x.1 == 1002 then 0 else 1) = 0 ∨ (bif x.1 == 1002 then 0 else 1) = 1 ∨ _
    cases (x.1 == 1002)
    · exact Or.inr (Or.inl rfl)
    · exact Or.inl rfl
  case invokestatic k =>
    show (bif x.1 == 1000 then 0 else bif x.1 == 1001 then 0 else 1) = 0 ∨ (bif x.1 == 1000 then 0 else bif x.1 == 1001 then 0 else 1) = 1 ∨ _
    cases (x.1 == 1000)
    · cases (x.1 == 1001)
      · exact Or.inr (Or.inl rfl)
      · exact Or.inl rfl
    · exact Or.inl rfl
  all_goals first
    | exact Or.inl rfl
    | exact Or.inr (Or.inl rfl)
    | exact Or.inr (Or.inr (Or.inl rfl))
    | exact Or.inr (Or.inr (Or.inr rfl))
/-- THE ABSTRACT MACHINE IS RIGHT: with fuel n -/
def am_S (C : am_C) (G : List Cond) (D : va_G) (cI cC : ClassId) (base b t n : Nat) : Prop :=
  ∀ (d mi pc : Nat) (lv : am_V) (st : List Value) (h : List am_E) (o : Option Value × List am_E × Nat × Nat), am_run C n d mi pc lv st h = some o →
  ∀ (p : Program) (l : Launch) (e : Env) (R : Room) (s : State) (m : MethodId) (args : Array Value) (below : List Frame) (meth : Method) (c : Code) (M : am_M) (H : Heap) (locs : List Loc) (cells slots : Nat) (Q : State → Prop) (ls : Array Slot),
    C.1[mi]? = some M → am_F C G D cI cC base b t p s m args meth c M → am_N C D cI cC base b t s cells h H locs → lv_has ls M.2.2.1 (am_lm base b t lv) → (d ≤ R.frames ∧ 64 * d ≤ R.locals) → cells + o.2.2.1 ≤ R.cells → slots + o.2.2.2 ≤ R.slots →
    (∀ (pc1 : Nat) (i1 : Instr) (len1 : Nat) (x1 : am_X) (ls1 : Array Slot) (H1 : Heap) (locs1 : List Loc) (st1 : List Value), am_ok C G M (pc1, i1, len1, x1) → am_dr M.2.2.2.1 i1 st1 = some o.1 → am_N C D cI cC base b t s (cells + o.2.2.1) o.2.1 H1 locs1 →
      W p l e R s m args below meth c H1 locs1 (cells + o.2.2.1) (slots + o.2.2.2) Q (F0 m pc1 ls1 (st1.map (am_tr base b t)))) →
    W p l e R s m args below meth c H locs cells slots Q (F0 m pc ls (st.map (am_tr base b t)))
theorem am_met {C : am_C} {G : List Cond} {D : va_G} {cI cC : ClassId} {base b t n d cal c1 s1 : Nat} {vs : List Value} {h h1 : List am_E} {r : Option Value} {N : am_M} {l : Launch} (O : am_OK C G) (S : am_S C G D cI cC base b t n) (hN : C.1[cal]? = some N) (hc0 : cal ≠ 0) (hsl : (lg_sl vs).length ≤ N.2.2.1) (hrun : am_run C n d cal 0 (lv_args 0 vs) [] h = some (r, h1, c1, s1)) :
    Met l N.1 (Cond.code N.1 N.2.1 N.2.2.1 N.2.2.2.1 :: G) (am_rm d c1 s1) (am_Pc C D cI cC base b t vs h) (am_Qc C D cI cC base b t r h h1 c1) c1 s1 (am_A base) := by
  have hmc := (O.2.2 cal N hN).2 hc0
  refine Met.ofW (cc := N.2.1) (maxL := N.2.2.1) (ret := N.2.2.2.1) hmc.2.2.1 rfl ?_
  intro p e s m args below meth c s₁ B hml hv
  obtain ⟨rfl, hsz, hP, hK, hOld⟩ := hv
  have hts := atoms_spec (ws := Cond.code N.1 N.2.1 N.2.2.1 N.2.2.2.1 :: G) B.pre
  have hown : s.vm.findClass N.1.cls = some m.cls := findClass_of_methodNamed B.named
  have hnm := (name_of_methodNamed B.named B.method).1
  have hl := lv_entry (vs.map (am_tr base b t)) (n := N.2.2.1) (by rw [am_sl_tr]; exact hsl)
  rw [lg_entry_eq]
  generalize (lg_sl (vs.map (am_tr base b t)) ++ List.replicate (N.2.2.1 - (lg_sl (vs.map (am_tr base b t))).length) Slot.unset).toArray = ls at hl ⊢
  rw [am_args_tr] at hl
  have F : am_F C G D cI cC base b t p s m (vs.map (am_tr base b t)).toArray meth c N := ⟨B.exec, B.bytes, hml, hown, fun w hw => hts w (List.mem_cons_of_mem _ hw), B.returns, B.notSynchronized, fun hi => hnm.trans hi, hK, hOld, by rw [hsz]; exact Nat.le_add_right _ _⟩
  refine S d cal 0 _ [] h _ hrun p l e _ s m _ below meth c N s.heap [] 0 0 _ ls hN F ⟨hP, by rw [hsz]; rfl, va_S.rf⟩ hl ⟨Nat.le_refl _, Nat.le_refl _⟩ (by show 0 + c1 ≤ c1; omega) (by show 0 + s1 ≤ s1; omega) ?_
  intro pc1 i1 len1 x1 ls1 H1 locs1 st1 hok hdr I1
  have I1 : am_N C D cI cC base b t s (0 + c1) h1 H1 locs1 := I1
  have hlen : h1.length = h.length + c1 := by have := I1.2.1; rw [hsz] at this; omega
  show W p l e _ s m _ below meth c H1 locs1 (0 + c1) (0 + s1) _ _
  rw [Nat.zero_add, Nat.zero_add]
  exact am_ret F hok hdr (fun u hu hW => ⟨⟨rfl, hlen, by rw [hu]; exact I1.1⟩, I1.2.2.F hu⟩) I1.2.2.2.2
theorem am_sim {C : am_C} {G : List Cond} {D : va_G} {cI cC : ClassId} {base b t : Nat} (O : am_OK C G) : ∀ n, am_S C G D cI cC base b t n := by
  intro n
  induction n with
  | zero =>
    intro d mi pc lv st h o hrun
    cases (show (none : Option (Option Value × List am_E × Nat × Nat)) = some o from hrun)
  | succ n ih =>
    intro d mi pc lv st h o hrun p l e R s m args below meth c M H locs cells slots Q ls hM F I hl hd hc hs hfin
    rw [am_run] at hrun
    cases hat : am_at C mi pc with
    | none => rw [hat] at hrun; cases hrun
    | some q =>
      obtain ⟨i, len, x⟩ := q
      rw [hat] at hrun
      have hat2 : am_ix M.2.2.2.2 pc = some (i, len, x) := by
        unfold am_at at hat
        rw [hM] at hat
        exact hat
      have hok : am_ok C G M (pc, i, len, x) := (O.2.2 mi M hM).1 _ (am_ix_mem hat2)
      have hrt : am_rt C mi = M.2.2.2.1 := by
        unfold am_rt
        rw [hM]
      rcases am_kd_cases i x with hkd | hkd | hkd | hkd
      · simp only [hkd] at hrun
        cases hdo : am_do C d i x pc lv st h with
        | none => rw [hdo] at hrun; cases hrun
        | some z =>
          rw [hdo] at hrun
          exact am_pl O F I hl hd ⟨by omega, by omega⟩ hok hkd hdo (fun ls1 H1 locs1 I1 hl1 => ih d mi z.1 z.2.1 z.2.2.1 z.2.2.2 o hrun p l e R s m args below meth c M H1 locs1 cells slots Q ls1 hM F I1 hl1 hd hc hs hfin)
      · simp only [hkd] at hrun
        cases hdc : am_dc C i x st h with
        | none => rw [hdc] at hrun; cases hrun
        | some z =>
          rw [hdc] at hrun
          cases d with
          | zero => cases hrun
          | succ d1 =>
            simp only at hrun
            cases hr1 : am_run C n d1 z.1 0 (lv_args 0 z.2.1) [] h with
            | none => rw [hr1] at hrun; cases hrun
            | some o1 =>
              rw [hr1] at hrun
              simp only at hrun
              cases hr2 : am_run C n (d1 + 1) mi (pc + 3) lv (o1.1.toList ++ z.2.2) o1.2.1 with
              | none => rw [hr2] at hrun; cases hrun
              | some o2 =>
                rw [hr2] at hrun
                obtain rfl := Option.some.inj hrun
                obtain ⟨r1, h1, c1, s1⟩ := o1
                obtain ⟨r2, h2, c2, s2⟩ := o2
                have hc : cells + (c1 + c2) ≤ R.cells := hc
                have hs : slots + (s1 + s2) ≤ R.slots := hs
                refine am_pc (c1 := c1) (s1 := s1) (r := r1) (h1 := h1) O F I hl hd ⟨by omega, by omega⟩ hok hkd hdc (fun N hN hne hsl => am_met O ih hN hne hsl hr1) (fun H1 locs1 I1 => ?_)
                refine ih (d1 + 1) mi (pc + 3) lv _ h1 _ hr2 p l e R s m args below meth c M H1 locs1 (cells + c1) (slots + s1) Q ls hM F I1 hl hd (by show cells + c1 + c2 ≤ _; omega) (by show slots + s1 + s2 ≤ _; omega) ?_
                intro pc1 i1 len1 x1 ls1 H2 locs2 st1 hok1 hdr1 I2
                have K := hfin pc1 i1 len1 x1 ls1 H2 locs2 st1 hok1 hdr1
                have K : am_N C D cI cC base b t s (cells + (c1 + c2)) h2 H2 locs2 → W p l e R s m args below meth c H2 locs2 (cells + (c1 + c2)) (slots + (s1 + s2)) Q (F0 m pc1 ls1 (st1.map (am_tr base b t))) := K
                rw [← Nat.add_assoc, ← Nat.add_assoc] at K
                exact K I2
      · simp only [hkd] at hrun
        cases hdn : am_dn C i x pc st with
        | none => rw [hdn] at hrun; cases hrun
        | some z =>
          rw [hdn] at hrun
          simp only at hrun
          cases hr2 : am_run C n d mi z.1 lv (.ref (h.length + 2) :: z.2.1) (h ++ [z.2.2.1]) with
          | none => rw [hr2] at hrun; cases hrun
          | some o2 =>
            rw [hr2] at hrun
            obtain rfl := Option.some.inj hrun
            obtain ⟨r2, h2, c2, s2⟩ := o2
            have hc : cells + (1 + c2) ≤ R.cells := hc
            have hs : slots + (z.2.2.2 + s2) ≤ R.slots := hs
            refine am_pn O F I hl ⟨by omega, by omega⟩ hok hdn (fun H1 I1 => ?_)
            refine ih d mi z.1 lv _ _ _ hr2 p l e R s m args below meth c M H1 locs (cells + 1) (slots + z.2.2.2) Q ls hM F I1 hl hd (by show cells + 1 + c2 ≤ _; omega) (by show slots + z.2.2.2 + s2 ≤ _; omega) ?_
            intro pc1 i1 len1 x1 ls1 H2 locs2 st1 hok1 hdr1 I2
            have K := hfin pc1 i1 len1 x1 ls1 H2 locs2 st1 hok1 hdr1
            have K : am_N C D cI cC base b t s (cells + (1 + c2)) h2 H2 locs2 → W p l e R s m args below meth c H2 locs2 (cells + (1 + c2)) (slots + (z.2.2.2 + s2)) Q (F0 m pc1 ls1 (st1.map (am_tr base b t))) := K
            rw [← Nat.add_assoc, ← Nat.add_assoc] at K
            exact K I2
      · simp only [hkd] at hrun
        rw [hrt] at hrun
        cases hdr : am_dr M.2.2.2.1 i st with
        | none => rw [hdr] at hrun; cases hrun
        | some r =>
          rw [hdr] at hrun
          obtain rfl := Option.some.inj hrun
          exact hfin pc i len x ls H locs st hok hdr I
