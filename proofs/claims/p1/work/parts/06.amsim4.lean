section AMT
variable {C : am_C} {G : List Cond} {D : va_G} {cI cC : ClassId} {base b t : Nat} {p : Program} {l : Launch} {e : Env} {R : Room} {s : State} {m : MethodId} {args : Array Value} {below : List Frame} {meth : Method} {c : Code} {M : am_M} {H : Heap} {locs : List Loc} {cells slots : Nat} {Q : State → Prop} {pc : Nat} {ls : Array Slot} {lv : am_V} {st : List Value} {h : List am_E} {z : am_Z}
set_option maxHeartbeats 4000000 in
/-- a step of the abstract machine is a step of the machine -/
theorem am_pl {i : Instr} {len d : Nat} {x : am_X} (O : am_OK C G) (F : am_F C G D cI cC base b t p s m args meth c M) (I : am_N C D cI cC base b t s cells h H locs) (hl : lv_has ls M.2.2.1 (am_lm base b t lv)) (hd : d ≤ R.frames ∧ 64 * d ≤ R.locals) (hcs : cells ≤ R.cells ∧ slots ≤ R.slots) (hok : am_ok C G M (pc, i, len, x)) (hkd : am_kd i x = 0) (hdo : am_do C d i x pc lv st h = some z)
    (k : ∀ (ls1 : Array Slot) (H1 : Heap) (locs1 : List Loc), am_N C D cI cC base b t s cells z.2.2.2 H1 locs1 → lv_has ls1 M.2.2.1 (am_lm base b t z.2.1) → W p l e R s m args below meth c H1 locs1 cells slots Q (F0 m z.1 ls1 (z.2.2.1.map (am_tr base b t)))) : W p l e R s m args below meth c H locs cells slots Q (F0 m pc ls (st.map (am_tr base b t))) := by
  have FX := F
  obtain ⟨hx, hb, hml, hown, hts, hr, hlk, hnm, hK, hO, hbs⟩ := FX
  obtain ⟨x1, x2, x3, x4⟩ := x
  have hdec : decode M.2.1 pc = .ok (i, len) := hok.1
  have hlo : am_lo C G M pc i len (x1, x2, x3, x4) := hok.2
  clear hok
  cases i
  case iconst n =>
    have hlo : len = 1 ∧ x4 = _ := hlo
    obtain ⟨rfl, rfl⟩ := hlo
    obtain rfl := Option.some.inj hdo
    exact lv_iconst hx hb hdec rfl (k ls H locs I hl)
  case bipush n =>
    have hlo : len = 2 ∧ x4 = _ := hlo
    obtain ⟨rfl, rfl⟩ := hlo
    obtain rfl := Option.some.inj hdo
    exact lv_bipush hx hb hdec rfl (k ls H locs I hl)
  case sipush n =>
    have hlo : len = 3 ∧ x4 = _ := hlo
    obtain ⟨rfl, rfl⟩ := hlo
    obtain rfl := Option.some.inj hdo
    exact lv_sipush hx hb hdec rfl (k ls H locs I hl)
  case lconst n =>
    have hlo : len = 1 ∧ x4 = _ := hlo
    obtain ⟨rfl, rfl⟩ := hlo
    obtain rfl := Option.some.inj hdo
    exact lv_lconst hx hb hdec rfl (k ls H locs I hl)
  case ldc2_w n =>
    obtain ⟨hlen, v, hv, hmem⟩ := hlo
    have hlen : len = 3 := hlen
    have hv : x4 = .long v := hv
    subst hlen
    subst hv
    obtain rfl := Option.some.inj hdo
    exact lv_ldc2 hx hb hown (hts _ hmem) hdec (k ls H locs I hl)
  case iload_n n =>
    have hlen : len = 1 := hlo
    subst hlen
    obtain ⟨v, hv, rfl⟩ := am_li1_inv hdo
    exact lv_iload_n hx hb hdec rfl (am_lk_at hl hv) (k ls H locs I hl)
  case iload n =>
    have hlen : len = 2 := hlo
    subst hlen
    obtain ⟨v, hv, rfl⟩ := am_li1_inv hdo
    exact lv_iload hx hb hdec (am_lk_at hl hv) (k ls H locs I hl)
  case lload_n n =>
    have hlen : len = 1 := hlo
    subst hlen
    obtain ⟨v, hv, rfl⟩ := am_ll1_inv hdo
    exact lv_lload_n hx hb hdec rfl (am_lk_at hl hv) (k ls H locs I hl)
  case lload n =>
    have hlen : len = 2 := hlo
    subst hlen
    obtain ⟨v, hv, rfl⟩ := am_ll1_inv hdo
    exact lv_lload hx hb hdec (am_lk_at hl hv) (k ls H locs I hl)
  case aload_n n =>
    have hlen : len = 1 := hlo
    subst hlen
    obtain ⟨v, hv, rfl⟩ := am_la1_inv hdo
    have hv := am_lk_at hl hv
    have K := k ls H locs I hl
    match v, hv, K with
    | 0, hv, K => exact lv_aload_n hx hb hdec rfl hv K
    | 1, hv, K => exact lv_aload_n hx hb hdec rfl hv K
    | j + 2, hv, K => exact lv_aload_n hx hb hdec rfl hv K
  case aload n =>
    have hlen : len = 2 := hlo
    subst hlen
    obtain ⟨v, hv, rfl⟩ := am_la1_inv hdo
    have hv := am_lk_at hl hv
    have K := k ls H locs I hl
    match v, hv, K with
    | 0, hv, K => exact lv_aload hx hb hdec hv K
    | 1, hv, K => exact lv_aload hx hb hdec hv K
    | j + 2, hv, K => exact lv_aload hx hb hdec hv K
  case istore_n n =>
    obtain ⟨hlen, hn⟩ := hlo
    have hlen : len = 1 := hlen
    subst hlen
    obtain ⟨v, r, rfl, rfl⟩ := am_si1_inv hdo
    exact lv_istore_n hx hb hdec rfl hl hn rfl (fun ls1 hl1 => k ls1 H locs I (am_s1_has (v := .int v) hl1))
  case istore n =>
    obtain ⟨hlen, hn⟩ := hlo
    have hlen : len = 2 := hlen
    subst hlen
    obtain ⟨v, r, rfl, rfl⟩ := am_si1_inv hdo
    exact lv_istore hx hb hdec hl hn rfl (fun ls1 hl1 => k ls1 H locs I (am_s1_has (v := .int v) hl1))
  case lstore_n n =>
    obtain ⟨hlen, hn⟩ := hlo
    have hlen : len = 1 := hlen
    subst hlen
    obtain ⟨v, r, rfl, rfl⟩ := am_sl1_inv hdo
    exact lv_lstore_n hx hb hdec rfl hl hn rfl (fun ls1 hl1 => k ls1 H locs I (am_s2_has (v := .long v) hl1))
  case lstore n =>
    obtain ⟨hlen, hn⟩ := hlo
    have hlen : len = 2 := hlen
    subst hlen
    obtain ⟨v, r, rfl, rfl⟩ := am_sl1_inv hdo
    exact lv_lstore hx hb hdec hl hn rfl (fun ls1 hl1 => k ls1 H locs I (am_s2_has (v := .long v) hl1))
  case astore_n n =>
    obtain ⟨hlen, hn⟩ := hlo
    have hlen : len = 1 := hlen
    subst hlen
    obtain ⟨v, r, rfl, rfl⟩ := am_sa1_inv hdo
    have K := fun (ls1 : Array Slot) hl1 => k ls1 H locs I (am_s1_has (v := .ref v) hl1)
    match v, K with
    | 0, K => exact lv_astore_n hx hb hdec rfl hl hn rfl K
    | 1, K => exact lv_astore_n hx hb hdec rfl hl hn rfl K
    | j + 2, K => exact lv_astore_n hx hb hdec rfl hl hn rfl K
  case astore n =>
    obtain ⟨hlen, hn⟩ := hlo
    have hlen : len = 2 := hlen
    subst hlen
    obtain ⟨v, r, rfl, rfl⟩ := am_sa1_inv hdo
    have K := fun (ls1 : Array Slot) hl1 => k ls1 H locs I (am_s1_has (v := .ref v) hl1)
    match v, K with
    | 0, K => exact lv_astore hx hb hdec hl hn rfl K
    | 1, K => exact lv_astore hx hb hdec hl hn rfl K
    | j + 2, K => exact lv_astore hx hb hdec hl hn rfl K
  case iinc i n =>
    obtain ⟨hlen, hn⟩ := hlo
    have hlen : len = 3 := hlen
    subst hlen
    obtain ⟨v, hv, rfl⟩ := am_inc_inv hdo
    obtain ⟨kx, hkx⟩ := am_lk_ix (base := base) (b := b) (t := t) hv
    exact lv_iinc hx hb hdec hl hkx rfl hn rfl (fun ls1 hl1 => k ls1 H locs I (am_s1_has (v := .int (v + Int32.ofInt n)) hl1))
  case iadd =>
    have hlen : len = 1 := hlo
    subst hlen
    obtain ⟨a, y, v, r, rfl, hf, rfl⟩ := am_ii_inv (f := fun x y => some (x + y)) hdo
    have hf : some (a + y) = some v := hf
    cases hf
    exact lv_iadd hx hb hdec (k ls H locs I hl)
  case isub =>
    have hlen : len = 1 := hlo
    subst hlen
    obtain ⟨a, y, v, r, rfl, hf, rfl⟩ := am_ii_inv (f := fun x y => some (x - y)) hdo
    have hf : some (a - y) = some v := hf
    cases hf
    exact lv_isub hx hb hdec (k ls H locs I hl)
  case imul =>
    have hlen : len = 1 := hlo
    subst hlen
    obtain ⟨a, y, v, r, rfl, hf, rfl⟩ := am_ii_inv (f := fun x y => some (x * y)) hdo
    have hf : some (a * y) = some v := hf
    cases hf
    exact lv_imul hx hb hdec (k ls H locs I hl)
  case iand =>
    have hlen : len = 1 := hlo
    subst hlen
    obtain ⟨a, y, v, r, rfl, hf, rfl⟩ := am_ii_inv (f := fun x y => some (x &&& y)) hdo
    have hf : some (a &&& y) = some v := hf
    cases hf
    exact lv_iand hx hb hdec (k ls H locs I hl)
  case ior =>
    have hlen : len = 1 := hlo
    subst hlen
    obtain ⟨a, y, v, r, rfl, hf, rfl⟩ := am_ii_inv (f := fun x y => some (x ||| y)) hdo
    have hf : some (a ||| y) = some v := hf
    cases hf
    exact lv_ior hx hb hdec (k ls H locs I hl)
  case idiv =>
    have hlen : len = 1 := hlo
    subst hlen
    obtain ⟨a, y, v, r, rfl, hf, rfl⟩ := am_ii_inv hdo
    have hf : (if y = 0 then none else some (a / y)) = some v := hf
    by_cases h0 : y = 0
    · rw [if_pos h0] at hf
      cases hf
    · rw [if_neg h0] at hf
      cases hf
      exact lv_idiv hx hb hdec h0 (k ls H locs I hl)
  case irem =>
    have hlen : len = 1 := hlo
    subst hlen
    obtain ⟨a, y, v, r, rfl, hf, rfl⟩ := am_ii_inv hdo
    have hf : (if y = 0 then none else some (a - a / y * y)) = some v := hf
    by_cases h0 : y = 0
    · rw [if_pos h0] at hf
      cases hf
    · rw [if_neg h0] at hf
      cases hf
      exact lv_irem hx hb hdec h0 (k ls H locs I hl)
  case ladd =>
    have hlen : len = 1 := hlo
    subst hlen
    obtain ⟨a, y, r, rfl, rfl⟩ := am_ll_inv hdo
    exact lv_ladd hx hb hdec (k ls H locs I hl)
  case lmul =>
    have hlen : len = 1 := hlo
    subst hlen
    obtain ⟨a, y, r, rfl, rfl⟩ := am_ll_inv hdo
    exact lv_lmul hx hb hdec (k ls H locs I hl)
  case land =>
    have hlen : len = 1 := hlo
    subst hlen
    obtain ⟨a, y, r, rfl, rfl⟩ := am_ll_inv hdo
    exact lv_land hx hb hdec (k ls H locs I hl)
  case lor =>
    have hlen : len = 1 := hlo
    subst hlen
    obtain ⟨a, y, r, rfl, rfl⟩ := am_ll_inv hdo
    exact lv_lor hx hb hdec (k ls H locs I hl)
  case lcmp =>
    have hlen : len = 1 := hlo
    subst hlen
    obtain ⟨a, y, r, rfl, rfl⟩ := am_ll_inv hdo
    exact W.lcmp hx hb hdec (k ls H locs I hl)
  case lshl =>
    have hlen : len = 1 := hlo
    subst hlen
    obtain ⟨a, y, r, rfl, rfl⟩ := am_li_inv hdo
    exact lv_lshl hx hb hdec rfl (k ls H locs I hl)
  case lushr =>
    have hlen : len = 1 := hlo
    subst hlen
    obtain ⟨a, y, r, rfl, rfl⟩ := am_li_inv hdo
    exact lv_lushr hx hb hdec rfl (k ls H locs I hl)
  case i2l =>
    have hlen : len = 1 := hlo
    subst hlen
    obtain ⟨a, r, rfl, rfl⟩ := am_ui_inv hdo
    exact lv_i2l hx hb hdec rfl (k ls H locs I hl)
  case i2c =>
    have hlen : len = 1 := hlo
    subst hlen
    obtain ⟨a, r, rfl, rfl⟩ := am_ui_inv hdo
    exact lv_i2c hx hb hdec rfl (k ls H locs I hl)
  case l2i =>
    have hlen : len = 1 := hlo
    subst hlen
    obtain ⟨a, r, rfl, rfl⟩ := am_ul_inv hdo
    exact lv_l2i hx hb hdec rfl (k ls H locs I hl)
  case ifCond cnd off =>
    obtain ⟨hlen, ht⟩ := hlo
    have hlen : len = 3 := hlen
    subst hlen
    obtain ⟨a, r, rfl, rfl⟩ := am_b1_inv hdo
    cases cnd with
    | eq =>
      refine lv_if_eq hx hb hdec ht (fun hc => ?_) (fun hc => ?_)
      · have K := k ls H locs I hl
        rw [show am_if .eq a 0 = true from decide_eq_true hc] at K
        exact K
      · have K := k ls H locs I hl
        rw [show am_if .eq a 0 = false from decide_eq_false hc] at K
        exact K
    | ne =>
      refine lv_if_ne hx hb hdec ht (fun hc => ?_) (fun hc => ?_)
      · have K := k ls H locs I hl
        rw [show am_if .ne a 0 = true from decide_eq_true hc] at K
        exact K
      · have K := k ls H locs I hl
        rw [show am_if .ne a 0 = false from decide_eq_false (not_not_intro hc)] at K
        exact K
    | lt =>
      refine lv_if_lt hx hb hdec ht (fun hc => ?_) (fun hc => ?_)
      · have K := k ls H locs I hl
        rw [show am_if .lt a 0 = true from decide_eq_true hc] at K
        exact K
      · have K := k ls H locs I hl
        rw [show am_if .lt a 0 = false from decide_eq_false hc] at K
        exact K
    | ge =>
      refine lv_if_ge hx hb hdec ht (fun hc => ?_) (fun hc => ?_)
      · have K := k ls H locs I hl
        rw [show am_if .ge a 0 = true from decide_eq_true hc] at K
        exact K
      · have K := k ls H locs I hl
        rw [show am_if .ge a 0 = false from decide_eq_false hc] at K
        exact K
    | gt =>
      refine lv_if_gt hx hb hdec ht (fun hc => ?_) (fun hc => ?_)
      · have K := k ls H locs I hl
        rw [show am_if .gt a 0 = true from decide_eq_true hc] at K
        exact K
      · have K := k ls H locs I hl
        rw [show am_if .gt a 0 = false from decide_eq_false hc] at K
        exact K
    | le =>
      refine lv_if_le hx hb hdec ht (fun hc => ?_) (fun hc => ?_)
      · have K := k ls H locs I hl
        rw [show am_if .le a 0 = true from decide_eq_true hc] at K
        exact K
      · have K := k ls H locs I hl
        rw [show am_if .le a 0 = false from decide_eq_false hc] at K
        exact K
  case if_icmp cnd off =>
    obtain ⟨hlen, ht⟩ := hlo
    have hlen : len = 3 := hlen
    subst hlen
    obtain ⟨a, y, r, rfl, rfl⟩ := am_b2_inv hdo
    cases cnd with
    | eq =>
      refine lv_icmp_eq hx hb hdec ht (fun hc => ?_) (fun hc => ?_)
      · have K := k ls H locs I hl
        rw [show am_if .eq a y = true from decide_eq_true hc] at K
        exact K
      · have K := k ls H locs I hl
        rw [show am_if .eq a y = false from decide_eq_false hc] at K
        exact K
    | ne =>
      refine lv_icmp_ne hx hb hdec ht (fun hc => ?_) (fun hc => ?_)
      · have K := k ls H locs I hl
        rw [show am_if .ne a y = true from decide_eq_true hc] at K
        exact K
      · have K := k ls H locs I hl
        rw [show am_if .ne a y = false from decide_eq_false (not_not_intro hc)] at K
        exact K
    | lt =>
      refine lv_icmp_lt hx hb hdec ht (fun hc => ?_) (fun hc => ?_)
      · have K := k ls H locs I hl
        rw [show am_if .lt a y = true from decide_eq_true hc] at K
        exact K
      · have K := k ls H locs I hl
        rw [show am_if .lt a y = false from decide_eq_false hc] at K
        exact K
    | ge =>
      refine lv_icmp_ge hx hb hdec ht (fun hc => ?_) (fun hc => ?_)
      · have K := k ls H locs I hl
        rw [show am_if .ge a y = true from decide_eq_true hc] at K
        exact K
      · have K := k ls H locs I hl
        rw [show am_if .ge a y = false from decide_eq_false hc] at K
        exact K
    | gt =>
      refine lv_icmp_gt hx hb hdec ht (fun hc => ?_) (fun hc => ?_)
      · have K := k ls H locs I hl
        rw [show am_if .gt a y = true from decide_eq_true hc] at K
        exact K
      · have K := k ls H locs I hl
        rw [show am_if .gt a y = false from decide_eq_false hc] at K
        exact K
    | le =>
      refine lv_icmp_le hx hb hdec ht (fun hc => ?_) (fun hc => ?_)
      · have K := k ls H locs I hl
        rw [show am_if .le a y = true from decide_eq_true hc] at K
        exact K
      · have K := k ls H locs I hl
        rw [show am_if .le a y = false from decide_eq_false hc] at K
        exact K
  case goto off =>
    obtain ⟨hlen, ht⟩ := hlo
    have hlen : len = 3 := hlen
    subst hlen
    obtain rfl := Option.some.inj hdo
    exact lv_goto hx hb hdec ht (k ls H locs I hl)
  case tableswitch dflt lo hi offs =>
    obtain ⟨a, tgt, r, rfl, hf, rfl⟩ := am_sw_inv hdo
    unfold am_ts at hf
    by_cases hc : a.toInt < lo ∨ hi < a.toInt
    · rw [if_pos hc] at hf
      exact lv_tableOut hx hb hdec hc (am_to_eq hf) (k ls H locs I hl)
    · rw [if_neg hc] at hf
      cases ho : offs[(a.toInt - lo).toNat]? with
      | none => rw [ho] at hf; cases hf
      | some off =>
        rw [ho] at hf
        exact lv_tableIn hx hb hdec (fun w => hc (Or.inl w)) (fun w => hc (Or.inr w)) ho (am_to_eq hf) (k ls H locs I hl)
  case lookupswitch dflt ps =>
    obtain ⟨a, tgt, r, rfl, hf, rfl⟩ := am_sw_inv hdo
    exact lv_lookup hx hb hdec hlo rfl (am_to_eq hf) (k ls H locs I hl)
  case dup =>
    have hlen : len = 1 := hlo
    subst hlen
    obtain ⟨v, r, rfl, hc, rfl⟩ := am_dup_inv hdo
    exact lv_dup hx hb hdec ((am_tr_cat base b t v).trans hc) (k ls H locs I hl)
  case pop =>
    have hlen : len = 1 := hlo
    subst hlen
    obtain ⟨v, r, rfl, hc, rfl⟩ := am_pop_inv hdo
    exact lv_pop hx hb hdec ((am_tr_cat base b t v).trans hc) (k ls H locs I hl)
  case getfield n =>
    obtain ⟨hlen, hfl⟩ := hlo
    have hlen : len = 3 := hlen
    subst hlen
    exact am_pget O F I hl hdec hfl hdo k
  case putfield n =>
    obtain ⟨hlen, hfl, hfi⟩ := hlo
    have hlen : len = 3 := hlen
    subst hlen
    exact am_pput O F I hl hdec hfl hfi hdo k
  case getstatic n =>
    obtain ⟨hlen, hmem⟩ := hlo
    have hlen : len = 3 := hlen
    subst hlen
    obtain rfl := Option.some.inj hdo
    exact va_gets hx hb hO.2.2.2 I.2.2 hown (hts _ hmem) (fun y hy => hy) hdec (k ls H locs I hl)
  case iaload =>
    have hlen : len = 1 := hlo
    subst hlen
    exact am_pildi O F I hl hdec hdo k
  case caload =>
    have hlen : len = 1 := hlo
    subst hlen
    exact am_pildc O F I hl hdec hdo k
  case laload =>
    have hlen : len = 1 := hlo
    subst hlen
    exact am_plld O F I hl hdec hdo k
  case iastore =>
    have hlen : len = 1 := hlo
    subst hlen
    exact am_psti O F I hl hdec hdo k
  case castore =>
    have hlen : len = 1 := hlo
    subst hlen
    exact am_pstc O F I hl hdec hdo k
  case arraylength =>
    have hlen : len = 1 := hlo
    subst hlen
    exact am_plen O F I hl hdec hdo k
  case invokespecial n =>
    obtain ⟨hlen, hq⟩ := hlo
    have hlen : len = 3 := hlen
    subst hlen
    rcases hq with ⟨-, hmem⟩ | ⟨hne, -⟩
    · exact am_poi O F I hl hd hdec hmem hdo k
    · have hkd : (bif x1 == 1002 then 0 else 1) = 0 := hkd
      have hne : x1 ≠ 1002 := hne
      rw [beq_false_of_ne hne] at hkd
      cases hkd
  case invokestatic n =>
    obtain ⟨hlen, hq⟩ := hlo
    have hlen : len = 3 := hlen
    subst hlen
    rcases hq with ⟨h1, hmem⟩ | ⟨h1, hmem⟩ | ⟨hne, hne2, -⟩
    · have h1 : x1 = 1000 := h1
      subst h1
      exact am_pmax O F I hl hd hcs hdec hmem hdo k
    · have h1 : x1 = 1001 := h1
      subst h1
      exact am_pacp O F I hl hd hdec hmem hdo k
    · have hkd : (bif x1 == 1000 then 0 else bif x1 == 1001 then 0 else 1) = 0 := hkd
      have hne : x1 ≠ 1000 := hne
      have hne2 : x1 ≠ 1001 := hne2
      rw [beq_false_of_ne hne, beq_false_of_ne hne2] at hkd
      cases hkd
  all_goals first
    | exact absurd (show (none : Option am_Z) = some z from hdo) (by simp)
    | exact absurd (show (1 : Nat) = 0 from hkd) (by decide)
    | exact absurd (show (2 : Nat) = 0 from hkd) (by decide)
    | exact absurd (show (3 : Nat) = 0 from hkd) (by decide)
end AMT
