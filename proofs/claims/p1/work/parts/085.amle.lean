/-! Locals that a frame has beside those that a run looks at change nothing. -/
def am_le (lv lw : am_V) : Prop := ∀ (i : Nat) (v : Value), am_lk lv i = some v → am_lk lw i = some v
def am_sub (lw : am_V) : am_V → Prop
  | [] => True
  | q :: r => am_lk lw q.1 = some q.2 ∧ am_sub lw r
theorem am_sub_le {lw : am_V} : ∀ {lv : am_V}, am_sub lw lv → am_le lv lw := by
  intro lv h i v hv
  have hm := am_lk_mem hv
  clear hv
  induction lv with
  | nil => cases hm
  | cons q r ih =>
    rcases List.mem_cons.mp hm with rfl | hm
    · exact h.1
    · exact ih h.2 hm
theorem am_lk_keep {p : Nat × Value → Bool} {j : Nat} : ∀ {lv : am_V}, (∀ w, am_lk lv j = some w → p (j, w) = true) → am_lk (lv.filter p) j = am_lk lv j := by
  intro lv
  induction lv with
  | nil => intro _; rfl
  | cons q r ih =>
    obtain ⟨k, w⟩ := q
    intro h
    have e : am_lk ((k, w) :: r) j = (bif k == j then some w else am_lk r j) := rfl
    cases hk : (k == j) with
    | true =>
      have ek := eq_of_beq hk
      subst ek
      have hp := h w (by rw [e, hk]; rfl)
      rw [List.filter_cons_of_pos hp, e]
      show (bif k == k then some w else am_lk (r.filter p) k) = _
      rw [hk]
      rfl
    | false =>
      rw [e, hk, cond_false]
      have h2 : ∀ w2, am_lk r j = some w2 → p (j, w2) = true := fun w2 hw2 => h w2 (by rw [e, hk]; exact hw2)
      cases hp : p (k, w) with
      | true =>
        rw [List.filter_cons_of_pos hp]
        show (bif k == j then some w else am_lk (r.filter p) j) = _
        rw [hk, cond_false]
        exact ih h2
      | false =>
        rw [List.filter_cons_of_neg (by rw [hp]; exact Bool.false_ne_true)]
        exact ih h2
theorem am_lk_drop {p : Nat × Value → Bool} {j : Nat} : ∀ {lv : am_V}, (∀ w, p (j, w) = false) → am_lk (lv.filter p) j = none := by
  intro lv h
  induction lv with
  | nil => rfl
  | cons q r ih =>
    obtain ⟨k, w⟩ := q
    cases hp : p (k, w) with
    | true =>
      rw [List.filter_cons_of_pos hp]
      have hk : (k == j) = false := by
        cases hk : (k == j) with
        | false => rfl
        | true =>
          have ek := eq_of_beq hk
          subst ek
          rw [h w] at hp
          cases hp
      show (bif k == j then some w else am_lk (r.filter p) j) = _
      rw [hk, cond_false]
      exact ih
    | false =>
      rw [List.filter_cons_of_neg (by rw [hp]; exact Bool.false_ne_true)]
      exact ih
theorem am_c2_of {lv : am_V} {j : Nat} {w : Value} (h : am_lk lv j = some w) : am_c2 lv (j + 1) = (w.category == 2) := by
  show (match am_lk lv j with
    | some v => v.category == 2
    | none => false) = _
  rw [h]
theorem am_le_s1 {lv lw : am_V} (h : am_le lv lw) (i : Nat) (v : Value) : am_le (am_s1 lv i v) (am_s1 lw i v) := by
  intro j w hw
  have e : ∀ l : am_V, am_lk (am_s1 l i v) j = (bif i == j then some v else am_lk (l.filter (fun q => !(q.1 == i) && !(q.1 + 1 == i && (q.2.category == 2 || am_c2 l i)))) j) := fun _ => rfl
  rw [e] at hw ⊢
  cases hij : (i == j) with
  | true =>
    rw [hij] at hw
    exact hw
  | false =>
    rw [hij, cond_false] at hw
    rw [cond_false]
    have hji : (j == i) = false := by
      rw [beq_eq_false_iff_ne] at hij ⊢
      exact fun z => hij z.symm
    cases hj1 : (j + 1 == i) with
    | false =>
      rw [am_lk_keep (fun w2 _ => by simp [hji, hj1])] at hw ⊢
      exact h j w hw
    | true =>
      have ei := eq_of_beq hj1
      subst ei
      cases hc : am_c2 lv (j + 1) with
      | true =>
        rw [am_lk_drop (fun w2 => by simp [hc])] at hw
        cases hw
      | false =>
        have hk : am_lk (lv.filter (fun q => !(q.1 == j + 1) && !(q.1 + 1 == j + 1 && (q.2.category == 2 || am_c2 lv (j + 1))))) j = am_lk lv j := am_lk_keep (fun w2 hw2 => by
          have := am_c2_of hw2
          rw [hc] at this
          simp [hc, ← this])
        rw [hk] at hw
        have hc2 : (w.category == 2) = false := by rw [← am_c2_of hw]; exact hc
        have hw2 := h j w hw
        have hc3 : am_c2 lw (j + 1) = false := by rw [am_c2_of hw2]; exact hc2
        rw [am_lk_keep (fun w2 hw3 => by
          cases hw2.symm.trans hw3
          simp [hc3, hc2])]
        exact hw2
theorem am_le_s2 {lv lw : am_V} (h : am_le lv lw) (i : Nat) (v : Value) : am_le (am_s2 lv i v) (am_s2 lw i v) := by
  intro j w hw
  have e : ∀ l : am_V, am_lk (am_s2 l i v) j = (bif i == j then some v else am_lk (l.filter (fun q => !(q.1 == i) && (!(q.1 == i + 1) && !(q.1 + 1 == i && (q.2.category == 2 || am_c2 l i))))) j) := fun _ => rfl
  rw [e] at hw ⊢
  cases hij : (i == j) with
  | true =>
    rw [hij] at hw
    exact hw
  | false =>
    rw [hij, cond_false] at hw
    rw [cond_false]
    have hji : (j == i) = false := by
      rw [beq_eq_false_iff_ne] at hij ⊢
      exact fun z => hij z.symm
    cases hjn : (j == i + 1) with
    | true =>
      rw [am_lk_drop (fun w2 => by simp [hjn])] at hw
      cases hw
    | false =>
      cases hj1 : (j + 1 == i) with
      | false =>
        rw [am_lk_keep (fun w2 _ => by simp [hji, hj1, hjn])] at hw ⊢
        exact h j w hw
      | true =>
        have ei := eq_of_beq hj1
        subst ei
        cases hc : am_c2 lv (j + 1) with
        | true =>
          rw [am_lk_drop (fun w2 => by simp [hc])] at hw
          cases hw
        | false =>
          have hk : am_lk (lv.filter (fun q => !(q.1 == j + 1) && (!(q.1 == j + 1 + 1) && !(q.1 + 1 == j + 1 && (q.2.category == 2 || am_c2 lv (j + 1)))))) j = am_lk lv j := am_lk_keep (fun w2 hw2 => by
            have := am_c2_of hw2
            rw [hc] at this
            simp [hc, ← this, hjn])
          rw [hk] at hw
          have hc2 : (w.category == 2) = false := by rw [← am_c2_of hw]; exact hc
          have hw2 := h j w hw
          have hc3 : am_c2 lw (j + 1) = false := by rw [am_c2_of hw2]; exact hc2
          rw [am_lk_keep (fun w2 hw3 => by
            cases hw2.symm.trans hw3
            simp [hc3, hc2, hjn])]
          exact hw2
set_option maxHeartbeats 4000000 in
theorem am_do_le {C : am_C} {d : Nat} {i : Instr} {x : am_X} {pc : Nat} {lv lw : am_V} {st : List Value} {h : List am_E} {z : am_Z} (hle : am_le lv lw) (hdo : am_do C d i x pc lv st h = some z) : ∃ lw1 : am_V, am_do C d i x pc lw st h = some (z.1, lw1, z.2.2.1, z.2.2.2) ∧ am_le z.2.1 lw1 := by
  cases i
  case iconst n =>
    obtain rfl := Option.some.inj hdo
    exact ⟨lw, rfl, hle⟩
  case bipush n =>
    obtain rfl := Option.some.inj hdo
    exact ⟨lw, rfl, hle⟩
  case sipush n =>
    obtain rfl := Option.some.inj hdo
    exact ⟨lw, rfl, hle⟩
  case lconst n =>
    obtain rfl := Option.some.inj hdo
    exact ⟨lw, rfl, hle⟩
  case ldc2_w n =>
    obtain rfl := Option.some.inj hdo
    exact ⟨lw, rfl, hle⟩
  case goto n =>
    obtain rfl := Option.some.inj hdo
    exact ⟨lw, rfl, hle⟩
  case getstatic n =>
    obtain rfl := Option.some.inj hdo
    exact ⟨lw, rfl, hle⟩
  case iload_n n =>
    obtain ⟨v, hv, rfl⟩ := am_li1_inv hdo
    refine ⟨lw, ?_, hle⟩
    show am_li1 lw n (pc + 1) st h = _
    unfold am_li1
    rw [hle _ _ hv]
  case iload n =>
    obtain ⟨v, hv, rfl⟩ := am_li1_inv hdo
    refine ⟨lw, ?_, hle⟩
    show am_li1 lw n (pc + 2) st h = _
    unfold am_li1
    rw [hle _ _ hv]
  case lload_n n =>
    obtain ⟨v, hv, rfl⟩ := am_ll1_inv hdo
    refine ⟨lw, ?_, hle⟩
    show am_ll1 lw n (pc + 1) st h = _
    unfold am_ll1
    rw [hle _ _ hv]
  case lload n =>
    obtain ⟨v, hv, rfl⟩ := am_ll1_inv hdo
    refine ⟨lw, ?_, hle⟩
    show am_ll1 lw n (pc + 2) st h = _
    unfold am_ll1
    rw [hle _ _ hv]
  case aload_n n =>
    obtain ⟨v, hv, rfl⟩ := am_la1_inv hdo
    refine ⟨lw, ?_, hle⟩
    show am_la1 lw n (pc + 1) st h = _
    unfold am_la1
    rw [hle _ _ hv]
  case aload n =>
    obtain ⟨v, hv, rfl⟩ := am_la1_inv hdo
    refine ⟨lw, ?_, hle⟩
    show am_la1 lw n (pc + 2) st h = _
    unfold am_la1
    rw [hle _ _ hv]
  case istore_n n =>
    obtain ⟨v, r, rfl, rfl⟩ := am_si1_inv hdo
    exact ⟨_, rfl, am_le_s1 hle _ _⟩
  case istore n =>
    obtain ⟨v, r, rfl, rfl⟩ := am_si1_inv hdo
    exact ⟨_, rfl, am_le_s1 hle _ _⟩
  case lstore_n n =>
    obtain ⟨v, r, rfl, rfl⟩ := am_sl1_inv hdo
    exact ⟨_, rfl, am_le_s2 hle _ _⟩
  case lstore n =>
    obtain ⟨v, r, rfl, rfl⟩ := am_sl1_inv hdo
    exact ⟨_, rfl, am_le_s2 hle _ _⟩
  case astore_n n =>
    obtain ⟨v, r, rfl, rfl⟩ := am_sa1_inv hdo
    exact ⟨_, rfl, am_le_s1 hle _ _⟩
  case astore n =>
    obtain ⟨v, r, rfl, rfl⟩ := am_sa1_inv hdo
    exact ⟨_, rfl, am_le_s1 hle _ _⟩
  case iinc i n =>
    obtain ⟨v, hv, rfl⟩ := am_inc_inv hdo
    refine ⟨_, ?_, am_le_s1 hle _ _⟩
    show am_inc lw i n pc st h = _
    unfold am_inc
    rw [hle _ _ hv]
  case iadd =>
    obtain ⟨a, y, v, r, rfl, hf, rfl⟩ := am_ii_inv (f := fun x y => some (x + y)) hdo
    have hf : some (a + y) = some v := hf
    cases hf
    exact ⟨lw, rfl, hle⟩
  case isub =>
    obtain ⟨a, y, v, r, rfl, hf, rfl⟩ := am_ii_inv (f := fun x y => some (x - y)) hdo
    have hf : some (a - y) = some v := hf
    cases hf
    exact ⟨lw, rfl, hle⟩
  case imul =>
    obtain ⟨a, y, v, r, rfl, hf, rfl⟩ := am_ii_inv (f := fun x y => some (x * y)) hdo
    have hf : some (a * y) = some v := hf
    cases hf
    exact ⟨lw, rfl, hle⟩
  case iand =>
    obtain ⟨a, y, v, r, rfl, hf, rfl⟩ := am_ii_inv (f := fun x y => some (x &&& y)) hdo
    have hf : some (a &&& y) = some v := hf
    cases hf
    exact ⟨lw, rfl, hle⟩
  case ior =>
    obtain ⟨a, y, v, r, rfl, hf, rfl⟩ := am_ii_inv (f := fun x y => some (x ||| y)) hdo
    have hf : some (a ||| y) = some v := hf
    cases hf
    exact ⟨lw, rfl, hle⟩
  case idiv =>
    obtain ⟨a, y, v, r, rfl, hf, rfl⟩ := am_ii_inv (f := fun x y => if y = 0 then none else some (x / y)) hdo
    refine ⟨lw, ?_, hle⟩
    show am_ii (fun x y => if y = 0 then none else some (x / y)) pc lw (.int y :: .int a :: r) h = _
    simp only [am_ii, hf]
  case irem =>
    obtain ⟨a, y, v, r, rfl, hf, rfl⟩ := am_ii_inv (f := fun x y => if y = 0 then none else some (x - x / y * y)) hdo
    refine ⟨lw, ?_, hle⟩
    show am_ii (fun x y => if y = 0 then none else some (x - x / y * y)) pc lw (.int y :: .int a :: r) h = _
    simp only [am_ii, hf]
  case ladd =>
    obtain ⟨a, y, r, rfl, rfl⟩ := am_ll_inv hdo
    exact ⟨lw, rfl, hle⟩
  case lmul =>
    obtain ⟨a, y, r, rfl, rfl⟩ := am_ll_inv hdo
    exact ⟨lw, rfl, hle⟩
  case land =>
    obtain ⟨a, y, r, rfl, rfl⟩ := am_ll_inv hdo
    exact ⟨lw, rfl, hle⟩
  case lor =>
    obtain ⟨a, y, r, rfl, rfl⟩ := am_ll_inv hdo
    exact ⟨lw, rfl, hle⟩
  case lcmp =>
    obtain ⟨a, y, r, rfl, rfl⟩ := am_ll_inv hdo
    exact ⟨lw, rfl, hle⟩
  case lshl =>
    obtain ⟨a, y, r, rfl, rfl⟩ := am_li_inv hdo
    exact ⟨lw, rfl, hle⟩
  case lushr =>
    obtain ⟨a, y, r, rfl, rfl⟩ := am_li_inv hdo
    exact ⟨lw, rfl, hle⟩
  case i2l =>
    obtain ⟨a, r, rfl, rfl⟩ := am_ui_inv hdo
    exact ⟨lw, rfl, hle⟩
  case i2c =>
    obtain ⟨a, r, rfl, rfl⟩ := am_ui_inv hdo
    exact ⟨lw, rfl, hle⟩
  case l2i =>
    obtain ⟨a, r, rfl, rfl⟩ := am_ul_inv hdo
    exact ⟨lw, rfl, hle⟩
  case ifCond cn off =>
    obtain ⟨a, r, rfl, rfl⟩ := am_b1_inv hdo
    exact ⟨lw, rfl, hle⟩
  case if_icmp cn off =>
    obtain ⟨a, y, r, rfl, rfl⟩ := am_b2_inv hdo
    exact ⟨lw, rfl, hle⟩
  case tableswitch a1 a2 a3 a4 =>
    obtain ⟨a, tgt, r, rfl, hf, rfl⟩ := am_sw_inv hdo
    refine ⟨lw, ?_, hle⟩
    show am_sw _ lw (.int a :: r) h = _
    simp only [am_sw, hf]
  case lookupswitch a1 a2 =>
    obtain ⟨a, tgt, r, rfl, hf, rfl⟩ := am_sw_inv hdo
    refine ⟨lw, ?_, hle⟩
    show am_sw (fun a => am_to pc (Op.lookupswitch.offset a2.toList a1 a.toInt)) lw (.int a :: r) h = _
    simp only [am_sw, hf]
  case dup =>
    obtain ⟨v, r, rfl, hc, rfl⟩ := am_dup_inv hdo
    refine ⟨lw, ?_, hle⟩
    show am_dup pc lw (v :: r) h = _
    simp [am_dup, hc]
  case pop =>
    obtain ⟨v, r, rfl, hc, rfl⟩ := am_pop_inv hdo
    refine ⟨lw, ?_, hle⟩
    show am_pop pc lw (v :: r) h = _
    simp [am_pop, hc]
  case getfield n =>
    obtain ⟨j, r, fs, v, rfl, hj, hv, rfl⟩ := am_get_inv hdo
    refine ⟨lw, ?_, hle⟩
    show am_get x.1 x.2.1 pc lw (.ref (j + 2) :: r) h = _
    simp [am_get, am_ob, hj, hv]
  case putfield n =>
    obtain ⟨j, r, fs, v, rfl, hj, hk, hf, rfl⟩ := am_put_inv hdo
    refine ⟨lw, ?_, hle⟩
    show am_put (C.2.2.1 x.1 x.2.1) x.1 x.2.1 pc lw (v :: .ref (j + 2) :: r) h = _
    simp [am_put, am_ob, hj, hk, hf]
  case iaload =>
    obtain ⟨a, r, v, h0, rfl, hc⟩ := am_ld_inv hdo
    refine ⟨lw, ?_, hle⟩
    rcases hc with ⟨rfl, ht, hv⟩ | ⟨j, l, rfl, hj, hv⟩
    · show am_ld false C.2.2.2.1 pc lw (.int a :: .ref 0 :: r) h = _
      cases hx : C.2.2.2.1 with
      | none => rw [hx] at hv; simp at hv
      | some l0 =>
        rw [hx] at hv
        have hv : l0[a.toNatClampNeg]? = some v := hv
        first
          | (simp [am_ld, h0, hv]; done)
          | cases ht
    · show am_ld false C.2.2.2.1 pc lw (.int a :: .ref (j + 2) :: r) h = _
      simp [am_ld, am_ar, hj, hv, h0]
  case caload =>
    obtain ⟨a, r, v, h0, rfl, hc⟩ := am_ld_inv hdo
    refine ⟨lw, ?_, hle⟩
    rcases hc with ⟨rfl, ht, hv⟩ | ⟨j, l, rfl, hj, hv⟩
    · show am_ld true C.2.2.2.1 pc lw (.int a :: .ref 0 :: r) h = _
      cases hx : C.2.2.2.1 with
      | none => rw [hx] at hv; simp at hv
      | some l0 =>
        rw [hx] at hv
        have hv : l0[a.toNatClampNeg]? = some v := hv
        first
          | (simp [am_ld, h0, hv]; done)
          | cases ht
    · show am_ld true C.2.2.2.1 pc lw (.int a :: .ref (j + 2) :: r) h = _
      simp [am_ld, am_ar, hj, hv, h0]
  case laload =>
    obtain ⟨a, r, v, h0, rfl, rfl, hv⟩ := am_lld_inv hdo
    refine ⟨lw, ?_, hle⟩
    show am_lld C.2.2.2.2 pc lw (.int a :: .ref 1 :: r) h = _
    simp [am_lld, h0, hv]
  case iastore =>
    obtain ⟨a, v, r, j, l, h0, rfl, hj, hi, rfl⟩ := am_sto_inv hdo
    refine ⟨lw, ?_, hle⟩
    show am_sto false pc lw (.int v :: .int a :: .ref (j + 2) :: r) h = _
    simp [am_sto, am_ar, hj, hi, h0]
  case castore =>
    obtain ⟨a, v, r, j, l, h0, rfl, hj, hi, rfl⟩ := am_sto_inv hdo
    refine ⟨lw, ?_, hle⟩
    show am_sto true pc lw (.int v :: .int a :: .ref (j + 2) :: r) h = _
    simp [am_sto, am_ar, hj, hi, h0]
  case arraylength =>
    obtain ⟨r, v, rfl, hc⟩ := am_len_inv hdo
    refine ⟨lw, ?_, hle⟩
    rcases hc with ⟨rfl, rfl⟩ | ⟨rfl, rfl⟩ | ⟨j, o, rfl, hj, rfl⟩
    · have hdo : am_len C.2.2.2.1 C.2.2.2.2 pc lv (.ref 0 :: r) h = _ := hdo
      show am_len C.2.2.2.1 C.2.2.2.2 pc lw (.ref 0 :: r) h = _
      cases hx : C.2.2.2.1 with
      | none => rw [hx] at hdo; exact absurd hdo (by simp [am_len])
      | some l0 => rfl
    · rfl
    · show am_len C.2.2.2.1 C.2.2.2.2 pc lw (.ref (j + 2) :: r) h = _
      simp [am_len, am_ar, hj]
  case invokespecial n =>
    obtain ⟨a, r, rfl, h1, h8, rfl⟩ := am_oi_inv hdo
    refine ⟨lw, ?_, hle⟩
    show am_oi d pc lw (.ref a :: r) h = _
    simp [am_oi, h1, h8]
  case invokestatic n =>
    have hdo : (bif x.1 == 1000 then am_max d pc lv st h else am_acp d pc lv st h) = some z := hdo
    show ∃ lw1 : am_V, (bif x.1 == 1000 then am_max d pc lw st h else am_acp d pc lw st h) = some (z.1, lw1, z.2.2.1, z.2.2.2) ∧ am_le z.2.1 lw1
    cases hx : (x.1 == 1000) with
    | true =>
      rw [hx, cond_true] at hdo
      obtain ⟨a, y, r, rfl, h1, h8, rfl⟩ := am_max_inv hdo
      exact ⟨lw, by simp [am_max, h1, h8], hle⟩
    | false =>
      rw [hx, cond_false] at hdo
      obtain ⟨n, dp, sp, j, k, o, q, r, rfl, hj, hk, hc, rfl⟩ := am_acp_inv hdo
      refine ⟨lw, ?_, hle⟩
      rw [cond_false]
      have e1 : am_ar h (j + 2) = some o := by simp [am_ar, hj]
      have e2 : am_ar h (k + 2) = some q := by simp [am_ar, hk]
      unfold am_acp
      simp only [e1, e2]
      show (bif am_acc d r o q sp dp n then some (pc + 3, lw, r, h.set (j + 2 - 2) (.inl (true, am_cp q.2 o.2 sp.toNatClampNeg dp.toNatClampNeg n.toNatClampNeg))) else none) = _
      rw [hc]
      rfl
  all_goals exact absurd (show (none : Option am_Z) = some z from hdo) (by simp)
theorem am_run_le {C : am_C} : ∀ (n d mi pc : Nat) (lv lw : am_V) (st : List Value) (h : List am_E) (o : Option Value × List am_E × Nat × Nat), am_le lv lw → am_run C n d mi pc lv st h = some o → am_run C n d mi pc lw st h = some o := by
  intro n
  induction n with
  | zero =>
    intro d mi pc lv lw st h o _ hrun
    cases (show (none : Option (Option Value × List am_E × Nat × Nat)) = some o from hrun)
  | succ n ih =>
    intro d mi pc lv lw st h o hle hrun
    rw [am_run] at hrun ⊢
    cases hat : am_at C mi pc with
    | none => rw [hat] at hrun; cases hrun
    | some q =>
      rw [hat] at hrun
      rcases am_kd_cases q.1 q.2.2 with hkd | hkd | hkd | hkd
      · simp only [hkd] at hrun ⊢
        cases hdo : am_do C d q.1 q.2.2 pc lv st h with
        | none => rw [hdo] at hrun; cases hrun
        | some z =>
          rw [hdo] at hrun
          obtain ⟨lw1, h1, h2⟩ := am_do_le hle hdo
          rw [h1]
          exact ih d mi _ _ _ _ _ o h2 hrun
      · simp only [hkd] at hrun ⊢
        cases hdc : am_dc C q.1 q.2.2 st h with
        | none => rw [hdc] at hrun; cases hrun
        | some z =>
          rw [hdc] at hrun
          cases d with
          | zero => cases hrun
          | succ d1 =>
            simp only at hrun ⊢
            cases hr1 : am_run C n d1 z.1 0 (lv_args 0 z.2.1) [] h with
            | none => rw [hr1] at hrun; cases hrun
            | some o1 =>
              rw [hr1] at hrun
              simp only at hrun ⊢
              cases hr2 : am_run C n (d1 + 1) mi (pc + 3) lv (o1.1.toList ++ z.2.2) o1.2.1 with
              | none => rw [hr2] at hrun; cases hrun
              | some o2 =>
                rw [hr2] at hrun
                rw [ih (d1 + 1) mi _ _ _ _ _ o2 hle hr2]
                exact hrun
      · simp only [hkd] at hrun ⊢
        cases hdn : am_dn C q.1 q.2.2 pc st with
        | none => rw [hdn] at hrun; cases hrun
        | some z =>
          rw [hdn] at hrun
          simp only at hrun ⊢
          cases hr2 : am_run C n d mi z.1 lv (.ref (h.length + 2) :: z.2.1) (h ++ [z.2.2.1]) with
          | none => rw [hr2] at hrun; cases hrun
          | some o2 =>
            rw [hr2] at hrun
            rw [ih d mi _ _ _ _ _ o2 hle hr2]
            exact hrun
      · simp only [hkd] at hrun ⊢
        exact hrun
/-- fewer locals are enough -/
theorem am_wl {C : am_C} {d mi pc : Nat} {lv lw : am_V} {st : List Value} {h : List am_E} {Q : Option Value → List am_E → Prop} (hs : am_sub lw lv) (hg : am_W C d mi pc lv st h Q) : am_W C d mi pc lw st h Q := by
  obtain ⟨r, h1, ⟨n, hn⟩, hQ⟩ := hg
  exact ⟨r, h1, ⟨n, am_run_le n d mi pc lv lw st h _ (am_sub_le hs) hn⟩, hQ⟩
