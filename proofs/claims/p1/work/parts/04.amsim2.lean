/-! What a step that went on must have seen. -/
theorem am_ii_inv {f : Int32 → Int32 → Option Int32} {pc : Nat} {lv : am_V} {st : List Value} {h : List am_E} {z : Nat × am_V × List Value × List am_E} (hdo : am_ii f pc lv st h = some z) : ∃ (x y v : Int32) (r : List Value), st = .int y :: .int x :: r ∧ f x y = some v ∧ z = (pc + 1, lv, .int v :: r, h) := by
  rcases st with _ | ⟨v0, r⟩
  · exact absurd hdo (by simp [am_ii])
  · cases v0 with
    | int y =>
      rcases r with _ | ⟨v1, r⟩
      · exact absurd hdo (by simp [am_ii])
      · cases v1 with
        | int x =>
          simp only [am_ii] at hdo
          cases hf : f x y with
          | none => rw [hf] at hdo; exact absurd hdo (by simp)
          | some v =>
            rw [hf] at hdo
            exact ⟨x, y, v, r, rfl, hf, (Option.some.inj hdo).symm⟩
        | _ => exact absurd hdo (by simp [am_ii])
    | _ => exact absurd hdo (by simp [am_ii])
theorem am_ll_inv {f : Int64 → Int64 → Value} {pc : Nat} {lv : am_V} {st : List Value} {h : List am_E} {z : Nat × am_V × List Value × List am_E} (hdo : am_ll f pc lv st h = some z) : ∃ (x y : Int64) (r : List Value), st = .long y :: .long x :: r ∧ z = (pc + 1, lv, f x y :: r, h) := by
  rcases st with _ | ⟨v0, r⟩
  · exact absurd hdo (by simp [am_ll])
  · cases v0 with
    | long y =>
      rcases r with _ | ⟨v1, r⟩
      · exact absurd hdo (by simp [am_ll])
      · cases v1 with
        | long x => exact ⟨x, y, r, rfl, (Option.some.inj hdo).symm⟩
        | _ => exact absurd hdo (by simp [am_ll])
    | _ => exact absurd hdo (by simp [am_ll])
theorem am_li_inv {f : Int64 → Int32 → Int64} {pc : Nat} {lv : am_V} {st : List Value} {h : List am_E} {z : Nat × am_V × List Value × List am_E} (hdo : am_li f pc lv st h = some z) : ∃ (x : Int64) (y : Int32) (r : List Value), st = .int y :: .long x :: r ∧ z = (pc + 1, lv, .long (f x y) :: r, h) := by
  rcases st with _ | ⟨v0, r⟩
  · exact absurd hdo (by simp [am_li])
  · cases v0 with
    | int y =>
      rcases r with _ | ⟨v1, r⟩
      · exact absurd hdo (by simp [am_li])
      · cases v1 with
        | long x => exact ⟨x, y, r, rfl, (Option.some.inj hdo).symm⟩
        | _ => exact absurd hdo (by simp [am_li])
    | _ => exact absurd hdo (by simp [am_li])
theorem am_ui_inv {f : Int32 → Value} {pc : Nat} {lv : am_V} {st : List Value} {h : List am_E} {z : Nat × am_V × List Value × List am_E} (hdo : am_ui f pc lv st h = some z) : ∃ (x : Int32) (r : List Value), st = .int x :: r ∧ z = (pc + 1, lv, f x :: r, h) := by
  rcases st with _ | ⟨v0, r⟩
  · exact absurd hdo (by simp [am_ui])
  · cases v0 with
    | int x => exact ⟨x, r, rfl, (Option.some.inj hdo).symm⟩
    | _ => exact absurd hdo (by simp [am_ui])
theorem am_ul_inv {f : Int64 → Value} {pc : Nat} {lv : am_V} {st : List Value} {h : List am_E} {z : Nat × am_V × List Value × List am_E} (hdo : am_ul f pc lv st h = some z) : ∃ (x : Int64) (r : List Value), st = .long x :: r ∧ z = (pc + 1, lv, f x :: r, h) := by
  rcases st with _ | ⟨v0, r⟩
  · exact absurd hdo (by simp [am_ul])
  · cases v0 with
    | long x => exact ⟨x, r, rfl, (Option.some.inj hdo).symm⟩
    | _ => exact absurd hdo (by simp [am_ul])
theorem am_li1_inv {lv : am_V} {i pc : Nat} {st : List Value} {h : List am_E} {z : Nat × am_V × List Value × List am_E} (hdo : am_li1 lv i pc st h = some z) : ∃ v : Int32, am_lk lv i = some (.int v) ∧ z = (pc, lv, .int v :: st, h) := by
  unfold am_li1 at hdo
  cases hv : am_lk lv i with
  | none => rw [hv] at hdo; exact absurd hdo (by simp)
  | some w =>
    rw [hv] at hdo
    cases w with
    | int v => exact ⟨v, rfl, (Option.some.inj hdo).symm⟩
    | _ => exact absurd hdo (by simp)
theorem am_ll1_inv {lv : am_V} {i pc : Nat} {st : List Value} {h : List am_E} {z : Nat × am_V × List Value × List am_E} (hdo : am_ll1 lv i pc st h = some z) : ∃ v : Int64, am_lk lv i = some (.long v) ∧ z = (pc, lv, .long v :: st, h) := by
  unfold am_ll1 at hdo
  cases hv : am_lk lv i with
  | none => rw [hv] at hdo; exact absurd hdo (by simp)
  | some w =>
    rw [hv] at hdo
    cases w with
    | long v => exact ⟨v, rfl, (Option.some.inj hdo).symm⟩
    | _ => exact absurd hdo (by simp)
theorem am_la1_inv {lv : am_V} {i pc : Nat} {st : List Value} {h : List am_E} {z : Nat × am_V × List Value × List am_E} (hdo : am_la1 lv i pc st h = some z) : ∃ v : Nat, am_lk lv i = some (.ref v) ∧ z = (pc, lv, .ref v :: st, h) := by
  unfold am_la1 at hdo
  cases hv : am_lk lv i with
  | none => rw [hv] at hdo; exact absurd hdo (by simp)
  | some w =>
    rw [hv] at hdo
    cases w with
    | ref v => exact ⟨v, rfl, (Option.some.inj hdo).symm⟩
    | _ => exact absurd hdo (by simp)
theorem am_inc_inv {lv : am_V} {i : Nat} {n : Int} {pc : Nat} {st : List Value} {h : List am_E} {z : Nat × am_V × List Value × List am_E} (hdo : am_inc lv i n pc st h = some z) : ∃ v : Int32, am_lk lv i = some (.int v) ∧ z = (pc + 3, am_s1 lv i (.int (v + Int32.ofInt n)), st, h) := by
  unfold am_inc at hdo
  cases hv : am_lk lv i with
  | none => rw [hv] at hdo; exact absurd hdo (by simp)
  | some w =>
    rw [hv] at hdo
    cases w with
    | int v => exact ⟨v, rfl, (Option.some.inj hdo).symm⟩
    | _ => exact absurd hdo (by simp)
theorem am_si1_inv {lv : am_V} {i pc : Nat} {st : List Value} {h : List am_E} {z : Nat × am_V × List Value × List am_E} (hdo : am_si1 lv i pc st h = some z) : ∃ (v : Int32) (r : List Value), st = .int v :: r ∧ z = (pc, am_s1 lv i (.int v), r, h) := by
  rcases st with _ | ⟨v0, r⟩
  · exact absurd hdo (by simp [am_si1])
  · cases v0 with
    | int x => exact ⟨x, r, rfl, (Option.some.inj hdo).symm⟩
    | _ => exact absurd hdo (by simp [am_si1])
theorem am_sl1_inv {lv : am_V} {i pc : Nat} {st : List Value} {h : List am_E} {z : Nat × am_V × List Value × List am_E} (hdo : am_sl1 lv i pc st h = some z) : ∃ (v : Int64) (r : List Value), st = .long v :: r ∧ z = (pc, am_s2 lv i (.long v), r, h) := by
  rcases st with _ | ⟨v0, r⟩
  · exact absurd hdo (by simp [am_sl1])
  · cases v0 with
    | long x => exact ⟨x, r, rfl, (Option.some.inj hdo).symm⟩
    | _ => exact absurd hdo (by simp [am_sl1])
theorem am_sa1_inv {lv : am_V} {i pc : Nat} {st : List Value} {h : List am_E} {z : Nat × am_V × List Value × List am_E} (hdo : am_sa1 lv i pc st h = some z) : ∃ (v : Nat) (r : List Value), st = .ref v :: r ∧ z = (pc, am_s1 lv i (.ref v), r, h) := by
  rcases st with _ | ⟨v0, r⟩
  · exact absurd hdo (by simp [am_sa1])
  · cases v0 with
    | ref x => exact ⟨x, r, rfl, (Option.some.inj hdo).symm⟩
    | _ => exact absurd hdo (by simp [am_sa1])
theorem am_b1_inv {c : ClassFile.Cond} {tgt pc : Nat} {lv : am_V} {st : List Value} {h : List am_E} {z : Nat × am_V × List Value × List am_E} (hdo : am_b1 c tgt pc lv st h = some z) : ∃ (x : Int32) (r : List Value), st = .int x :: r ∧ z = (bif am_if c x 0 then tgt else pc + 3, lv, r, h) := by
  rcases st with _ | ⟨v0, r⟩
  · exact absurd hdo (by simp [am_b1])
  · cases v0 with
    | int x => exact ⟨x, r, rfl, (Option.some.inj hdo).symm⟩
    | _ => exact absurd hdo (by simp [am_b1])
theorem am_b2_inv {c : ClassFile.Cond} {tgt pc : Nat} {lv : am_V} {st : List Value} {h : List am_E} {z : Nat × am_V × List Value × List am_E} (hdo : am_b2 c tgt pc lv st h = some z) : ∃ (x y : Int32) (r : List Value), st = .int y :: .int x :: r ∧ z = (bif am_if c x y then tgt else pc + 3, lv, r, h) := by
  rcases st with _ | ⟨v0, r⟩
  · exact absurd hdo (by simp [am_b2])
  · cases v0 with
    | int y =>
      rcases r with _ | ⟨v1, r⟩
      · exact absurd hdo (by simp [am_b2])
      · cases v1 with
        | int x => exact ⟨x, y, r, rfl, (Option.some.inj hdo).symm⟩
        | _ => exact absurd hdo (by simp [am_b2])
    | _ => exact absurd hdo (by simp [am_b2])
theorem am_sw_inv {f : Int32 → Option Nat} {lv : am_V} {st : List Value} {h : List am_E} {z : Nat × am_V × List Value × List am_E} (hdo : am_sw f lv st h = some z) : ∃ (x : Int32) (tgt : Nat) (r : List Value), st = .int x :: r ∧ f x = some tgt ∧ z = (tgt, lv, r, h) := by
  rcases st with _ | ⟨v0, r⟩
  · exact absurd hdo (by simp [am_sw])
  · cases v0 with
    | int x =>
      simp only [am_sw] at hdo
      cases hf : f x with
      | none => rw [hf] at hdo; exact absurd hdo (by simp)
      | some v =>
        rw [hf] at hdo
        exact ⟨x, v, r, rfl, hf, (Option.some.inj hdo).symm⟩
    | _ => exact absurd hdo (by simp [am_sw])
theorem am_dup_inv {pc : Nat} {lv : am_V} {st : List Value} {h : List am_E} {z : Nat × am_V × List Value × List am_E} (hdo : am_dup pc lv st h = some z) : ∃ (v : Value) (r : List Value), st = v :: r ∧ v.category = 1 ∧ z = (pc + 1, lv, v :: v :: r, h) := by
  rcases st with _ | ⟨v, r⟩
  · exact absurd hdo (by simp [am_dup])
  · simp only [am_dup] at hdo
    cases hc : (v.category == 1) with
    | false => rw [hc] at hdo; exact absurd hdo (by simp)
    | true =>
      rw [hc] at hdo
      exact ⟨v, r, rfl, eq_of_beq hc, (Option.some.inj hdo).symm⟩
theorem am_pop_inv {pc : Nat} {lv : am_V} {st : List Value} {h : List am_E} {z : Nat × am_V × List Value × List am_E} (hdo : am_pop pc lv st h = some z) : ∃ (v : Value) (r : List Value), st = v :: r ∧ v.category = 1 ∧ z = (pc + 1, lv, r, h) := by
  rcases st with _ | ⟨v, r⟩
  · exact absurd hdo (by simp [am_pop])
  · simp only [am_pop] at hdo
    cases hc : (v.category == 1) with
    | false => rw [hc] at hdo; exact absurd hdo (by simp)
    | true =>
      rw [hc] at hdo
      exact ⟨v, r, rfl, eq_of_beq hc, (Option.some.inj hdo).symm⟩
theorem am_get_inv {ci k pc : Nat} {lv : am_V} {st : List Value} {h : List am_E} {z : Nat × am_V × List Value × List am_E} (hdo : am_get ci k pc lv st h = some z) : ∃ (j : Nat) (r fs : List Value) (v : Value), st = .ref (j + 2) :: r ∧ h[j]? = some (.inr (ci, fs)) ∧ fs[k]? = some v ∧ z = (pc + 3, lv, v :: r, h) := by
  rcases st with _ | ⟨v0, r⟩
  · exact absurd hdo (by simp [am_get])
  · cases v0 with
    | ref a =>
      simp only [am_get] at hdo
      cases ho : am_ob h a with
      | none => rw [ho] at hdo; exact absurd hdo (by simp)
      | some o =>
        obtain ⟨j, rfl, hj⟩ := am_ob_at ho
        rw [ho] at hdo
        cases hc : (o.1 == ci) with
        | false => exact absurd hdo (by simp [hc])
        | true =>
          cases hv : o.2[k]? with
          | none => exact absurd hdo (by simp [hc, hv])
          | some v =>
            have hd2 : (some (pc + 3, lv, v :: r, h) : Option am_Z) = some z := by simpa only [hc, hv, cond_true] using hdo
            have e := eq_of_beq hc
            subst e
            exact ⟨j, r, o.2, v, rfl, hj, hv, (Option.some.inj hd2).symm⟩
    | _ => exact absurd hdo (by simp [am_get])
theorem am_put_inv {ty : FieldType} {ci k pc : Nat} {lv : am_V} {st : List Value} {h : List am_E} {z : Nat × am_V × List Value × List am_E} (hdo : am_put ty ci k pc lv st h = some z) : ∃ (j : Nat) (r fs : List Value) (v : Value), st = v :: .ref (j + 2) :: r ∧ h[j]? = some (.inr (ci, fs)) ∧ k < fs.length ∧ am_fi ty v = true ∧ z = (pc + 3, lv, r, h.set j (.inr (ci, fs.set k v))) := by
  rcases st with _ | ⟨v, r⟩
  · exact absurd hdo (by simp [am_put])
  · rcases r with _ | ⟨v0, r⟩
    · exact absurd hdo (by simp [am_put])
    · cases v0 with
      | ref a =>
        simp only [am_put] at hdo
        cases ho : am_ob h a with
        | none => rw [ho] at hdo; exact absurd hdo (by simp)
        | some o =>
          obtain ⟨j, rfl, hj⟩ := am_ob_at ho
          rw [ho] at hdo
          cases hc : (o.1 == ci && (decide (k < o.2.length) && am_fi ty v)) with
          | false =>
            have hdo : (bif (o.1 == ci && (decide (k < o.2.length) && am_fi ty v)) then (some (pc + 3, lv, r, h.set (j + 2 - 2) (.inr (ci, o.2.set k v))) : Option am_Z) else none) = some z := hdo
            rw [hc] at hdo
            exact absurd hdo (by simp)
          | true =>
            have hdo : (bif (o.1 == ci && (decide (k < o.2.length) && am_fi ty v)) then (some (pc + 3, lv, r, h.set (j + 2 - 2) (.inr (ci, o.2.set k v))) : Option am_Z) else none) = some z := hdo
            rw [hc] at hdo
            rw [Bool.and_eq_true, Bool.and_eq_true, decide_eq_true_eq] at hc
            have e := eq_of_beq hc.1
            subst e
            exact ⟨j, r, o.2, v, rfl, hj, hc.2.1, hc.2.2, (Option.some.inj hdo).symm⟩
      | _ => exact absurd hdo (by simp [am_put])
theorem am_ld_inv {tg : Bool} {xs : Option (List Int32)} {pc : Nat} {lv : am_V} {st : List Value} {h : List am_E} {z : Nat × am_V × List Value × List am_E} (hdo : am_ld tg xs pc lv st h = some z) : ∃ (i : Int32) (r : List Value) (v : Int32), ¬ i < 0 ∧ z = (pc + 1, lv, .int v :: r, h) ∧ ((st = .int i :: .ref 0 :: r ∧ tg = false ∧ (xs.getD [])[i.toNatClampNeg]? = some v) ∨ ∃ (j : Nat) (a : List Int32), st = .int i :: .ref (j + 2) :: r ∧ h[j]? = some (.inl (tg, a)) ∧ a[i.toNatClampNeg]? = some v) := by
  rcases st with _ | ⟨v0, r⟩
  · exact absurd hdo (by simp [am_ld])
  · cases v0 with
    | int i =>
      rcases r with _ | ⟨v1, r⟩
      · exact absurd hdo (by simp [am_ld])
      · cases v1 with
        | ref a =>
          cases hi : decide (i < 0) with
          | true => exact absurd hdo (by simp [am_ld, of_decide_eq_true hi])
          | false =>
            have hi' : ¬ i < 0 := of_decide_eq_false hi
            match a, hdo with
            | 0, hdo =>
              cases tg with
              | true => exact absurd hdo (by simp [am_ld])
              | false =>
                cases xs with
                | none => exact absurd hdo (by simp [am_ld])
                | some l0 =>
                  cases hv : l0[i.toNatClampNeg]? with
                  | none => exact absurd hdo (by simp [am_ld, hv])
                  | some v =>
                    have hdo : (some (pc + 1, lv, Value.int v :: r, h) : Option am_Z) = some z := by simpa [am_ld, hv, hi'] using hdo
                    exact ⟨i, r, v, hi', (Option.some.inj hdo).symm, Or.inl ⟨rfl, rfl, hv⟩⟩
            | 1, hdo => exact absurd hdo (by simp [am_ld, am_ar])
            | j + 2, hdo =>
              cases ho : am_ar h (j + 2) with
              | none => exact absurd hdo (by simp [am_ld, ho])
              | some o =>
                obtain ⟨j', e', hj⟩ := am_ar_at ho
                obtain rfl : j = j' := Nat.add_right_cancel e'
                cases hc : (o.1 == tg) with
                | false => exact absurd hdo (by simp [am_ld, ho, hc])
                | true =>
                  cases hv : o.2[i.toNatClampNeg]? with
                  | none => exact absurd hdo (by simp [am_ld, ho, hc, hv])
                  | some v =>
                    have hd2 : (some (pc + 1, lv, Value.int v :: r, h) : Option am_Z) = some z := by simpa [am_ld, ho, hc, hv, hi'] using hdo
                    have e := eq_of_beq hc
                    subst e
                    exact ⟨i, r, v, hi', (Option.some.inj hd2).symm, Or.inr ⟨j, o.2, rfl, hj, hv⟩⟩
        | _ => exact absurd hdo (by simp [am_ld])
    | _ => exact absurd hdo (by simp [am_ld])
theorem am_lld_inv {wd : List Int64} {pc : Nat} {lv : am_V} {st : List Value} {h : List am_E} {z : Nat × am_V × List Value × List am_E} (hdo : am_lld wd pc lv st h = some z) : ∃ (i : Int32) (r : List Value) (v : Int64), ¬ i < 0 ∧ z = (pc + 1, lv, .long v :: r, h) ∧ st = .int i :: .ref 1 :: r ∧ wd[i.toNatClampNeg]? = some v := by
  rcases st with _ | ⟨v0, r⟩
  · exact absurd hdo (by simp [am_lld])
  · cases v0 with
    | int i =>
      rcases r with _ | ⟨v1, r⟩
      · exact absurd hdo (by simp [am_lld])
      · cases v1 with
        | ref a =>
          cases hi : decide (i < 0) with
          | true =>
            match a, hdo with
            | 0, hdo => exact absurd hdo (by simp [am_lld])
            | 1, hdo => exact absurd hdo (by simp [am_lld, of_decide_eq_true hi])
            | j + 2, hdo => exact absurd hdo (by simp [am_lld])
          | false =>
            have hi' : ¬ i < 0 := of_decide_eq_false hi
            match a, hdo with
            | 0, hdo => exact absurd hdo (by simp [am_lld])
            | 1, hdo =>
              cases hv : wd[i.toNatClampNeg]? with
              | none => exact absurd hdo (by simp [am_lld, hv])
              | some v =>
                have hdo : (some (pc + 1, lv, Value.long v :: r, h) : Option am_Z) = some z := by simpa [am_lld, hv, hi'] using hdo
                exact ⟨i, r, v, hi', (Option.some.inj hdo).symm, rfl, hv⟩
            | j + 2, hdo => exact absurd hdo (by simp [am_lld])
        | _ => exact absurd hdo (by simp [am_lld])
    | _ => exact absurd hdo (by simp [am_lld])
theorem am_sto_inv {tg : Bool} {pc : Nat} {lv : am_V} {st : List Value} {h : List am_E} {z : Nat × am_V × List Value × List am_E} (hdo : am_sto tg pc lv st h = some z) : ∃ (i v : Int32) (r : List Value) (j : Nat) (a : List Int32), ¬ i < 0 ∧ st = .int v :: .int i :: .ref (j + 2) :: r ∧ h[j]? = some (.inl (tg, a)) ∧ i.toNatClampNeg < a.length ∧ z = (pc + 1, lv, r, h.set j (.inl (tg, a.set i.toNatClampNeg (bif tg then vp_nar .char v else v)))) := by
  rcases st with _ | ⟨v0, r⟩
  · exact absurd hdo (by simp [am_sto])
  · cases v0 with
    | int v =>
      rcases r with _ | ⟨v1, r⟩
      · exact absurd hdo (by simp [am_sto])
      · cases v1 with
        | int i =>
          rcases r with _ | ⟨v2, r⟩
          · exact absurd hdo (by simp [am_sto])
          · cases v2 with
            | ref a =>
              simp only [am_sto] at hdo
              cases ho : am_ar h a with
              | none => rw [ho] at hdo; exact absurd hdo (by simp)
              | some o =>
                obtain ⟨j, rfl, hj⟩ := am_ar_at ho
                rw [ho] at hdo
                have hdo : (bif o.1 == tg && (!decide (i < 0) && decide (i.toNatClampNeg < o.2.length)) then (some (pc + 1, lv, r, h.set (j + 2 - 2) (.inl (tg, o.2.set i.toNatClampNeg (bif tg then vp_nar .char v else v)))) : Option am_Z) else none) = some z := hdo
                cases hc : (o.1 == tg && (!decide (i < 0) && decide (i.toNatClampNeg < o.2.length))) with
                | false => rw [hc] at hdo; exact absurd hdo (by simp)
                | true =>
                  rw [hc] at hdo
                  rw [Bool.and_eq_true, Bool.and_eq_true, decide_eq_true_eq, Bool.not_eq_true', decide_eq_false_iff_not] at hc
                  have e := eq_of_beq hc.1
                  subst e
                  exact ⟨i, v, r, j, o.2, hc.2.1, rfl, hj, hc.2.2, (Option.some.inj hdo).symm⟩
            | _ => exact absurd hdo (by simp [am_sto])
        | _ => exact absurd hdo (by simp [am_sto])
    | _ => exact absurd hdo (by simp [am_sto])
theorem am_len_inv {xs : Option (List Int32)} {wd : List Int64} {pc : Nat} {lv : am_V} {st : List Value} {h : List am_E} {z : Nat × am_V × List Value × List am_E} (hdo : am_len xs wd pc lv st h = some z) : ∃ (r : List Value) (v : Int32), z = (pc + 1, lv, .int v :: r, h) ∧ ((st = .ref 0 :: r ∧ v = Int32.ofNat (xs.getD []).length) ∨ (st = .ref 1 :: r ∧ v = Int32.ofNat wd.length) ∨ ∃ (j : Nat) (o : Bool × List Int32), st = .ref (j + 2) :: r ∧ h[j]? = some (.inl o) ∧ v = Int32.ofNat o.2.length) := by
  rcases st with _ | ⟨v0, r⟩
  · exact absurd hdo (by simp [am_len])
  · cases v0 with
    | ref a =>
      match a, hdo with
      | 0, hdo =>
        cases xs with
        | none => exact absurd hdo (by simp [am_len])
        | some l0 => exact ⟨r, _, (Option.some.inj hdo).symm, Or.inl ⟨rfl, rfl⟩⟩
      | 1, hdo => exact ⟨r, _, (Option.some.inj hdo).symm, Or.inr (Or.inl ⟨rfl, rfl⟩)⟩
      | j + 2, hdo =>
        cases ho : am_ar h (j + 2) with
        | none => exact absurd hdo (by simp [am_len, ho])
        | some o =>
          obtain ⟨j', e', hj⟩ := am_ar_at ho
          obtain rfl : j = j' := Nat.add_right_cancel e'
          have hdo : (some (pc + 1, lv, Value.int (Int32.ofNat o.2.length) :: r, h) : Option am_Z) = some z := by simpa [am_len, ho] using hdo
          exact ⟨r, _, (Option.some.inj hdo).symm, Or.inr (Or.inr ⟨j, o, rfl, hj, rfl⟩)⟩
    | _ => exact absurd hdo (by simp [am_len])
theorem am_max_inv {d pc : Nat} {lv : am_V} {st : List Value} {h : List am_E} {z : Nat × am_V × List Value × List am_E} (hdo : am_max d pc lv st h = some z) : ∃ (x y : Int32) (r : List Value), st = .int y :: .int x :: r ∧ 1 ≤ d ∧ am_ca r ≤ 8 ∧ z = (pc + 3, lv, .int (if x < y then y else x) :: r, h) := by
  rcases st with _ | ⟨v0, r⟩
  · exact absurd hdo (by simp [am_max])
  · cases v0 with
    | int y =>
      rcases r with _ | ⟨v1, r⟩
      · exact absurd hdo (by simp [am_max])
      · cases v1 with
        | int x =>
          simp only [am_max] at hdo
          cases hc : (decide (1 ≤ d) && decide (am_ca r ≤ 8)) with
          | false => rw [hc] at hdo; exact absurd hdo (by simp)
          | true =>
            rw [hc] at hdo
            rw [Bool.and_eq_true, decide_eq_true_eq, decide_eq_true_eq] at hc
            exact ⟨x, y, r, rfl, hc.1, hc.2, (Option.some.inj hdo).symm⟩
        | _ => exact absurd hdo (by simp [am_max])
    | _ => exact absurd hdo (by simp [am_max])
theorem am_oi_inv {d pc : Nat} {lv : am_V} {st : List Value} {h : List am_E} {z : Nat × am_V × List Value × List am_E} (hdo : am_oi d pc lv st h = some z) : ∃ (a : Nat) (r : List Value), st = .ref a :: r ∧ 1 ≤ d ∧ am_ca r ≤ 8 ∧ z = (pc + 3, lv, r, h) := by
  rcases st with _ | ⟨v0, r⟩
  · exact absurd hdo (by simp [am_oi])
  · cases v0 with
    | ref a =>
      simp only [am_oi] at hdo
      cases hc : (decide (1 ≤ d) && decide (am_ca r ≤ 8)) with
      | false => rw [hc] at hdo; exact absurd hdo (by simp)
      | true =>
        rw [hc] at hdo
        rw [Bool.and_eq_true, decide_eq_true_eq, decide_eq_true_eq] at hc
        exact ⟨a, r, rfl, hc.1, hc.2, (Option.some.inj hdo).symm⟩
    | _ => exact absurd hdo (by simp [am_oi])
def am_acc (d : Nat) (r : List Value) (o q : Bool × List Int32) (sp dp n : Int32) : Bool := (o.1 && q.1) && ((decide (1 ≤ d) && decide (am_ca r ≤ 8)) && ((!decide (sp < 0) && (!decide (dp < 0) && !decide (n < 0))) && ((decide (sp.toNatClampNeg + n.toNatClampNeg ≤ q.2.length) && decide (dp.toNatClampNeg + n.toNatClampNeg ≤ o.2.length)) && ((q.2.drop sp.toNatClampNeg).take n.toNatClampNeg).all (fun z => fits .char (.int z)))))
theorem am_acp_inv {d pc : Nat} {lv : am_V} {st : List Value} {h : List am_E} {z : Nat × am_V × List Value × List am_E} (hdo : am_acp d pc lv st h = some z) : ∃ (n dp sp : Int32) (j k : Nat) (o q : Bool × List Int32) (r : List Value), st = .int n :: .int dp :: .ref (j + 2) :: .int sp :: .ref (k + 2) :: r ∧ h[j]? = some (.inl o) ∧ h[k]? = some (.inl q) ∧ am_acc d r o q sp dp n = true ∧ z = (pc + 3, lv, r, h.set j (.inl (true, am_cp q.2 o.2 sp.toNatClampNeg dp.toNatClampNeg n.toNatClampNeg))) := by
  rcases st with _ | ⟨v0, r⟩
  · exact absurd hdo (by simp [am_acp])
  cases v0 with
  | int n =>
    rcases r with _ | ⟨v1, r⟩
    · exact absurd hdo (by simp [am_acp])
    cases v1 with
    | int dp =>
      rcases r with _ | ⟨v2, r⟩
      · exact absurd hdo (by simp [am_acp])
      cases v2 with
      | ref a =>
        rcases r with _ | ⟨v3, r⟩
        · exact absurd hdo (by simp [am_acp])
        cases v3 with
        | int sp =>
          rcases r with _ | ⟨v4, r⟩
          · exact absurd hdo (by simp [am_acp])
          cases v4 with
          | ref bb =>
            simp only [am_acp] at hdo
            cases ho : am_ar h a with
            | none => rw [ho] at hdo; exact absurd hdo (by simp)
            | some o =>
              cases hq : am_ar h bb with
              | none => rw [ho, hq] at hdo; exact absurd hdo (by simp)
              | some q =>
                rw [ho, hq] at hdo
                obtain ⟨j, rfl, hj⟩ := am_ar_at ho
                obtain ⟨k, rfl, hk⟩ := am_ar_at hq
                have hdo : (bif am_acc d r o q sp dp n then (some (pc + 3, lv, r, h.set (j + 2 - 2) (.inl (true, am_cp q.2 o.2 sp.toNatClampNeg dp.toNatClampNeg n.toNatClampNeg))) : Option am_Z) else none) = some z := hdo
                cases hc : am_acc d r o q sp dp n with
                | false => rw [hc] at hdo; exact absurd hdo (by simp)
                | true =>
                  rw [hc] at hdo
                  exact ⟨n, dp, sp, j, k, o, q, r, rfl, hj, hk, hc, (Option.some.inj hdo).symm⟩
          | _ => exact absurd hdo (by simp [am_acp])
        | _ => exact absurd hdo (by simp [am_acp])
      | _ => exact absurd hdo (by simp [am_acp])
    | _ => exact absurd hdo (by simp [am_acp])
  | _ => exact absurd hdo (by simp [am_acp])
theorem am_cal_inv {C : am_C} {cal : Nat} {vs rest : List Value} {z : Nat × List Value × List Value} (hdo : am_cal C cal vs rest = some z) : ∃ N : am_M, C.1[cal]? = some N ∧ (lg_sl vs).length ≤ N.2.2.1 ∧ am_ca rest ≤ 8 ∧ z = (cal, vs, rest) := by
  unfold am_cal at hdo
  cases hN : C.1[cal]? with
  | none => rw [hN] at hdo; exact absurd hdo (by simp)
  | some N =>
    rw [hN] at hdo
    have hdo : (bif decide ((lg_sl vs).length ≤ N.2.2.1) && decide (am_ca rest ≤ 8) then some (cal, vs, rest) else none) = some z := hdo
    cases hc : (decide ((lg_sl vs).length ≤ N.2.2.1) && decide (am_ca rest ≤ 8)) with
    | false => rw [hc] at hdo; exact absurd hdo (by simp)
    | true =>
      rw [hc] at hdo
      rw [Bool.and_eq_true, decide_eq_true_eq, decide_eq_true_eq] at hc
      exact ⟨N, rfl, hc.1, hc.2, (Option.some.inj hdo).symm⟩
theorem am_cv_inv {C : am_C} {cal n ci : Nat} {st : List Value} {h : List am_E} {z : Nat × List Value × List Value} (hdo : am_cv C cal n ci st h = some z) : ∃ (j : Nat) (fs r : List Value) (N : am_M), st = (st.take n) ++ .ref (j + 2) :: r ∧ (st.take n).length = n ∧ h[j]? = some (.inr (ci, fs)) ∧ C.1[cal]? = some N ∧ (lg_sl (.ref (j + 2) :: (st.take n).reverse)).length ≤ N.2.2.1 ∧ am_ca r ≤ 8 ∧ z = (cal, .ref (j + 2) :: (st.take n).reverse, r) := by
  unfold am_cv at hdo
  cases hd : st.drop n with
  | nil => rw [hd] at hdo; exact absurd hdo (by simp)
  | cons v r =>
    rw [hd] at hdo
    have hlen : (st.take n).length = n := by
      have h1 : 0 < (st.drop n).length := by rw [hd]; exact Nat.zero_lt_succ _
      rw [List.length_drop] at h1
      rw [List.length_take]
      omega
    have hst : st = st.take n ++ (v :: r) := by rw [← hd]; exact (List.take_append_drop n st).symm
    cases v with
    | ref a =>
      simp only at hdo
      cases ho : am_ob h a with
      | none => rw [ho] at hdo; exact absurd hdo (by simp)
      | some o =>
        obtain ⟨j, rfl, hj⟩ := am_ob_at ho
        rw [ho] at hdo
        have hd2 : (bif o.1 == ci then am_cal C cal (.ref (j + 2) :: (st.take n).reverse) r else none) = some z := hdo
        cases hc : (o.1 == ci) with
        | false => rw [hc] at hd2; exact absurd hd2 (by simp)
        | true =>
          rw [hc, cond_true] at hd2
          have e := eq_of_beq hc
          subst e
          obtain ⟨N, h1, h2, h3, h4⟩ := am_cal_inv hd2
          exact ⟨j, o.2, r, N, hst, hlen, hj, h1, h2, h3, h4⟩
    | _ => exact absurd hdo (by simp)
theorem am_ci_inv {C : am_C} {cal n : Nat} {st : List Value} {z : Nat × List Value × List Value} (hdo : am_ci C cal n st = some z) : ∃ (a : Nat) (r : List Value) (N : am_M), st = (st.take n) ++ .ref a :: r ∧ (st.take n).length = n ∧ C.1[cal]? = some N ∧ (lg_sl (.ref a :: (st.take n).reverse)).length ≤ N.2.2.1 ∧ am_ca r ≤ 8 ∧ z = (cal, .ref a :: (st.take n).reverse, r) := by
  unfold am_ci at hdo
  cases hd : st.drop n with
  | nil => rw [hd] at hdo; exact absurd hdo (by simp)
  | cons v r =>
    rw [hd] at hdo
    have hlen : (st.take n).length = n := by
      have h1 : 0 < (st.drop n).length := by rw [hd]; exact Nat.zero_lt_succ _
      rw [List.length_drop] at h1
      rw [List.length_take]
      omega
    have hst : st = st.take n ++ (v :: r) := by rw [← hd]; exact (List.take_append_drop n st).symm
    cases v with
    | ref a =>
      obtain ⟨N, h1, h2, h3, h4⟩ := am_cal_inv hdo
      exact ⟨a, r, N, hst, hlen, h1, h2, h3, h4⟩
    | _ => exact absurd hdo (by simp)
theorem am_cs_inv {C : am_C} {cal n : Nat} {st : List Value} {z : Nat × List Value × List Value} (hdo : am_cs C cal n st = some z) : ∃ N : am_M, (st.take n).length = n ∧ C.1[cal]? = some N ∧ (lg_sl (st.take n).reverse).length ≤ N.2.2.1 ∧ am_ca (st.drop n) ≤ 8 ∧ z = (cal, (st.take n).reverse, st.drop n) := by
  unfold am_cs at hdo
  cases hc : decide (n ≤ st.length) with
  | false => rw [hc] at hdo; exact absurd hdo (by simp)
  | true =>
    rw [hc, cond_true] at hdo
    obtain ⟨N, h1, h2, h3, h4⟩ := am_cal_inv hdo
    exact ⟨N, by rw [List.length_take]; have := of_decide_eq_true hc; omega, h1, h2, h3, h4⟩
theorem am_na_inv {ty : ArrayType} {pc : Nat} {st : List Value} {z : Nat × List Value × am_E × Nat} (hdo : am_na ty pc st = some z) : ∃ (n : Int32) (r : List Value) (tg : Bool), st = .int n :: r ∧ ¬ n < 0 ∧ n.toNatClampNeg ≤ 100000 ∧ ((ty = .int ∧ tg = false) ∨ (ty = .char ∧ tg = true)) ∧ z = (pc + 2, r, .inl (tg, List.replicate n.toNatClampNeg 0), n.toNatClampNeg) := by
  rcases st with _ | ⟨v0, r⟩
  · exact absurd hdo (by simp [am_na])
  · cases v0 with
    | int n =>
      simp only [am_na] at hdo
      cases hc : (!decide (n < 0) && decide (n.toNatClampNeg ≤ 100000)) with
      | false => rw [hc] at hdo; exact absurd hdo (by simp)
      | true =>
        rw [hc, cond_true] at hdo
        rw [Bool.and_eq_true, decide_eq_true_eq, Bool.not_eq_true', decide_eq_false_iff_not] at hc
        cases ty with
        | int => exact ⟨n, r, false, rfl, hc.1, hc.2, Or.inl ⟨rfl, rfl⟩, (Option.some.inj hdo).symm⟩
        | char => exact ⟨n, r, true, rfl, hc.1, hc.2, Or.inr ⟨rfl, rfl⟩, (Option.some.inj hdo).symm⟩
        | _ => exact absurd hdo (by simp)
    | _ => exact absurd hdo (by simp [am_na])
