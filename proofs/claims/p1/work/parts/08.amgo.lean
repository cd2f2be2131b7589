/-! Runs of the abstract machine put together; more fuel, and the script laid beside, change nothing. -/
theorem am_ld_mono {tg : Bool} {xs : Option (List Int32)} {pc : Nat} {lv : am_V} {st : List Value} {h : List am_E} {z : am_Z} (hdo : am_ld tg none pc lv st h = some z) : am_ld tg xs pc lv st h = some z := by
  obtain ⟨i, r, v, h0, rfl, hc⟩ := am_ld_inv hdo
  rcases hc with ⟨rfl, rfl, hv⟩ | ⟨j, a, rfl, hj, hv⟩
  · simp at hv
  · simp [am_ld, am_ar, hj, hv, h0]
theorem am_len_mono {xs : Option (List Int32)} {wd : List Int64} {pc : Nat} {lv : am_V} {st : List Value} {h : List am_E} {z : am_Z} (hdo : am_len none wd pc lv st h = some z) : am_len xs wd pc lv st h = some z := by
  rcases st with _ | ⟨v0, r⟩
  · exact absurd hdo (by simp [am_len])
  · cases v0 with
    | ref a =>
      match a, hdo with
      | 0, hdo => exact absurd hdo (by simp [am_len])
      | 1, hdo => exact hdo
      | j + 2, hdo => exact hdo
    | _ => exact absurd hdo (by simp [am_len])
theorem am_do_mono {P : List am_M} {cl : List vw_C} {ty : Nat → Nat → FieldType} {xs ys : Option (List Int32)} {wd : List Int64} (hxs : xs = none ∨ xs = ys) {d : Nat} {i : Instr} {x : am_X} {pc : Nat} {lv : am_V} {st : List Value} {h : List am_E} {z : am_Z} (hdo : am_do (P, cl, ty, xs, wd) d i x pc lv st h = some z) : am_do (P, cl, ty, ys, wd) d i x pc lv st h = some z := by
  rcases hxs with rfl | rfl
  · cases i
    case iaload => exact am_ld_mono hdo
    case caload => exact am_ld_mono hdo
    case arraylength => exact am_len_mono hdo
    all_goals exact hdo
  · exact hdo
theorem am_mono {P : List am_M} {cl : List vw_C} {ty : Nat → Nat → FieldType} {xs ys : Option (List Int32)} {wd : List Int64} (hxs : xs = none ∨ xs = ys) : ∀ n n' : Nat, n ≤ n' → ∀ (d mi pc : Nat) (lv : am_V) (st : List Value) (h : List am_E) (o : Option Value × List am_E × Nat × Nat), am_run (P, cl, ty, xs, wd) n d mi pc lv st h = some o → am_run (P, cl, ty, ys, wd) n' d mi pc lv st h = some o := by
  intro n
  induction n with
  | zero =>
    intro n' _ d mi pc lv st h o hrun
    cases (show (none : Option (Option Value × List am_E × Nat × Nat)) = some o from hrun)
  | succ n ih =>
    intro n' hn d mi pc lv st h o hrun
    obtain ⟨k, rfl⟩ : ∃ k, n' = k + 1 := ⟨n' - 1, by omega⟩
    have hk : n ≤ k := by omega
    rw [am_run] at hrun ⊢
    have e1 : am_at (P, cl, ty, ys, wd) mi pc = am_at (P, cl, ty, xs, wd) mi pc := rfl
    rw [e1]
    cases hat : am_at (P, cl, ty, xs, wd) mi pc with
    | none => rw [hat] at hrun; cases hrun
    | some q =>
      rw [hat] at hrun
      rcases am_kd_cases q.1 q.2.2 with hkd | hkd | hkd | hkd
      · simp only [hkd] at hrun ⊢
        cases hdo : am_do (P, cl, ty, xs, wd) d q.1 q.2.2 pc lv st h with
        | none => rw [hdo] at hrun; cases hrun
        | some z =>
          rw [hdo] at hrun
          rw [am_do_mono hxs hdo]
          exact ih k hk d mi _ _ _ _ o hrun
      · simp only [hkd] at hrun ⊢
        have e2 : am_dc (P, cl, ty, ys, wd) q.1 q.2.2 st h = am_dc (P, cl, ty, xs, wd) q.1 q.2.2 st h := rfl
        rw [e2]
        cases hdc : am_dc (P, cl, ty, xs, wd) q.1 q.2.2 st h with
        | none => rw [hdc] at hrun; cases hrun
        | some z =>
          rw [hdc] at hrun
          cases d with
          | zero => cases hrun
          | succ d1 =>
            simp only at hrun ⊢
            cases hr1 : am_run (P, cl, ty, xs, wd) n d1 z.1 0 (lv_args 0 z.2.1) [] h with
            | none => rw [hr1] at hrun; cases hrun
            | some o1 =>
              rw [hr1] at hrun
              rw [ih k hk d1 _ _ _ _ _ o1 hr1]
              simp only at hrun ⊢
              cases hr2 : am_run (P, cl, ty, xs, wd) n (d1 + 1) mi (pc + 3) lv (o1.1.toList ++ z.2.2) o1.2.1 with
              | none => rw [hr2] at hrun; cases hrun
              | some o2 =>
                rw [hr2] at hrun
                rw [ih k hk (d1 + 1) _ _ _ _ _ o2 hr2]
                exact hrun
      · simp only [hkd] at hrun ⊢
        have e2 : am_dn (P, cl, ty, ys, wd) q.1 q.2.2 pc st = am_dn (P, cl, ty, xs, wd) q.1 q.2.2 pc st := rfl
        rw [e2]
        cases hdn : am_dn (P, cl, ty, xs, wd) q.1 q.2.2 pc st with
        | none => rw [hdn] at hrun; cases hrun
        | some z =>
          rw [hdn] at hrun
          simp only at hrun ⊢
          cases hr2 : am_run (P, cl, ty, xs, wd) n d mi z.1 lv (.ref (h.length + 2) :: z.2.1) (h ++ [z.2.2.1]) with
          | none => rw [hr2] at hrun; cases hrun
          | some o2 =>
            rw [hr2] at hrun
            rw [ih k hk d _ _ _ _ _ o2 hr2]
            exact hrun
      · simp only [hkd] at hrun ⊢
        have e2 : am_rt (P, cl, ty, ys, wd) mi = am_rt (P, cl, ty, xs, wd) mi := rfl
        rw [e2]
        exact hrun
/-- the run comes to its end with o -/
def am_G (C : am_C) (d mi pc : Nat) (lv : am_V) (st : List Value) (h : List am_E) (o : Option Value × List am_E × Nat × Nat) : Prop := ∃ n, am_run C n d mi pc lv st h = some o
theorem am_gx {P : List am_M} {cl : List vw_C} {ty : Nat → Nat → FieldType} {wd : List Int64} (ys : Option (List Int32)) {n d mi pc : Nat} {lv : am_V} {st : List Value} {h : List am_E} {o : Option Value × List am_E × Nat × Nat} (hr : am_run (P, cl, ty, none, wd) n d mi pc lv st h = some o) : am_G (P, cl, ty, ys, wd) d mi pc lv st h o := ⟨n, am_mono (Or.inl rfl) n n (Nat.le_refl n) d mi pc lv st h o hr⟩
theorem am_g0 {C : am_C} {d mi pc : Nat} {lv : am_V} {st : List Value} {h : List am_E} {o : Option Value × List am_E × Nat × Nat} {q : Instr × Nat × am_X} {z : am_Z} (hat : am_at C mi pc = some q) (hkd : am_kd q.1 q.2.2 = 0) (hdo : am_do C d q.1 q.2.2 pc lv st h = some z) (hg : am_G C d mi z.1 z.2.1 z.2.2.1 z.2.2.2 o) : am_G C d mi pc lv st h o := by
  obtain ⟨n, hn⟩ := hg
  refine ⟨n + 1, ?_⟩
  rw [am_run, hat]
  simp only [hkd, hdo]
  exact hn
theorem am_g1 {C : am_C} {d mi pc : Nat} {lv : am_V} {st : List Value} {h : List am_E} {o1 o2 : Option Value × List am_E × Nat × Nat} {q : Instr × Nat × am_X} {z : Nat × List Value × List Value} (hat : am_at C mi pc = some q) (hkd : am_kd q.1 q.2.2 = 1) (hdc : am_dc C q.1 q.2.2 st h = some z) (hg1 : am_G C d z.1 0 (lv_args 0 z.2.1) [] h o1) (hg2 : am_G C (d + 1) mi (pc + 3) lv (o1.1.toList ++ z.2.2) o1.2.1 o2) : am_G C (d + 1) mi pc lv st h (o2.1, o2.2.1, o1.2.2.1 + o2.2.2.1, o1.2.2.2 + o2.2.2.2) := by
  obtain ⟨n1, hn1⟩ := hg1
  obtain ⟨n2, hn2⟩ := hg2
  obtain ⟨P, cl, ty, xs, wd⟩ := C
  refine ⟨max n1 n2 + 1, ?_⟩
  have m1 := am_mono (xs := xs) (Or.inr rfl) n1 (max n1 n2) (Nat.le_max_left _ _) _ _ _ _ _ _ _ hn1
  have m2 := am_mono (xs := xs) (Or.inr rfl) n2 (max n1 n2) (Nat.le_max_right _ _) _ _ _ _ _ _ _ hn2
  rw [am_run, hat]
  simp only [hkd, hdc, m1, m2]
theorem am_g2 {C : am_C} {d mi pc : Nat} {lv : am_V} {st : List Value} {h : List am_E} {o : Option Value × List am_E × Nat × Nat} {q : Instr × Nat × am_X} {z : Nat × List Value × am_E × Nat} (hat : am_at C mi pc = some q) (hkd : am_kd q.1 q.2.2 = 2) (hdn : am_dn C q.1 q.2.2 pc st = some z) (hg : am_G C d mi z.1 lv (.ref (h.length + 2) :: z.2.1) (h ++ [z.2.2.1]) o) : am_G C d mi pc lv st h (o.1, o.2.1, 1 + o.2.2.1, z.2.2.2 + o.2.2.2) := by
  obtain ⟨n, hn⟩ := hg
  refine ⟨n + 1, ?_⟩
  rw [am_run, hat]
  simp only [hkd, hdn, hn]
theorem am_g3 {C : am_C} {d mi pc : Nat} {lv : am_V} {st : List Value} {h : List am_E} {q : Instr × Nat × am_X} {r : Option Value} (hat : am_at C mi pc = some q) (hkd : am_kd q.1 q.2.2 = 3) (hdr : am_dr (am_rt C mi) q.1 st = some r) : am_G C d mi pc lv st h (r, h, 0, 0) := by
  refine ⟨1, ?_⟩
  rw [am_run, hat]
  simp only [hkd, hdr]
/-- k steps -/
def am_ks (C : am_C) (d mi : Nat) : Nat → am_Z → Option am_Z
  | 0, z => some z
  | k + 1, z => match am_at C mi z.1 with
    | none => none
    | some q => bif am_kd q.1 q.2.2 == 0 then (match am_do C d q.1 q.2.2 z.1 z.2.1 z.2.2.1 z.2.2.2 with
      | none => none
      | some y => am_ks C d mi k y) else none
theorem am_gk {C : am_C} {d mi : Nat} {o : Option Value × List am_E × Nat × Nat} (k : Nat) : ∀ {y z : am_Z}, am_ks C d mi k y = some z → am_G C d mi z.1 z.2.1 z.2.2.1 z.2.2.2 o → am_G C d mi y.1 y.2.1 y.2.2.1 y.2.2.2 o := by
  induction k with
  | zero =>
    intro y z hk hg
    cases (show some y = some z from hk)
    exact hg
  | succ k ih =>
    intro y z hk hg
    rw [am_ks] at hk
    cases hat : am_at C mi y.1 with
    | none => rw [hat] at hk; cases hk
    | some q =>
      rw [hat] at hk
      simp only at hk
      cases hkd : (am_kd q.1 q.2.2 == 0) with
      | false => rw [hkd] at hk; cases hk
      | true =>
        rw [hkd, cond_true] at hk
        cases hdo : am_do C d q.1 q.2.2 y.1 y.2.1 y.2.2.1 y.2.2.2 with
        | none => rw [hdo] at hk; cases hk
        | some w =>
          rw [hdo] at hk
          exact am_g0 hat (eq_of_beq hkd) hdo (ih hk hg)
/-- k steps that lead from a frame to a frame; then the rest -/
theorem am_gn {C : am_C} {d mi : Nat} {o : Option Value × List am_E × Nat × Nat} (k : Nat) {pc pc1 : Nat} {lv lv1 : am_V} {st st1 : List Value} {h h1 : List am_E} (hk : am_ks C d mi k (pc, lv, st, h) = some (pc1, lv1, st1, h1)) (hg : am_G C d mi pc1 lv1 st1 h1 o) : am_G C d mi pc lv st h o := am_gk k (y := (pc, lv, st, h)) (z := (pc1, lv1, st1, h1)) hk hg
/-- a branch on a number against zero -/
theorem am_gb1 {C : am_C} {d mi pc : Nat} {lv : am_V} {st : List Value} {h : List am_E} {o : Option Value × List am_E × Nat × Nat} {c : ClassFile.Cond} {off : Int} {len : Nat} {x : am_X} {a : Int32} (hat : am_at C mi pc = some (.ifCond c off, len, x)) (bb : Bool) (hc : am_if c a 0 = bb) {pc1 : Nat} (hpc : (bif bb then x.1 else pc + 3) = pc1) (hg : am_G C d mi pc1 lv st h o) : am_G C d mi pc lv (.int a :: st) h o := by
  refine am_g0 (z := (pc1, lv, st, h)) hat rfl ?_ hg
  show am_b1 c x.1 pc lv (.int a :: st) h = _
  unfold am_b1
  simp only [hc, hpc]
/-- a branch on two numbers -/
theorem am_gb2 {C : am_C} {d mi pc : Nat} {lv : am_V} {st : List Value} {h : List am_E} {o : Option Value × List am_E × Nat × Nat} {c : ClassFile.Cond} {off : Int} {len : Nat} {x : am_X} {a y : Int32} (hat : am_at C mi pc = some (.if_icmp c off, len, x)) (bb : Bool) (hc : am_if c a y = bb) {pc1 : Nat} (hpc : (bif bb then x.1 else pc + 3) = pc1) (hg : am_G C d mi pc1 lv st h o) : am_G C d mi pc lv (.int y :: .int a :: st) h o := by
  refine am_g0 (z := (pc1, lv, st, h)) hat rfl ?_ hg
  show am_b2 c x.1 pc lv (.int y :: .int a :: st) h = _
  unfold am_b2
  simp only [hc, hpc]
theorem am_gli {C : am_C} {d mi pc : Nat} {lv : am_V} {st : List Value} {h : List am_E} {o : Option Value × List am_E × Nat × Nat} {len : Nat} {x : am_X} {i v : Int32} {a : Nat} {l : List Int32} (hat : am_at C mi pc = some (.iaload, len, x)) (ha : am_ar h a = some (false, l)) (h0 : ¬ i < 0) (hv : l[i.toNatClampNeg]? = some v) (hg : am_G C d mi (pc + 1) lv (.int v :: st) h o) : am_G C d mi pc lv (.int i :: .ref a :: st) h o := by
  refine am_g0 (z := (pc + 1, lv, .int v :: st, h)) hat rfl ?_ hg
  obtain ⟨k, rfl, -⟩ := am_ar_at ha
  show am_ld false C.2.2.2.1 pc lv (.int i :: .ref (k + 2) :: st) h = _
  simp [am_ld, ha, h0, hv]
theorem am_glc {C : am_C} {d mi pc : Nat} {lv : am_V} {st : List Value} {h : List am_E} {o : Option Value × List am_E × Nat × Nat} {len : Nat} {x : am_X} {i v : Int32} {a : Nat} {l : List Int32} (hat : am_at C mi pc = some (.caload, len, x)) (ha : am_ar h a = some (true, l)) (h0 : ¬ i < 0) (hv : l[i.toNatClampNeg]? = some v) (hg : am_G C d mi (pc + 1) lv (.int v :: st) h o) : am_G C d mi pc lv (.int i :: .ref a :: st) h o := by
  refine am_g0 (z := (pc + 1, lv, .int v :: st, h)) hat rfl ?_ hg
  obtain ⟨k, rfl, -⟩ := am_ar_at ha
  show am_ld true C.2.2.2.1 pc lv (.int i :: .ref (k + 2) :: st) h = _
  simp [am_ld, ha, h0, hv]
theorem am_gsi {C : am_C} {d mi pc : Nat} {lv : am_V} {st : List Value} {h h1 : List am_E} {o : Option Value × List am_E × Nat × Nat} {len : Nat} {x : am_X} {i v : Int32} {a : Nat} {l : List Int32} (hat : am_at C mi pc = some (.iastore, len, x)) (ha : am_ar h a = some (false, l)) (h0 : ¬ i < 0) (hi : i.toNatClampNeg < l.length) (hh : h.set (a - 2) (.inl (false, l.set i.toNatClampNeg v)) = h1) (hg : am_G C d mi (pc + 1) lv st h1 o) : am_G C d mi pc lv (.int v :: .int i :: .ref a :: st) h o := by
  refine am_g0 (z := (pc + 1, lv, st, h1)) hat rfl ?_ hg
  subst hh
  show am_sto false pc lv (.int v :: .int i :: .ref a :: st) h = _
  simp [am_sto, ha, h0, hi]
theorem am_gsc {C : am_C} {d mi pc : Nat} {lv : am_V} {st : List Value} {h h1 : List am_E} {o : Option Value × List am_E × Nat × Nat} {len : Nat} {x : am_X} {i v : Int32} {a : Nat} {l : List Int32} (hat : am_at C mi pc = some (.castore, len, x)) (ha : am_ar h a = some (true, l)) (h0 : ¬ i < 0) (hi : i.toNatClampNeg < l.length) (hh : h.set (a - 2) (.inl (true, l.set i.toNatClampNeg (vp_nar .char v))) = h1) (hg : am_G C d mi (pc + 1) lv st h1 o) : am_G C d mi pc lv (.int v :: .int i :: .ref a :: st) h o := by
  refine am_g0 (z := (pc + 1, lv, st, h1)) hat rfl ?_ hg
  subst hh
  show am_sto true pc lv (.int v :: .int i :: .ref a :: st) h = _
  simp [am_sto, ha, h0, hi]
/-- the script -/
theorem am_gls {C : am_C} {d mi pc : Nat} {lv : am_V} {st : List Value} {h : List am_E} {o : Option Value × List am_E × Nat × Nat} {len : Nat} {x : am_X} {i v : Int32} {l : List Int32} (hat : am_at C mi pc = some (.iaload, len, x)) (ha : C.2.2.2.1 = some l) (h0 : ¬ i < 0) (hv : l[i.toNatClampNeg]? = some v) (hg : am_G C d mi (pc + 1) lv (.int v :: st) h o) : am_G C d mi pc lv (.int i :: .ref 0 :: st) h o := by
  refine am_g0 (z := (pc + 1, lv, .int v :: st, h)) hat rfl ?_ hg
  show am_ld false C.2.2.2.1 pc lv (.int i :: .ref 0 :: st) h = _
  simp [am_ld, ha, h0, hv]
theorem am_gsw {C : am_C} {d mi pc : Nat} {lv : am_V} {st : List Value} {h : List am_E} {o : Option Value × List am_E × Nat × Nat} {len : Nat} {x : am_X} {dflt lo hi : Int} {offs : Array Int} {a : Int32} {tgt : Nat} (hat : am_at C mi pc = some (.tableswitch dflt lo hi offs, len, x)) (ht : am_ts dflt lo hi offs pc a = some tgt) (hg : am_G C d mi tgt lv st h o) : am_G C d mi pc lv (.int a :: st) h o := by
  refine am_g0 (z := (tgt, lv, st, h)) hat rfl ?_ hg
  show am_sw (am_ts dflt lo hi offs pc) lv (.int a :: st) h = _
  simp [am_sw, ht]
/-! Ends of runs that make no cell, by what holds of them. -/
def am_W (C : am_C) (d mi pc : Nat) (lv : am_V) (st : List Value) (h : List am_E) (Q : Option Value → List am_E → Prop) : Prop := ∃ (r : Option Value) (h1 : List am_E), am_G C d mi pc lv st h (r, h1, 0, 0) ∧ Q r h1
section AMW
variable {C : am_C} {d mi pc : Nat} {lv : am_V} {st : List Value} {h : List am_E} {Q : Option Value → List am_E → Prop}
theorem am_wn (k : Nat) {pc1 : Nat} {lv1 : am_V} {st1 : List Value} {h1 : List am_E} (hk : am_ks C d mi k (pc, lv, st, h) = some (pc1, lv1, st1, h1)) (hg : am_W C d mi pc1 lv1 st1 h1 Q) : am_W C d mi pc lv st h Q := by
  obtain ⟨r, h2, hg, hQ⟩ := hg
  exact ⟨r, h2, am_gn k hk hg, hQ⟩
theorem am_w0 {q : Instr × Nat × am_X} {z : am_Z} (hat : am_at C mi pc = some q) (hkd : am_kd q.1 q.2.2 = 0) (hdo : am_do C d q.1 q.2.2 pc lv st h = some z) (hg : am_W C d mi z.1 z.2.1 z.2.2.1 z.2.2.2 Q) : am_W C d mi pc lv st h Q := by
  obtain ⟨r, h2, hg, hQ⟩ := hg
  exact ⟨r, h2, am_g0 hat hkd hdo hg, hQ⟩
theorem am_wb1 {c : ClassFile.Cond} {off : Int} {len : Nat} {x : am_X} {a : Int32} (hat : am_at C mi pc = some (.ifCond c off, len, x)) (bb : Bool) (hc : am_if c a 0 = bb) {pc1 : Nat} (hpc : (bif bb then x.1 else pc + 3) = pc1) (hg : am_W C d mi pc1 lv st h Q) : am_W C d mi pc lv (.int a :: st) h Q := by
  obtain ⟨r, h2, hg, hQ⟩ := hg
  exact ⟨r, h2, am_gb1 hat bb hc hpc hg, hQ⟩
theorem am_wb2 {c : ClassFile.Cond} {off : Int} {len : Nat} {x : am_X} {a y : Int32} (hat : am_at C mi pc = some (.if_icmp c off, len, x)) (bb : Bool) (hc : am_if c a y = bb) {pc1 : Nat} (hpc : (bif bb then x.1 else pc + 3) = pc1) (hg : am_W C d mi pc1 lv st h Q) : am_W C d mi pc lv (.int y :: .int a :: st) h Q := by
  obtain ⟨r, h2, hg, hQ⟩ := hg
  exact ⟨r, h2, am_gb2 hat bb hc hpc hg, hQ⟩
theorem am_wsw {len : Nat} {x : am_X} {dflt lo hi : Int} {offs : Array Int} {a : Int32} {tgt : Nat} (hat : am_at C mi pc = some (.tableswitch dflt lo hi offs, len, x)) (ht : am_ts dflt lo hi offs pc a = some tgt) (hg : am_W C d mi tgt lv st h Q) : am_W C d mi pc lv (.int a :: st) h Q := by
  obtain ⟨r, h2, hg, hQ⟩ := hg
  exact ⟨r, h2, am_gsw hat ht hg, hQ⟩
theorem am_wli {len : Nat} {x : am_X} {i v : Int32} {a : Nat} {l : List Int32} (hat : am_at C mi pc = some (.iaload, len, x)) (ha : am_ar h a = some (false, l)) (h0 : ¬ i < 0) (hv : l[i.toNatClampNeg]? = some v) (hg : am_W C d mi (pc + 1) lv (.int v :: st) h Q) : am_W C d mi pc lv (.int i :: .ref a :: st) h Q := by
  obtain ⟨r, h2, hg, hQ⟩ := hg
  exact ⟨r, h2, am_gli hat ha h0 hv hg, hQ⟩
theorem am_wlc {len : Nat} {x : am_X} {i v : Int32} {a : Nat} {l : List Int32} (hat : am_at C mi pc = some (.caload, len, x)) (ha : am_ar h a = some (true, l)) (h0 : ¬ i < 0) (hv : l[i.toNatClampNeg]? = some v) (hg : am_W C d mi (pc + 1) lv (.int v :: st) h Q) : am_W C d mi pc lv (.int i :: .ref a :: st) h Q := by
  obtain ⟨r, h2, hg, hQ⟩ := hg
  exact ⟨r, h2, am_glc hat ha h0 hv hg, hQ⟩
theorem am_wls {len : Nat} {x : am_X} {i v : Int32} {l : List Int32} (hat : am_at C mi pc = some (.iaload, len, x)) (ha : C.2.2.2.1 = some l) (h0 : ¬ i < 0) (hv : l[i.toNatClampNeg]? = some v) (hg : am_W C d mi (pc + 1) lv (.int v :: st) h Q) : am_W C d mi pc lv (.int i :: .ref 0 :: st) h Q := by
  obtain ⟨r, h2, hg, hQ⟩ := hg
  exact ⟨r, h2, am_gls hat ha h0 hv hg, hQ⟩
theorem am_wsi {h1 : List am_E} {len : Nat} {x : am_X} {i v : Int32} {a : Nat} {l : List Int32} (hat : am_at C mi pc = some (.iastore, len, x)) (ha : am_ar h a = some (false, l)) (h0 : ¬ i < 0) (hi : i.toNatClampNeg < l.length) (hh : h.set (a - 2) (.inl (false, l.set i.toNatClampNeg v)) = h1) (hg : am_W C d mi (pc + 1) lv st h1 Q) : am_W C d mi pc lv (.int v :: .int i :: .ref a :: st) h Q := by
  obtain ⟨r, h2, hg, hQ⟩ := hg
  exact ⟨r, h2, am_gsi hat ha h0 hi hh hg, hQ⟩
theorem am_wsc {h1 : List am_E} {len : Nat} {x : am_X} {i v : Int32} {a : Nat} {l : List Int32} (hat : am_at C mi pc = some (.castore, len, x)) (ha : am_ar h a = some (true, l)) (h0 : ¬ i < 0) (hi : i.toNatClampNeg < l.length) (hh : h.set (a - 2) (.inl (true, l.set i.toNatClampNeg (vp_nar .char v))) = h1) (hg : am_W C d mi (pc + 1) lv st h1 Q) : am_W C d mi pc lv (.int v :: .int i :: .ref a :: st) h Q := by
  obtain ⟨r, h2, hg, hQ⟩ := hg
  exact ⟨r, h2, am_gsc hat ha h0 hi hh hg, hQ⟩
/-- a call: its end goes on with the caller -/
theorem am_wc {q : Instr × Nat × am_X} {z : Nat × List Value × List Value} (hat : am_at C mi pc = some q) (hkd : am_kd q.1 q.2.2 = 1) (hdc : am_dc C q.1 q.2.2 st h = some z) (hg : am_W C d z.1 0 (lv_args 0 z.2.1) [] h (fun r h1 => am_W C (d + 1) mi (pc + 3) lv (r.toList ++ z.2.2) h1 Q)) : am_W C (d + 1) mi pc lv st h Q := by
  obtain ⟨r, h1, hg, r2, h2, hg2, hQ⟩ := hg
  exact ⟨r2, h2, am_g1 (o2 := (r2, h2, 0, 0)) hat hkd hdc hg hg2, hQ⟩
theorem am_wr {q : Instr × Nat × am_X} {r : Option Value} (hat : am_at C mi pc = some q) (hkd : am_kd q.1 q.2.2 = 3) (hdr : am_dr (am_rt C mi) q.1 st = some r) (hQ : Q r h) : am_W C d mi pc lv st h Q := ⟨r, h, am_g3 hat hkd hdr, hQ⟩
theorem am_ww {Q1 : Option Value → List am_E → Prop} (hg : am_W C d mi pc lv st h Q1) (hQ : ∀ r h1, Q1 r h1 → Q r h1) : am_W C d mi pc lv st h Q := by
  obtain ⟨r, h2, hg, hq⟩ := hg
  exact ⟨r, h2, hg, hQ r h2 hq⟩
end AMW
/-- a closed run -/
theorem am_wx {P : List am_M} {cl : List vw_C} {ty : Nat → Nat → FieldType} {wd : List Int64} {ys : Option (List Int32)} {n d mi pc : Nat} {lv : am_V} {st : List Value} {h : List am_E} {r : Option Value} {h1 : List am_E} {Q : Option Value → List am_E → Prop} (hr : am_run (P, cl, ty, none, wd) n d mi pc lv st h = some (r, h1, 0, 0)) (hQ : Q r h1) : am_W (P, cl, ty, ys, wd) d mi pc lv st h Q := ⟨r, h1, am_gx ys hr, hQ⟩
