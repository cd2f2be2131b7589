/-! A program that looks through a method's table: what it passes is right. T: the tables' words; an instruction names its word by the word's place. -/
def am_lb (C : am_C) (T : List Cond) (K : List Nat) (M : am_M) (pc : Nat) (i : Instr) (len : Nat) (x : am_X) : Bool := match i with
  | .iconst n => decide (len = 1 ∧ x.2.2.2 = .int (Int32.ofInt n))
  | .bipush n => decide (len = 2 ∧ x.2.2.2 = .int (Int8.ofInt n).toInt32)
  | .sipush n => decide (len = 3 ∧ x.2.2.2 = .int (Int16.ofInt n).toInt32)
  | .lconst n => decide (len = 1 ∧ x.2.2.2 = .long (Int64.ofNat (n : Nat)))
  | .ldc2_w k => (match x.2.2.2 with
    | .long v => decide (len = 3 ∧ T[x.2.2.1]? = some (Cond.constantLong M.1.cls k v))
    | _ => false)
  | .iload _ => decide (len = 2)
  | .lload _ => decide (len = 2)
  | .aload _ => decide (len = 2)
  | .istore_n k => decide (len = 1 ∧ (k : Nat) < M.2.2.1)
  | .istore k => decide (len = 2 ∧ k < M.2.2.1)
  | .lstore_n k => decide (len = 1 ∧ (k : Nat) + 1 < M.2.2.1)
  | .lstore k => decide (len = 2 ∧ k + 1 < M.2.2.1)
  | .astore_n k => decide (len = 1 ∧ (k : Nat) < M.2.2.1)
  | .astore k => decide (len = 2 ∧ k < M.2.2.1)
  | .iinc k _ => decide (len = 3 ∧ k < M.2.2.1)
  | .ifCond _ o => decide (len = 3 ∧ (pc : Int) + o = (x.1 : Int))
  | .if_icmp _ o => decide (len = 3 ∧ (pc : Int) + o = (x.1 : Int))
  | .goto o => decide (len = 3 ∧ (pc : Int) + o = (x.1 : Int))
  | .tableswitch _ _ _ _ => true
  | .lookupswitch _ ps => (ps.toList.zip (ps.toList.drop 1)).all (fun (a, next) => a.1 < next.1)
  | .getfield k => (match C.2.1[x.1]? with
    | some q => decide (len = 3 ∧ x.2.1 < q.2.2 ∧ T[x.2.2.1]? = some (Cond.fieldLink M.1.cls k q.1 (q.2.1 x.2.1).2.1 (q.2.1 x.2.1).2.2.1))
    | none => false)
  | .putfield k => (match C.2.1[x.1]? with
    | some q => decide ((len = 3 ∧ x.2.1 < q.2.2 ∧ T[x.2.2.1]? = some (Cond.fieldLink M.1.cls k q.1 (q.2.1 x.2.1).2.1 (q.2.1 x.2.1).2.2.1)) ∧ ((q.2.1 x.2.1).2.2.2 = false ∨ (q.2.1 x.2.1).2.2.2 = true ∧ M.1.name = "<init>" ∧ q.1 = M.1.cls))
    | none => false)
  | .getstatic k => decide (len = 3 ∧ T[x.2.2.1]? = some (Cond.fieldLink M.1.cls k "BindingServer$Tokens" "WORDS" "[J"))
  | .newarray _ => decide (len = 2)
  | .new k => (match C.2.1[x.1]? with
    | some q => decide (len = 3 ∧ T[x.2.2.1]? = some (Cond.classLink M.1.cls k q.1))
    | none => false)
  | .invokevirtual k => (match C.1[x.1]?, x.2.2.2 with
    | some N, .ref ci => (match C.2.1[ci]? with
      | some q => decide (len = 3 ∧ x.1 ≠ 0 ∧ K[x.1]? = some 0 ∧ q.1 = N.1.cls ∧ T[x.2.2.1]? = some (Cond.methodLink M.1.cls k N.1) ∧ am_pd N.1 x.2.1)
      | none => false)
    | _, _ => false)
  | .invokespecial k => bif x.1 == 1002 then decide (len = 3 ∧ T[x.2.2.1]? = some (Cond.methodLink M.1.cls k objectInit)) else (match C.1[x.1]? with
    | some N => decide (len = 3 ∧ x.1 ≠ 0 ∧ K[x.1]? = some 2 ∧ T[x.2.2.1]? = some (Cond.methodLink M.1.cls k N.1) ∧ N.1.name = "<init>" ∧ N.2.2.2.1 = none ∧ am_pd N.1 x.2.1)
    | none => false)
  | .invokestatic k => bif x.1 == 1000 then decide (len = 3 ∧ T[x.2.2.1]? = some (Cond.methodLink M.1.cls k Lib.Math.max.name)) else bif x.1 == 1001 then decide (len = 3 ∧ T[x.2.2.1]? = some (Cond.methodLink M.1.cls k arraycopyName)) else (match C.1[x.1]? with
    | some N => decide (len = 3 ∧ x.1 ≠ 0 ∧ K[x.1]? = some 1 ∧ T[x.2.2.1]? = some (Cond.methodLink M.1.cls k N.1) ∧ am_pd N.1 x.2.1)
    | none => false)
  | _ => decide (len = 1)
/-- of a method: static, or an object's method whose choice is itself -/
def am_ki (G : List Cond) (M : am_M) (kind : Nat) : Prop := match kind with
  | 0 => Cond.instanceMethod M.1 ∈ G ∧ Cond.selects M.1.cls M.1 M.1 ∈ G
  | 1 => Cond.static M.1 ∈ G
  | _ => Cond.instanceMethod M.1 ∈ G
theorem am_lb_ok {C : am_C} {G T : List Cond} {K : List Nat} {M : am_M} {pc : Nat} {i : Instr} {len : Nat} {x : am_X} (hT : ∀ w ∈ T, goodWord w = true → w ∈ G) (hK : ∀ (mi k : Nat) (N : am_M), C.1[mi]? = some N → K[mi]? = some k → mi ≠ 0 → am_ki G N k) (h : am_lb C T K M pc i len x = true) : am_lo C G M pc i len x := by
  have hm : ∀ {j : Nat} {w : Cond}, T[j]? = some w → goodWord w = true → w ∈ G := fun hj hg => hT _ (List.mem_of_getElem? hj) hg
  obtain ⟨x1, x2, x3, x4⟩ := x
  cases i
  case iconst n =>
    have h2 : len = 1 ∧ x4 = .int (Int32.ofInt n) := of_decide_eq_true h
    exact h2
  case bipush n =>
    have h2 : len = 2 ∧ x4 = .int (Int8.ofInt n).toInt32 := of_decide_eq_true h
    exact h2
  case sipush n =>
    have h2 : len = 3 ∧ x4 = .int (Int16.ofInt n).toInt32 := of_decide_eq_true h
    exact h2
  case lconst n =>
    have h2 : len = 1 ∧ x4 = .long (Int64.ofNat (n : Nat)) := of_decide_eq_true h
    exact h2
  case iload n =>
    have h2 : len = 2 := of_decide_eq_true h
    exact h2
  case lload n =>
    have h2 : len = 2 := of_decide_eq_true h
    exact h2
  case aload n =>
    have h2 : len = 2 := of_decide_eq_true h
    exact h2
  case istore_n n =>
    have h2 : len = 1 ∧ (n : Nat) < M.2.2.1 := of_decide_eq_true h
    exact h2
  case istore n =>
    have h2 : len = 2 ∧ n < M.2.2.1 := of_decide_eq_true h
    exact h2
  case lstore_n n =>
    have h2 : len = 1 ∧ (n : Nat) + 1 < M.2.2.1 := of_decide_eq_true h
    exact h2
  case lstore n =>
    have h2 : len = 2 ∧ n + 1 < M.2.2.1 := of_decide_eq_true h
    exact h2
  case astore_n n =>
    have h2 : len = 1 ∧ (n : Nat) < M.2.2.1 := of_decide_eq_true h
    exact h2
  case astore n =>
    have h2 : len = 2 ∧ n < M.2.2.1 := of_decide_eq_true h
    exact h2
  case iinc i n =>
    have h2 : len = 3 ∧ i < M.2.2.1 := of_decide_eq_true h
    exact h2
  case ifCond cn o =>
    have h2 : len = 3 ∧ (pc : Int) + o = (x1 : Int) := of_decide_eq_true h
    exact h2
  case if_icmp cn o =>
    have h2 : len = 3 ∧ (pc : Int) + o = (x1 : Int) := of_decide_eq_true h
    exact h2
  case goto o =>
    have h2 : len = 3 ∧ (pc : Int) + o = (x1 : Int) := of_decide_eq_true h
    exact h2
  case newarray ty =>
    have h2 : len = 2 := of_decide_eq_true h
    exact h2
  case ldc2_w k =>
    cases x4 with
    | long v =>
      have h : _ := of_decide_eq_true h
      exact ⟨h.1, v, rfl, hm h.2 rfl⟩
    | _ => cases h
  case tableswitch a1 a2 a3 a4 => exact trivial
  case lookupswitch a1 a2 => exact h
  case getfield k =>
    cases hq : C.2.1[x1]? with
    | none =>
      have h : (match C.2.1[x1]? with
        | some q => decide (len = 3 ∧ x2 < q.2.2 ∧ T[x3]? = some (Cond.fieldLink M.1.cls k q.1 (q.2.1 x2).2.1 (q.2.1 x2).2.2.1))
        | none => false) = true := h
      rw [hq] at h
      cases h
    | some q =>
      have h : (match C.2.1[x1]? with
        | some q => decide (len = 3 ∧ x2 < q.2.2 ∧ T[x3]? = some (Cond.fieldLink M.1.cls k q.1 (q.2.1 x2).2.1 (q.2.1 x2).2.2.1))
        | none => false) = true := h
      rw [hq] at h
      have h := of_decide_eq_true h
      exact ⟨h.1, q, hq, h.2.1, hm h.2.2 rfl⟩
  case putfield k =>
    have h : (match C.2.1[x1]? with
        | some q => decide ((len = 3 ∧ x2 < q.2.2 ∧ T[x3]? = some (Cond.fieldLink M.1.cls k q.1 (q.2.1 x2).2.1 (q.2.1 x2).2.2.1)) ∧ ((q.2.1 x2).2.2.2 = false ∨ (q.2.1 x2).2.2.2 = true ∧ M.1.name = "<init>" ∧ q.1 = M.1.cls))
        | none => false) = true := h
    cases hq : C.2.1[x1]? with
    | none =>
      rw [hq] at h
      cases h
    | some q =>
      rw [hq] at h
      have h := of_decide_eq_true h
      exact ⟨h.1.1, ⟨q, hq, h.1.2.1, hm h.1.2.2 rfl⟩, q, hq, h.2⟩
  case getstatic k =>
    have h := of_decide_eq_true h
    exact ⟨h.1, hm h.2 rfl⟩
  case new k =>
    have h : (match C.2.1[x1]? with
        | some q => decide (len = 3 ∧ T[x3]? = some (Cond.classLink M.1.cls k q.1))
        | none => false) = true := h
    cases hq : C.2.1[x1]? with
    | none =>
      rw [hq] at h
      cases h
    | some q =>
      rw [hq] at h
      have h := of_decide_eq_true h
      exact ⟨h.1, q, hq, hm h.2 rfl⟩
  case invokevirtual k =>
    cases x4 with
    | ref ci =>
      have h : (match C.1[x1]?, Value.ref ci with
        | some N, .ref ci => (match C.2.1[ci]? with
          | some q => decide (len = 3 ∧ x1 ≠ 0 ∧ K[x1]? = some 0 ∧ q.1 = N.1.cls ∧ T[x3]? = some (Cond.methodLink M.1.cls k N.1) ∧ am_pd N.1 x2)
          | none => false)
        | _, _ => false) = true := h
      cases hN : C.1[x1]? with
      | none =>
        rw [hN] at h
        cases h
      | some N =>
        rw [hN] at h
        simp only at h
        cases hq : C.2.1[ci]? with
        | none =>
          rw [hq] at h
          cases h
        | some q =>
          rw [hq] at h
          have h := of_decide_eq_true h
          have hk := hK x1 0 N hN h.2.2.1 h.2.1
          exact ⟨h.1, h.2.1, N, ci, q, hN, rfl, hq, h.2.2.2.1, hm h.2.2.2.2.1 rfl, hk.1, hk.2, h.2.2.2.2.2⟩
    | _ =>
      have h : (match C.1[x1]?, (_ : Value) with
        | some N, .ref ci => _
        | _, _ => false) = true := h
      exact absurd h (by split <;> simp_all)
  case invokespecial k =>
    have h : (bif x1 == 1002 then decide (len = 3 ∧ T[x3]? = some (Cond.methodLink M.1.cls k objectInit)) else (match C.1[x1]? with
      | some N => decide (len = 3 ∧ x1 ≠ 0 ∧ K[x1]? = some 2 ∧ T[x3]? = some (Cond.methodLink M.1.cls k N.1) ∧ N.1.name = "<init>" ∧ N.2.2.2.1 = none ∧ am_pd N.1 x2)
      | none => false)) = true := h
    cases hx : (x1 == 1002) with
    | true =>
      rw [hx] at h
      have h := of_decide_eq_true h
      exact ⟨h.1, Or.inl ⟨eq_of_beq hx, hm h.2 rfl⟩⟩
    | false =>
      rw [hx, cond_false] at h
      cases hN : C.1[x1]? with
      | none =>
        rw [hN] at h
        cases h
      | some N =>
        rw [hN] at h
        have h := of_decide_eq_true h
        have hk := hK x1 2 N hN h.2.2.1 h.2.1
        exact ⟨h.1, Or.inr ⟨ne_of_beq_false hx, h.2.1, N, hN, hm h.2.2.2.1 rfl, hk, h.2.2.2.2.1, h.2.2.2.2.2.1, h.2.2.2.2.2.2⟩⟩
  case invokestatic k =>
    have h : (bif x1 == 1000 then decide (len = 3 ∧ T[x3]? = some (Cond.methodLink M.1.cls k Lib.Math.max.name)) else bif x1 == 1001 then decide (len = 3 ∧ T[x3]? = some (Cond.methodLink M.1.cls k arraycopyName)) else (match C.1[x1]? with
      | some N => decide (len = 3 ∧ x1 ≠ 0 ∧ K[x1]? = some 1 ∧ T[x3]? = some (Cond.methodLink M.1.cls k N.1) ∧ am_pd N.1 x2)
      | none => false)) = true := h
    cases hx : (x1 == 1000) with
    | true =>
      rw [hx] at h
      have h := of_decide_eq_true h
      exact ⟨h.1, Or.inl ⟨eq_of_beq hx, hm h.2 rfl⟩⟩
    | false =>
      rw [hx, cond_false] at h
      cases hy : (x1 == 1001) with
      | true =>
        rw [hy] at h
        have h := of_decide_eq_true h
        exact ⟨h.1, Or.inr (Or.inl ⟨eq_of_beq hy, hm h.2 rfl⟩)⟩
      | false =>
        rw [hy, cond_false] at h
        cases hN : C.1[x1]? with
        | none =>
          rw [hN] at h
          cases h
        | some N =>
          rw [hN] at h
          have h := of_decide_eq_true h
          have hk := hK x1 1 N hN h.2.2.1 h.2.1
          exact ⟨h.1, Or.inr (Or.inr ⟨ne_of_beq_false hx, ne_of_beq_false hy, h.2.1, N, hN, hm h.2.2.2.1 rfl, hk, h.2.2.2.2⟩)⟩
  all_goals exact (show len = 1 from of_decide_eq_true (p := len = 1) h)
/-- a whole table -/
theorem am_tb_ok {C : am_C} {G T : List Cond} {K : List Nat} {M : am_M} (hT : ∀ w ∈ T, goodWord w = true → w ∈ G) (hK : ∀ (mi k : Nat) (N : am_M), C.1[mi]? = some N → K[mi]? = some k → mi ≠ 0 → am_ki G N k) (hd : ∀ q ∈ M.2.2.2.2, decode M.2.1 q.1 = .ok (q.2.1, q.2.2.1)) (hb : M.2.2.2.2.all (fun q => am_lb C T K M q.1 q.2.1 q.2.2.1 q.2.2.2) = true) : ∀ q ∈ M.2.2.2.2, am_ok C G M q := fun q hq => ⟨hd q hq, am_lb_ok hT hK (List.all_eq_true.mp hb q hq)⟩
