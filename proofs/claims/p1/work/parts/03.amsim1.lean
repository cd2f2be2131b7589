/-! How the abstract machine's values and cells lie in the real heap: the cell k at the address base + k. -/
def am_tr (base b t : Nat) (v : Value) : Value := match v with
  | .ref a => (match a with
    | 0 => .ref b
    | 1 => .ref t
    | k + 2 => .ref (base + k))
  | v => v
theorem am_tr_cat (base b t : Nat) (v : Value) : (am_tr base b t v).category = v.category := by
  cases v with
  | ref a =>
    match a with
    | 0 => rfl
    | 1 => rfl
    | k + 2 => rfl
  | _ => rfl
def am_lm (base b t : Nat) (lv : am_V) : am_V := lv.map (fun q => (q.1, am_tr base b t q.2))
theorem am_lk_mem {lv : am_V} {i : Nat} {v : Value} (h : am_lk lv i = some v) : (i, v) ∈ lv := by
  induction lv with
  | nil => cases h
  | cons q r ih =>
    obtain ⟨j, w⟩ := q
    have h2 : (bif j == i then some w else am_lk r i) = some v := h
    clear h
    cases hq : (j == i) with
    | true =>
      rw [hq, cond_true] at h2
      have e := eq_of_beq hq
      subst e
      cases h2
      exact List.mem_cons_self
    | false =>
      rw [hq, cond_false] at h2
      exact List.mem_cons_of_mem _ (ih h2)
theorem am_lk_at {base b t nL : Nat} {ls : Array Slot} {lv : am_V} (hl : lv_has ls nL (am_lm base b t lv)) {i : Nat} {v : Value} (h : am_lk lv i = some v) : ls[i]? = some (.val (am_tr base b t v)) :=
  hl.2.2 (i, am_tr base b t v) (List.mem_map.mpr ⟨(i, v), am_lk_mem h, rfl⟩)
theorem am_lk_ix {base b t : Nat} {lv : am_V} {i : Nat} {v : Value} (h : am_lk lv i = some v) : ∃ k : Nat, (am_lm base b t lv)[k]? = some (i, am_tr base b t v) :=
  List.getElem?_of_mem (List.mem_map.mpr ⟨(i, v), am_lk_mem h, rfl⟩)
theorem am_s1_has {base b t nL : Nat} {ls : Array Slot} {lv : am_V} {i : Nat} {v : Value} (h : lv_has ls nL ((i, am_tr base b t v) :: (am_lm base b t lv).filter (fun q => !(q.1 == i) && !(q.1 + 1 == i && q.2.category == 2)))) : lv_has ls nL (am_lm base b t (am_s1 lv i v)) := by
  refine ⟨h.1, h.2.1, fun q hq => h.2.2 q ?_⟩
  obtain ⟨w, hw, rfl⟩ := List.mem_map.mp hq
  rcases List.mem_cons.mp hw with rfl | hw
  · exact List.mem_cons_self
  · refine List.mem_cons_of_mem _ ?_
    obtain ⟨h1, h2⟩ := List.mem_filter.mp hw
    refine List.mem_filter.mpr ⟨List.mem_map.mpr ⟨w, h1, rfl⟩, ?_⟩
    simp only [am_tr_cat]
    revert h2
    cases (w.1 == i) <;> cases (w.1 + 1 == i) <;> cases (w.2.category == 2) <;> cases (am_c2 lv i) <;> simp
theorem am_s2_has {base b t nL : Nat} {ls : Array Slot} {lv : am_V} {i : Nat} {v : Value} (h : lv_has ls nL ((i, am_tr base b t v) :: (am_lm base b t lv).filter (fun q => !(q.1 == i) && (!(q.1 == i + 1) && !(q.1 + 1 == i && q.2.category == 2))))) : lv_has ls nL (am_lm base b t (am_s2 lv i v)) := by
  refine ⟨h.1, h.2.1, fun q hq => h.2.2 q ?_⟩
  obtain ⟨w, hw, rfl⟩ := List.mem_map.mp hq
  rcases List.mem_cons.mp hw with rfl | hw
  · exact List.mem_cons_self
  · refine List.mem_cons_of_mem _ ?_
    obtain ⟨h1, h2⟩ := List.mem_filter.mp hw
    refine List.mem_filter.mpr ⟨List.mem_map.mpr ⟨w, h1, rfl⟩, ?_⟩
    simp only [am_tr_cat]
    revert h2
    cases (w.1 == i) <;> cases (w.1 == i + 1) <;> cases (w.1 + 1 == i) <;> cases (w.2.category == 2) <;> cases (am_c2 lv i) <;> simp
theorem am_ca_tr (base b t : Nat) (st : List Value) : ((st.map (am_tr base b t)).map fun v => v.category).sum = am_ca st := by
  unfold am_ca
  rw [List.map_map]
  refine congrArg List.sum ?_
  apply List.map_congr_left
  intro v _
  exact am_tr_cat base b t v
theorem am_sl_tr (base b t : Nat) (vs : List Value) : (lg_sl (vs.map (am_tr base b t))).length = (lg_sl vs).length := by
  induction vs with
  | nil => rfl
  | cons v r ih =>
    have e : ∀ (w : Value) (u : List Value), (lg_sl (w :: u)).length = (if w.category = 2 then 2 else 1) + (lg_sl u).length := by
      intro w u
      unfold lg_sl
      rw [List.flatMap_cons, List.length_append]
      split <;> rfl
    rw [List.map_cons, e, e, ih, am_tr_cat]
theorem am_args_tr (base b t : Nat) (vs : List Value) : ∀ i : Nat, lv_args i (vs.map (am_tr base b t)) = am_lm base b t (lv_args i vs) := by
  induction vs with
  | nil => intro i; rfl
  | cons v r ih =>
    intro i
    show (i, am_tr base b t v) :: lv_args (if (am_tr base b t v).category = 2 then i + 2 else i + 1) (r.map (am_tr base b t)) = (i, am_tr base b t v) :: am_lm base b t (lv_args (if v.category = 2 then i + 2 else i + 1) r)
    rw [ih, am_tr_cat]
def am_e (base b t : Nat) (cI cC : ClassId) (e : am_E) : va_E := match e with
  | .inl o => .inl (bif o.1 then cC else cI, o.2.length, .inl (fun j => o.2.getD j 0))
  | .inr o => .inr (o.1, o.2.map (am_tr base b t))
def am_w (base b t : Nat) (cI cC : ClassId) (h : List am_E) : va_W := h.mapIdx (fun k e => (base + k, am_e base b t cI cC e))
theorem am_w_get (base b t : Nat) (cI cC : ClassId) (h : List am_E) (k : Nat) : (am_w base b t cI cC h)[k]? = (h[k]?).map (fun e => (base + k, am_e base b t cI cC e)) := by
  unfold am_w
  rw [List.getElem?_mapIdx]
theorem am_w_at {base b t : Nat} {cI cC : ClassId} {h : List am_E} {k : Nat} {e : am_E} (hk : h[k]? = some e) : (am_w base b t cI cC h)[k]? = some (base + k, am_e base b t cI cC e) := by
  rw [am_w_get, hk]
  rfl
def am_A (base : Nat) : Nat → Prop := fun q => base ≤ q
theorem am_w_D (base b t : Nat) (cI cC : ClassId) (h : List am_E) : va_D (am_A base) (am_w base b t cI cC h) := by
  refine ⟨fun i j p q hp hq e => ?_, fun k q hq => ?_⟩
  · rw [am_w_get] at hp hq
    obtain ⟨e1, -, rfl⟩ := Option.map_eq_some_iff.mp hp
    obtain ⟨e2, -, rfl⟩ := Option.map_eq_some_iff.mp hq
    exact Nat.add_left_cancel e
  · rw [am_w_get] at hq
    obtain ⟨e1, -, rfl⟩ := Option.map_eq_some_iff.mp hq
    exact Nat.le_add_right base k
theorem am_w_set (base b t : Nat) (cI cC : ClassId) (h : List am_E) (k : Nat) (e : am_E) : am_w base b t cI cC (h.set k e) = (am_w base b t cI cC h).set k (base + k, am_e base b t cI cC e) := by
  apply List.ext_getElem?
  intro j
  rw [am_w_get, List.getElem?_set, List.getElem?_set, am_w_get]
  have hlen : (am_w base b t cI cC h).length = h.length := by unfold am_w; rw [List.length_mapIdx]
  rw [hlen]
  by_cases hj : k = j
  · subst hj
    rw [if_pos rfl, if_pos rfl]
    by_cases hk : k < h.length
    · rw [if_pos hk, if_pos hk]
      rfl
    · rw [if_neg hk, if_neg hk]
      rfl
  · rw [if_neg hj, if_neg hj]
theorem am_w_push (base b t : Nat) (cI cC : ClassId) (h : List am_E) (e : am_E) : am_w base b t cI cC (h ++ [e]) = am_w base b t cI cC h ++ [(base + h.length, am_e base b t cI cC e)] := by
  unfold am_w
  rw [List.mapIdx_concat]
def am_Old (C : am_C) (base b t : Nat) (U : State) (H : Heap) : Prop :=
  va_X b (C.2.2.2.1.getD []).length (fun j => (C.2.2.2.1.getD []).getD j 0) U H ∧ b < base ∧ va_T .long t C.2.2.2.2.length (fun j => .long (C.2.2.2.2.getD j 0)) (am_A base) U H ∧ va_Z "BindingServer$Tokens" "WORDS" "[J" (.ref t) (am_A base) U H
theorem am_Old.moved {C : am_C} {base b t : Nat} {u U : State} {H : Heap} (hvm : u.vm.Alike U.vm) (h : am_Old C base b t u H) : am_Old C base b t U H := ⟨h.1.moved hvm, h.2.1, h.2.2.1.moved hvm, h.2.2.2.moved hvm⟩
theorem am_Old.kept {C : am_C} {base b t : Nat} {U : State} {H H1 : Heap} (h : am_Old C base b t U H) (hq : ∀ a : Nat, a < H.size → ¬ am_A base a → H1[a]? = H[a]?) : am_Old C base b t U H1 := by
  obtain ⟨h1, h2, h3, h4⟩ := h
  have hb : b < H.size := by
    obtain ⟨scr, q, -⟩ := h1
    exact (Array.getElem?_eq_some_iff.mp q).1
  exact ⟨h1.kept (hq b hb (Nat.not_le.mpr h2)), h2, h3.kept hq, h4.kept hq⟩
/-- what stays while a method runs -/
def am_F (C : am_C) (G : List Cond) (D : va_G) (cI cC : ClassId) (base b t : Nat) (p : Program) (s : State) (m : MethodId) (args : Array Value) (meth : Method) (c : Code) (M : am_M) : Prop :=
  p.tables.exec = Jvm.exec ∧ c.code = M.2.1 ∧ c.maxLocals = M.2.2.1 ∧ s.vm.findClass M.1.cls = some m.cls ∧ (∀ w ∈ G, w.before args s = true) ∧ meth.sig.returnType = M.2.2.2.1 ∧ meth.locks = false ∧ (M.1.name = "<init>" → meth.name = "<init>") ∧ va_K D C.2.1 [(cI, .int), (cC, .char)] s ∧ am_Old C base b t s s.heap ∧ base ≤ s.heap.size
/-- where it is -/
def am_N (C : am_C) (D : va_G) (cI cC : ClassId) (base b t : Nat) (s : State) (cells : Nat) (h : List am_E) (H : Heap) (locs : List Loc) : Prop := va_P D C.2.1 (am_w base b t cI cC h) H ∧ s.heap.size + cells = base + h.length ∧ va_S (am_A base) s.heap H locs
/-- no larger than what was made -/
theorem am_small {p : Program} {l : Launch} {e : Env} {R : Room} {s : State} {m : MethodId} {args : Array Value} {below : List Frame} {meth : Method} {c : Code} {H : Heap} {locs : List Loc} {cells slots : Nat} {Q : State → Prop} {g : JFrame} (k : H.size ≤ s.heap.size + cells → W p l e R s m args below meth c H locs cells slots Q g) : W p l e R s m args below meth c H locs cells slots Q g := fun T hT X => k (by
  have h3 : T.heap.size ≤ s.heap.size + cells := X.same.2.2.1
  rw [← hT]
  exact h3) T hT X
theorem am_N.size {C : am_C} {D : va_G} {cI cC : ClassId} {base b t : Nat} {s : State} {cells : Nat} {h : List am_E} {H : Heap} {locs : List Loc} (I : am_N C D cI cC base b t s cells h H locs) (hbs : base ≤ s.heap.size) (hz : H.size ≤ s.heap.size + cells) : H.size = base + h.length := by
  obtain ⟨h1, h2, h3⟩ := I
  apply Nat.le_antisymm
  · rw [← h2]; exact hz
  · cases hh : h.length with
    | zero => exact Nat.le_trans hbs h3.1
    | succ n =>
      have hlt : n < h.length := by omega
      have hq := (h1 n _ (am_w_at (List.getElem?_eq_getElem hlt))).lt
      have hq : base + n < H.size := hq
      omega
-- what the tables must say
def am_fl (C : am_C) (G : List Cond) (M : am_M) (k : Nat) (x : am_X) : Prop := ∃ q : vw_C, C.2.1[x.1]? = some q ∧ x.2.1 < q.2.2 ∧ Cond.fieldLink M.1.cls k q.1 (q.2.1 x.2.1).2.1 (q.2.1 x.2.1).2.2.1 ∈ G
abbrev am_pd (y : MethodName) (n : Nat) : Prop := (parseMethodDescriptor y.desc).map (fun d => d.parameters.length) = some n
def am_lo (C : am_C) (G : List Cond) (M : am_M) (pc : Nat) (i : Instr) (len : Nat) (x : am_X) : Prop := match i with
  | .iconst n => len = 1 ∧ x.2.2.2 = .int (Int32.ofInt n)
  | .bipush n => len = 2 ∧ x.2.2.2 = .int (Int8.ofInt n).toInt32
  | .sipush n => len = 3 ∧ x.2.2.2 = .int (Int16.ofInt n).toInt32
  | .lconst n => len = 1 ∧ x.2.2.2 = .long (Int64.ofNat (n : Nat))
  | .ldc2_w k => len = 3 ∧ ∃ v : Int64, x.2.2.2 = .long v ∧ Cond.constantLong M.1.cls k v ∈ G
  | .iload _ => len = 2
  | .lload _ => len = 2
  | .aload _ => len = 2
  | .istore_n k => len = 1 ∧ (k : Nat) < M.2.2.1
  | .istore k => len = 2 ∧ k < M.2.2.1
  | .lstore_n k => len = 1 ∧ (k : Nat) + 1 < M.2.2.1
  | .lstore k => len = 2 ∧ k + 1 < M.2.2.1
  | .astore_n k => len = 1 ∧ (k : Nat) < M.2.2.1
  | .astore k => len = 2 ∧ k < M.2.2.1
  | .iinc k _ => len = 3 ∧ k < M.2.2.1
  | .ifCond _ o => len = 3 ∧ (pc : Int) + o = (x.1 : Int)
  | .if_icmp _ o => len = 3 ∧ (pc : Int) + o = (x.1 : Int)
  | .goto o => len = 3 ∧ (pc : Int) + o = (x.1 : Int)
  | .tableswitch _ _ _ _ => True
  | .lookupswitch _ ps => (ps.toList.zip (ps.toList.drop 1)).all (fun (a, next) => a.1 < next.1) = true
  | .getfield k => len = 3 ∧ am_fl C G M k x
  | .putfield k => len = 3 ∧ am_fl C G M k x ∧ ∃ q : vw_C, C.2.1[x.1]? = some q ∧ ((q.2.1 x.2.1).2.2.2 = false ∨ (q.2.1 x.2.1).2.2.2 = true ∧ M.1.name = "<init>" ∧ q.1 = M.1.cls)
  | .getstatic k => len = 3 ∧ Cond.fieldLink M.1.cls k "BindingServer$Tokens" "WORDS" "[J" ∈ G
  | .newarray _ => len = 2
  | .new k => len = 3 ∧ ∃ q : vw_C, C.2.1[x.1]? = some q ∧ Cond.classLink M.1.cls k q.1 ∈ G
  | .invokevirtual k => len = 3 ∧ x.1 ≠ 0 ∧ ∃ (N : am_M) (ci : Nat) (q : vw_C), C.1[x.1]? = some N ∧ x.2.2.2 = .ref ci ∧ C.2.1[ci]? = some q ∧ q.1 = N.1.cls ∧ Cond.methodLink M.1.cls k N.1 ∈ G ∧ Cond.instanceMethod N.1 ∈ G ∧ Cond.selects N.1.cls N.1 N.1 ∈ G ∧ am_pd N.1 x.2.1
  | .invokespecial k => len = 3 ∧ (x.1 = 1002 ∧ Cond.methodLink M.1.cls k objectInit ∈ G ∨ x.1 ≠ 1002 ∧ x.1 ≠ 0 ∧ ∃ N : am_M, C.1[x.1]? = some N ∧ Cond.methodLink M.1.cls k N.1 ∈ G ∧ Cond.instanceMethod N.1 ∈ G ∧ N.1.name = "<init>" ∧ N.2.2.2.1 = none ∧ am_pd N.1 x.2.1)
  | .invokestatic k => len = 3 ∧ (x.1 = 1000 ∧ Cond.methodLink M.1.cls k Lib.Math.max.name ∈ G ∨ x.1 = 1001 ∧ Cond.methodLink M.1.cls k arraycopyName ∈ G ∨ x.1 ≠ 1000 ∧ x.1 ≠ 1001 ∧ x.1 ≠ 0 ∧ ∃ N : am_M, C.1[x.1]? = some N ∧ Cond.methodLink M.1.cls k N.1 ∈ G ∧ Cond.static N.1 ∈ G ∧ am_pd N.1 x.2.1)
  | _ => len = 1
def am_ok (C : am_C) (G : List Cond) (M : am_M) (q : am_I) : Prop := decode M.2.1 q.1 = .ok (q.2.1, q.2.2.1) ∧ am_lo C G M q.1 q.2.1 q.2.2.1 q.2.2.2
def am_mc (G : List Cond) (M : am_M) : Prop := Cond.code M.1 M.2.1 M.2.2.1 M.2.2.2.1 ∈ G ∧ Cond.initialized M.1.cls ∈ G ∧ plainName M.1.cls = true ∧ (M.1.cls ≠ "java/lang/invoke/MethodHandle" ∧ M.1.cls ≠ "java/lang/invoke/VarHandle") ∧ M.2.2.1 ≤ 45
def am_co (C : am_C) (G : List Cond) (ci : Nat) (q : vw_C) : Prop := (∀ w ∈ u_ws q.1 q.2.1 q.2.2, w ∈ G) ∧ (∀ k, k < q.2.2 → parseFieldDescriptor (q.2.1 k).2.2.1 = some (C.2.2.1 ci k)) ∧ (∀ a, a < q.2.2 → ∀ b, b < q.2.2 → a ≠ b → (q.2.1 a).2.1 ≠ (q.2.1 b).2.1) ∧ Cond.instantiable q.1 q.2.2 ∈ G ∧ Cond.initialized q.1 ∈ G ∧ (∀ k, k < q.2.2 → (q.2.1 k).1 = q.1)
def am_go (G : List Cond) : Prop := (∀ w ∈ G, ((w.onTables && w.keeps) = true ∨ ∃ ty, w = .arrayClass ty)) ∧ Cond.instanceMethod objectInit ∈ G ∧ Cond.code objectInit ⟨#[0xb1]⟩ 1 none ∈ G ∧ Cond.static Lib.Math.max.name ∈ G ∧ Cond.initialized "java/lang/Math" ∈ G ∧ Cond.code Lib.Math.max.name Lib.Math.max.code 2 (some .int) ∈ G ∧ Cond.native arraycopyName ∈ G ∧ Cond.static arraycopyName ∈ G ∧ Cond.initialized "java/lang/System" ∈ G ∧ Cond.arrayClass .int ∈ G ∧ Cond.arrayClass .char ∈ G
def am_OK (C : am_C) (G : List Cond) : Prop := am_go G ∧ (∀ (ci : Nat) (q : vw_C), C.2.1[ci]? = some q → am_co C G ci q) ∧ ∀ (mi : Nat) (M : am_M), C.1[mi]? = some M → (∀ q ∈ M.2.2.2.2, am_ok C G M q) ∧ (mi ≠ 0 → am_mc G M)
theorem am_ix_mem {l : List am_I} {pc : Nat} {q : Instr × Nat × am_X} (h : am_ix l pc = some q) : (pc, q) ∈ l := by
  induction l with
  | nil => cases h
  | cons a r ih =>
    obtain ⟨j, w⟩ := a
    have h2 : (bif j == pc then some w else am_ix r pc) = some q := h
    clear h
    cases hq : (j == pc) with
    | true =>
      rw [hq, cond_true] at h2
      have e := eq_of_beq hq
      subst e
      cases h2
      exact List.mem_cons_self
    | false =>
      rw [hq, cond_false] at h2
      exact List.mem_cons_of_mem _ (ih h2)
theorem am_fi_ok (base b t : Nat) {ty : FieldType} {v : Value} (h : am_fi ty v = true) : narrow ty (am_tr base b t v) = am_tr base b t v ∧ fits ty (am_tr base b t v) = true := by
  cases ty with
  | int =>
    cases v with
    | int n => exact ⟨rfl, rfl⟩
    | _ => cases h
  | boolean =>
    cases v with
    | int n =>
      have h : (decide (n = 0) || decide (n = 1)) = true := h
      rw [Bool.or_eq_true, decide_eq_true_eq, decide_eq_true_eq] at h
      rcases h with rfl | rfl
      · exact ⟨(by decide +kernel : narrow .boolean (.int 0) = .int 0), (by decide +kernel : fits .boolean (.int 0) = true)⟩
      · exact ⟨(by decide +kernel : narrow .boolean (.int 1) = .int 1), (by decide +kernel : fits .boolean (.int 1) = true)⟩
    | _ => cases h
  | object n =>
    cases v with
    | ref a =>
      match a with
      | 0 => exact ⟨rfl, rfl⟩
      | 1 => exact ⟨rfl, rfl⟩
      | k + 2 => exact ⟨rfl, rfl⟩
    | _ => cases h
  | array n =>
    cases v with
    | ref a =>
      match a with
      | 0 => exact ⟨rfl, rfl⟩
      | 1 => exact ⟨rfl, rfl⟩
      | k + 2 => exact ⟨rfl, rfl⟩
    | _ => cases h
  | _ => cases h
theorem am_ob_at {h : List am_E} {a : Nat} {o : Nat × List Value} (e : am_ob h a = some o) : ∃ k, a = k + 2 ∧ h[k]? = some (.inr o) := by
  match a with
  | 0 => cases e
  | 1 => cases e
  | k + 2 =>
    refine ⟨k, rfl, ?_⟩
    have e : (match h[k]? with
      | some (.inr o) => some o
      | _ => none) = some o := e
    split at e
    next q hq => cases e; exact hq
    next => cases e
theorem am_ar_at {h : List am_E} {a : Nat} {o : Bool × List Int32} (e : am_ar h a = some o) : ∃ k, a = k + 2 ∧ h[k]? = some (.inl o) := by
  match a with
  | 0 => cases e
  | 1 => cases e
  | k + 2 =>
    refine ⟨k, rfl, ?_⟩
    have e : (match h[k]? with
      | some (.inl o) => some o
      | _ => none) = some o := e
    split at e
    next q hq => cases e; exact hq
    next => cases e
theorem am_to_eq {pc : Nat} {o : Int} {tgt : Nat} (h : am_to pc o = some tgt) : (pc : Int) + o = (tgt : Int) := by
  unfold am_to at h
  split at h
  next k hk => cases h; exact hk
  next => cases h
