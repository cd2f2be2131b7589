/-! THE ABSTRACT MACHINE. Its heap: a list of cells; an array of ints (false) or chars (true), or an object (the number of its kind, its fields). Its addresses: 0 the script, 1 the table of words, k + 2 the cell k. -/
abbrev am_E : Type := (Bool × List Int32) ⊕ (Nat × List Value)
/-- what an instruction links to: two numbers, the place of its word in the tables, a constant -/
abbrev am_X : Type := Nat × Nat × Nat × Value
abbrev am_I : Type := Nat × Instr × Nat × am_X
abbrev am_M : Type := MethodName × ByteArray × Nat × Option FieldType × List am_I
/-- methods, classes, types of their fields, the script (none: it isn't looked at), the table of words -/
abbrev am_C : Type := List am_M × List vw_C × (Nat → Nat → FieldType) × Option (List Int32) × List Int64
abbrev am_V : Type := List (Nat × Value)
abbrev am_Z : Type := Nat × am_V × List Value × List am_E
def am_ix : List am_I → Nat → Option (Instr × Nat × am_X)
  | [], _ => none
  | q :: r, pc => bif q.1 == pc then some q.2 else am_ix r pc
def am_at (C : am_C) (mi pc : Nat) : Option (Instr × Nat × am_X) := match C.1[mi]? with
  | some M => am_ix M.2.2.2.2 pc
  | none => none
def am_rt (C : am_C) (mi : Nat) : Option FieldType := match C.1[mi]? with
  | some M => M.2.2.2.1
  | none => none
def am_ob (h : List am_E) (a : Nat) : Option (Nat × List Value) := match a with
  | k + 2 => (match h[k]? with
    | some (.inr o) => some o
    | _ => none)
  | _ => none
def am_ar (h : List am_E) (a : Nat) : Option (Bool × List Int32) := match a with
  | k + 2 => (match h[k]? with
    | some (.inl o) => some o
    | _ => none)
  | _ => none
def am_lk : am_V → Nat → Option Value
  | [], _ => none
  | q :: r, i => bif q.1 == i then some q.2 else am_lk r i
def am_c2 (lv : am_V) (i : Nat) : Bool := match i with
  | 0 => false
  | j + 1 => (match am_lk lv j with
    | some v => v.category == 2
    | none => false)
def am_s1 (lv : am_V) (i : Nat) (v : Value) : am_V := (i, v) :: lv.filter (fun q => !(q.1 == i) && !(q.1 + 1 == i && (q.2.category == 2 || am_c2 lv i)))
def am_s2 (lv : am_V) (i : Nat) (v : Value) : am_V := (i, v) :: lv.filter (fun q => !(q.1 == i) && (!(q.1 == i + 1) && !(q.1 + 1 == i && (q.2.category == 2 || am_c2 lv i))))
def am_ca (st : List Value) : Nat := (st.map fun v => v.category).sum
def am_if (c : ClassFile.Cond) (x y : Int32) : Bool := match c with
  | .eq => decide (x = y)
  | .ne => decide (¬ x = y)
  | .lt => decide (x < y)
  | .ge => decide (y ≤ x)
  | .gt => decide (y < x)
  | .le => decide (x ≤ y)
def am_to (pc : Nat) (o : Int) : Option Nat := match (pc : Int) + o with
  | .ofNat t => some t
  | .negSucc _ => none
/-- does a value fit a field of the type -/
def am_fi (ty : FieldType) (v : Value) : Bool := match ty with
  | .int => (match v with
    | .int _ => true
    | _ => false)
  | .boolean => (match v with
    | .int n => decide (n = 0) || decide (n = 1)
    | _ => false)
  | .object _ => (match v with
    | .ref _ => true
    | _ => false)
  | .array _ => (match v with
    | .ref _ => true
    | _ => false)
  | _ => false
-- the kinds of steps
def am_ii (f : Int32 → Int32 → Option Int32) (pc : Nat) (lv : am_V) (st : List Value) (h : List am_E) : Option am_Z := match st with
  | .int y :: .int x :: r => (match f x y with
    | some v => some (pc + 1, lv, .int v :: r, h)
    | none => none)
  | _ => none
def am_ll (f : Int64 → Int64 → Value) (pc : Nat) (lv : am_V) (st : List Value) (h : List am_E) : Option am_Z := match st with
  | .long y :: .long x :: r => some (pc + 1, lv, f x y :: r, h)
  | _ => none
def am_li (f : Int64 → Int32 → Int64) (pc : Nat) (lv : am_V) (st : List Value) (h : List am_E) : Option am_Z := match st with
  | .int y :: .long x :: r => some (pc + 1, lv, .long (f x y) :: r, h)
  | _ => none
def am_ui (f : Int32 → Value) (pc : Nat) (lv : am_V) (st : List Value) (h : List am_E) : Option am_Z := match st with
  | .int x :: r => some (pc + 1, lv, f x :: r, h)
  | _ => none
def am_ul (f : Int64 → Value) (pc : Nat) (lv : am_V) (st : List Value) (h : List am_E) : Option am_Z := match st with
  | .long x :: r => some (pc + 1, lv, f x :: r, h)
  | _ => none
def am_li1 (lv : am_V) (i pc : Nat) (st : List Value) (h : List am_E) : Option am_Z := match am_lk lv i with
  | some (.int v) => some (pc, lv, .int v :: st, h)
  | _ => none
def am_ll1 (lv : am_V) (i pc : Nat) (st : List Value) (h : List am_E) : Option am_Z := match am_lk lv i with
  | some (.long v) => some (pc, lv, .long v :: st, h)
  | _ => none
def am_la1 (lv : am_V) (i pc : Nat) (st : List Value) (h : List am_E) : Option am_Z := match am_lk lv i with
  | some (.ref v) => some (pc, lv, .ref v :: st, h)
  | _ => none
def am_si1 (lv : am_V) (i pc : Nat) (st : List Value) (h : List am_E) : Option am_Z := match st with
  | .int v :: r => some (pc, am_s1 lv i (.int v), r, h)
  | _ => none
def am_sl1 (lv : am_V) (i pc : Nat) (st : List Value) (h : List am_E) : Option am_Z := match st with
  | .long v :: r => some (pc, am_s2 lv i (.long v), r, h)
  | _ => none
def am_sa1 (lv : am_V) (i pc : Nat) (st : List Value) (h : List am_E) : Option am_Z := match st with
  | .ref v :: r => some (pc, am_s1 lv i (.ref v), r, h)
  | _ => none
def am_inc (lv : am_V) (i : Nat) (n : Int) (pc : Nat) (st : List Value) (h : List am_E) : Option am_Z := match am_lk lv i with
  | some (.int v) => some (pc + 3, am_s1 lv i (.int (v + Int32.ofInt n)), st, h)
  | _ => none
def am_b1 (c : ClassFile.Cond) (tgt pc : Nat) (lv : am_V) (st : List Value) (h : List am_E) : Option am_Z := match st with
  | .int x :: r => some (bif am_if c x 0 then tgt else pc + 3, lv, r, h)
  | _ => none
def am_b2 (c : ClassFile.Cond) (tgt pc : Nat) (lv : am_V) (st : List Value) (h : List am_E) : Option am_Z := match st with
  | .int y :: .int x :: r => some (bif am_if c x y then tgt else pc + 3, lv, r, h)
  | _ => none
def am_ts (dflt lo hi : Int) (offs : Array Int) (pc : Nat) (x : Int32) : Option Nat :=
  if x.toInt < lo ∨ hi < x.toInt then am_to pc dflt else (match offs[(x.toInt - lo).toNat]? with
    | some o => am_to pc o
    | none => none)
def am_sw (f : Int32 → Option Nat) (lv : am_V) (st : List Value) (h : List am_E) : Option am_Z := match st with
  | .int x :: r => (match f x with
    | some tgt => some (tgt, lv, r, h)
    | none => none)
  | _ => none
def am_dup (pc : Nat) (lv : am_V) (st : List Value) (h : List am_E) : Option am_Z := match st with
  | v :: r => bif v.category == 1 then some (pc + 1, lv, v :: v :: r, h) else none
  | _ => none
def am_pop (pc : Nat) (lv : am_V) (st : List Value) (h : List am_E) : Option am_Z := match st with
  | v :: r => bif v.category == 1 then some (pc + 1, lv, r, h) else none
  | _ => none
def am_get (ci k pc : Nat) (lv : am_V) (st : List Value) (h : List am_E) : Option am_Z := match st with
  | .ref a :: r => (match am_ob h a with
    | some o => bif o.1 == ci then (match o.2[k]? with
      | some v => some (pc + 3, lv, v :: r, h)
      | none => none) else none
    | none => none)
  | _ => none
def am_put (ty : FieldType) (ci k pc : Nat) (lv : am_V) (st : List Value) (h : List am_E) : Option am_Z := match st with
  | v :: .ref a :: r => (match am_ob h a with
    | some o => bif o.1 == ci && (decide (k < o.2.length) && am_fi ty v) then some (pc + 3, lv, r, h.set (a - 2) (.inr (ci, o.2.set k v))) else none
    | none => none)
  | _ => none
def am_ld (tg : Bool) (xs : Option (List Int32)) (pc : Nat) (lv : am_V) (st : List Value) (h : List am_E) : Option am_Z := match st with
  | .int i :: .ref a :: r => bif decide (i < 0) then none else (match a with
    | 0 => bif tg then none else (match xs.bind (fun l => l[i.toNatClampNeg]?) with
      | some v => some (pc + 1, lv, .int v :: r, h)
      | none => none)
    | a => (match am_ar h a with
      | some o => bif o.1 == tg then (match o.2[i.toNatClampNeg]? with
        | some v => some (pc + 1, lv, .int v :: r, h)
        | none => none) else none
      | none => none))
  | _ => none
def am_lld (wd : List Int64) (pc : Nat) (lv : am_V) (st : List Value) (h : List am_E) : Option am_Z := match st with
  | .int i :: .ref 1 :: r => bif decide (i < 0) then none else (match wd[i.toNatClampNeg]? with
    | some v => some (pc + 1, lv, .long v :: r, h)
    | none => none)
  | _ => none
def am_sto (tg : Bool) (pc : Nat) (lv : am_V) (st : List Value) (h : List am_E) : Option am_Z := match st with
  | .int v :: .int i :: .ref a :: r => (match am_ar h a with
    | some o => bif o.1 == tg && (!decide (i < 0) && decide (i.toNatClampNeg < o.2.length)) then
        some (pc + 1, lv, r, h.set (a - 2) (.inl (tg, o.2.set i.toNatClampNeg (bif tg then vp_nar .char v else v)))) else none
    | none => none)
  | _ => none
def am_len (xs : Option (List Int32)) (wd : List Int64) (pc : Nat) (lv : am_V) (st : List Value) (h : List am_E) : Option am_Z := match st with
  | .ref a :: r => (match a with
    | 0 => (match xs with
      | some l => some (pc + 1, lv, .int (Int32.ofNat l.length) :: r, h)
      | none => none)
    | 1 => some (pc + 1, lv, .int (Int32.ofNat wd.length) :: r, h)
    | a => (match am_ar h a with
      | some o => some (pc + 1, lv, .int (Int32.ofNat o.2.length) :: r, h)
      | none => none))
  | _ => none
def am_max (d pc : Nat) (lv : am_V) (st : List Value) (h : List am_E) : Option am_Z := match st with
  | .int y :: .int x :: r => bif decide (1 ≤ d) && decide (am_ca r ≤ 8) then some (pc + 3, lv, .int (if x < y then y else x) :: r, h) else none
  | _ => none
def am_oi (d pc : Nat) (lv : am_V) (st : List Value) (h : List am_E) : Option am_Z := match st with
  | .ref _ :: r => bif decide (1 ≤ d) && decide (am_ca r ≤ 8) then some (pc + 3, lv, r, h) else none
  | _ => none
/-- n values of f from place sp on, laid into g from place dp on -/
def am_cp (f g : List Int32) (sp dp n : Nat) : List Int32 := g.take dp ++ ((f.drop sp).take n ++ g.drop (dp + n))
def am_acp (d pc : Nat) (lv : am_V) (st : List Value) (h : List am_E) : Option am_Z := match st with
  | .int n :: .int dp :: .ref a :: .int sp :: .ref b :: r => (match am_ar h a, am_ar h b with
    | some o, some q => bif (o.1 && q.1) && ((decide (1 ≤ d) && decide (am_ca r ≤ 8)) && ((!decide (sp < 0) && (!decide (dp < 0) && !decide (n < 0))) && ((decide (sp.toNatClampNeg + n.toNatClampNeg ≤ q.2.length) && decide (dp.toNatClampNeg + n.toNatClampNeg ≤ o.2.length)) && ((q.2.drop sp.toNatClampNeg).take n.toNatClampNeg).all (fun z => fits .char (.int z))))) then
        some (pc + 3, lv, r, h.set (a - 2) (.inl (true, am_cp q.2 o.2 sp.toNatClampNeg dp.toNatClampNeg n.toNatClampNeg))) else none
    | _, _ => none)
  | _ => none
def am_cal (C : am_C) (cal : Nat) (vs rest : List Value) : Option (Nat × List Value × List Value) := match C.1[cal]? with
  | some M => bif decide ((lg_sl vs).length ≤ M.2.2.1) && decide (am_ca rest ≤ 8) then some (cal, vs, rest) else none
  | none => none
def am_cv (C : am_C) (cal n ci : Nat) (st : List Value) (h : List am_E) : Option (Nat × List Value × List Value) := match st.drop n with
  | .ref a :: r => (match am_ob h a with
    | some o => bif o.1 == ci then am_cal C cal (.ref a :: (st.take n).reverse) r else none
    | none => none)
  | _ => none
def am_ci (C : am_C) (cal n : Nat) (st : List Value) : Option (Nat × List Value × List Value) := match st.drop n with
  | .ref a :: r => am_cal C cal (.ref a :: (st.take n).reverse) r
  | _ => none
def am_cs (C : am_C) (cal n : Nat) (st : List Value) : Option (Nat × List Value × List Value) := bif decide (n ≤ st.length) then am_cal C cal (st.take n).reverse (st.drop n) else none
def am_na (ty : ArrayType) (pc : Nat) (st : List Value) : Option (Nat × List Value × am_E × Nat) := match st with
  | .int n :: r => bif !decide (n < 0) && decide (n.toNatClampNeg ≤ 100000) then (match ty with
    | .int => some (pc + 2, r, .inl (false, List.replicate n.toNatClampNeg 0), n.toNatClampNeg)
    | .char => some (pc + 2, r, .inl (true, List.replicate n.toNatClampNeg 0), n.toNatClampNeg)
    | _ => none) else none
  | _ => none
def am_new (C : am_C) (ci pc : Nat) (st : List Value) : Option (Nat × List Value × am_E × Nat) := match C.2.1[ci]? with
  | some q => some (pc + 3, st, .inr (ci, (List.range q.2.2).map (fun j => defaultValue (C.2.2.1 ci j))), q.2.2)
  | none => none
def am_ri (ret : Option FieldType) (st : List Value) : Option (Option Value) := match st with
  | [.int v] => (match ret with
    | some .int => some (some (.int v))
    | some .boolean => bif decide (v = 0) || decide (v = 1) then some (some (.int v)) else none
    | _ => none)
  | _ => none
def am_rl (ret : Option FieldType) (st : List Value) : Option (Option Value) := match st with
  | [.long v] => (match ret with
    | some .long => some (some (.long v))
    | _ => none)
  | _ => none
def am_rv (ret : Option FieldType) (st : List Value) : Option (Option Value) := match st with
  | [] => (match ret with
    | none => some none
    | _ => none)
  | _ => none
/-- which kind an instruction is of: a step, a call, a making, an end -/
def am_kd (i : Instr) (x : am_X) : Nat := match i with
  | .invokevirtual _ => 1
  | .invokespecial _ => bif x.1 == 1002 then 0 else 1
  | .invokestatic _ => bif x.1 == 1000 then 0 else bif x.1 == 1001 then 0 else 1
  | .newarray _ => 2
  | .new _ => 2
  | .ireturn => 3
  | .lreturn => 3
  | .return_ => 3
  | _ => 0
/-- one instruction -/
def am_do (C : am_C) (d : Nat) (i : Instr) (x : am_X) (pc : Nat) (lv : am_V) (st : List Value) (h : List am_E) : Option am_Z := match i with
  | .iconst _ => some (pc + 1, lv, x.2.2.2 :: st, h)
  | .bipush _ => some (pc + 2, lv, x.2.2.2 :: st, h)
  | .sipush _ => some (pc + 3, lv, x.2.2.2 :: st, h)
  | .lconst _ => some (pc + 1, lv, x.2.2.2 :: st, h)
  | .ldc2_w _ => some (pc + 3, lv, x.2.2.2 :: st, h)
  | .iload_n k => am_li1 lv k (pc + 1) st h
  | .iload k => am_li1 lv k (pc + 2) st h
  | .lload_n k => am_ll1 lv k (pc + 1) st h
  | .lload k => am_ll1 lv k (pc + 2) st h
  | .aload_n k => am_la1 lv k (pc + 1) st h
  | .aload k => am_la1 lv k (pc + 2) st h
  | .istore_n k => am_si1 lv k (pc + 1) st h
  | .istore k => am_si1 lv k (pc + 2) st h
  | .lstore_n k => am_sl1 lv k (pc + 1) st h
  | .lstore k => am_sl1 lv k (pc + 2) st h
  | .astore_n k => am_sa1 lv k (pc + 1) st h
  | .astore k => am_sa1 lv k (pc + 2) st h
  | .iinc k n => am_inc lv k n pc st h
  | .iadd => am_ii (fun x y => some (x + y)) pc lv st h
  | .isub => am_ii (fun x y => some (x - y)) pc lv st h
  | .imul => am_ii (fun x y => some (x * y)) pc lv st h
  | .iand => am_ii (fun x y => some (x &&& y)) pc lv st h
  | .ior => am_ii (fun x y => some (x ||| y)) pc lv st h
  | .idiv => am_ii (fun x y => if y = 0 then none else some (x / y)) pc lv st h
  | .irem => am_ii (fun x y => if y = 0 then none else some (x - x / y * y)) pc lv st h
  | .ladd => am_ll (fun x y => .long (x + y)) pc lv st h
  | .lmul => am_ll (fun x y => .long (x * y)) pc lv st h
  | .land => am_ll (fun x y => .long (x &&& y)) pc lv st h
  | .lor => am_ll (fun x y => .long (x ||| y)) pc lv st h
  | .lcmp => am_ll (fun x y => .int (lg_cmp x y)) pc lv st h
  | .lshl => am_li (fun x y => x <<< (y.toInt64 &&& 63)) pc lv st h
  | .lushr => am_li (fun x y => (x.toUInt64 >>> (y.toInt64.toUInt64 &&& Int64.toUInt64 63)).toInt64) pc lv st h
  | .i2l => am_ui (fun x => .long x.toInt64) pc lv st h
  | .i2c => am_ui (fun x => .int (x.toUInt32 % 65536).toInt32) pc lv st h
  | .l2i => am_ul (fun x => .int x.toInt32) pc lv st h
  | .ifCond c _ => am_b1 c x.1 pc lv st h
  | .if_icmp c _ => am_b2 c x.1 pc lv st h
  | .goto _ => some (x.1, lv, st, h)
  | .tableswitch dflt lo hi offs => am_sw (am_ts dflt lo hi offs pc) lv st h
  | .lookupswitch dflt ps => am_sw (fun a => am_to pc (Op.lookupswitch.offset ps.toList dflt a.toInt)) lv st h
  | .dup => am_dup pc lv st h
  | .pop => am_pop pc lv st h
  | .getfield _ => am_get x.1 x.2.1 pc lv st h
  | .putfield _ => am_put (C.2.2.1 x.1 x.2.1) x.1 x.2.1 pc lv st h
  | .getstatic _ => some (pc + 3, lv, .ref 1 :: st, h)
  | .iaload => am_ld false C.2.2.2.1 pc lv st h
  | .caload => am_ld true C.2.2.2.1 pc lv st h
  | .laload => am_lld C.2.2.2.2 pc lv st h
  | .iastore => am_sto false pc lv st h
  | .castore => am_sto true pc lv st h
  | .arraylength => am_len C.2.2.2.1 C.2.2.2.2 pc lv st h
  | .invokespecial _ => am_oi d pc lv st h
  | .invokestatic _ => bif x.1 == 1000 then am_max d pc lv st h else am_acp d pc lv st h
  | _ => none
def am_dc (C : am_C) (i : Instr) (x : am_X) (st : List Value) (h : List am_E) : Option (Nat × List Value × List Value) := match i with
  | .invokevirtual _ => (match x.2.2.2 with
    | .ref ci => am_cv C x.1 x.2.1 ci st h
    | _ => none)
  | .invokespecial _ => am_ci C x.1 x.2.1 st
  | .invokestatic _ => am_cs C x.1 x.2.1 st
  | _ => none
def am_dn (C : am_C) (i : Instr) (x : am_X) (pc : Nat) (st : List Value) : Option (Nat × List Value × am_E × Nat) := match i with
  | .newarray ty => am_na ty pc st
  | .new _ => am_new C x.1 pc st
  | _ => none
def am_dr (ret : Option FieldType) (i : Instr) (st : List Value) : Option (Option Value) := match i with
  | .ireturn => am_ri ret st
  | .lreturn => am_rl ret st
  | .return_ => am_rv ret st
  | _ => none
/-- a method's run from a frame of its own: with fuel n and d frames left; what it returns, the heap, cells and slots made -/
def am_run (C : am_C) : Nat → Nat → Nat → Nat → am_V → List Value → List am_E → Option (Option Value × List am_E × Nat × Nat)
  | 0, _, _, _, _, _, _ => none
  | n + 1, d, mi, pc, lv, st, h => match am_at C mi pc with
    | none => none
    | some q => match am_kd q.1 q.2.2 with
      | 0 => (match am_do C d q.1 q.2.2 pc lv st h with
        | none => none
        | some r => am_run C n d mi r.1 r.2.1 r.2.2.1 r.2.2.2)
      | 1 => (match am_dc C q.1 q.2.2 st h with
        | none => none
        | some r => match d with
          | 0 => none
          | d1 + 1 => match am_run C n d1 r.1 0 (lv_args 0 r.2.1) [] h with
            | none => none
            | some o => match am_run C n (d1 + 1) mi (pc + 3) lv (o.1.toList ++ r.2.2) o.2.1 with
              | none => none
              | some z => some (z.1, z.2.1, o.2.2.1 + z.2.2.1, o.2.2.2 + z.2.2.2))
      | 2 => (match am_dn C q.1 q.2.2 pc st with
        | none => none
        | some r => match am_run C n d mi r.1 lv (.ref (h.length + 2) :: r.2.1) (h ++ [r.2.2.1]) with
          | none => none
          | some z => some (z.1, z.2.1, 1 + z.2.2.1, r.2.2.2 + z.2.2.2))
      | _ => (match am_dr (am_rt C mi) q.1 st with
        | none => none
        | some r => some (r, h, 0, 0))
