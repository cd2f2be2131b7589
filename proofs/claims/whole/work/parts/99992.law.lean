/-! THE CLAIM OUT OF ONE WALK OF THE LAW'S BODY. Your part is whole_start (and what it stands on); all else here is the same for every law, but numbers. -/
def R_law : String := "BindingServerLaw"
def lw_P (b : Addr) (xs : List Int32) (args : Array Value) (s : State) : Prop := args = #[.ref b] ∧ s.IntsAt b xs ∧ xs.length ≤ 2560 ∧ (Jvm.Cond.and given_1 narrow_1).before args s = true
def lw_Q (_ : Array Value) (s : State) (o : Outcome) (t : State) : Prop := o = .returned (some (.int 1)) ∧ Framed s o t [] 600000 7302250
def lw_Z (below : List Frame) (a : Array Value) (s : State) : State → Prop := fun t => ∃ o, t.status = .running ∧ Ended t below o ∧ lw_Q a s o t
/-- the law's own end, with 1 on the stack, nothing written that was there before, its room as the claim has it -/
theorem lw_ret {p : Program} {l : Launch} {e : Env} {s : State} {m : MethodId} {below : List Frame} {meth : Method} {c : Code} {b : Nat} (hx : p.tables.exec = Jvm.exec) (hb : c.code = code) (hr : meth.sig.returnType = ret) (hlocks : meth.locks = false) {pc : Nat} {H : Heap} {ls : Array Slot} (hdg : decode code pc = .ok (.ireturn, 1)) : W p l e room_1 s m #[Value.ref b] below meth c H [] 600000 7302250 (lw_Z below #[Value.ref b] s) (F0 m pc ls [.int 1]) := by
  intro T hT X
  obtain ⟨fs, hret, hrun, hended, hW, hframe⟩ := X.leave (v := some (.int 1)) (hlocks := hlocks) (fun h => by rw [hr] at h; cases h)
  have hmeth' : T.vm.method? m = some meth := X.method'
  refine ⟨T.setFrames fs, ?_, .returned (some (.int 1)), hrun, hended, rfl, ⟨_, rfl⟩, hW, hframe⟩
  jvm_step X.here [X.here.top, hx, hb, hdg, hmeth', hr, ret, narrow_b1]
  (try refine ⟨rfl, ?_⟩); (try refine ⟨rfl, ?_⟩)
  first | (intro acts; rw [hret _ acts rfl rfl rfl]) | rw [hret _ _ rfl rfl rfl]
  exact Steps.refl _
/-- what holds at the law's entry: the machine, the code, the tables' words (any of lw_tbl by 'hts w (by decide +kernel)'), the script of L ints xs at the cell b, what the Statement gives of the start (any of its parts by flat_of_before) -/
def lw_At (p : Program) (s : State) (m : MethodId) (meth : Method) (c : Code) (b L : Nat) (xs : Nat → Int32) : Prop :=
  p.tables.exec = Jvm.exec ∧ c.code = code ∧ meth.sig.returnType = ret ∧ c.maxLocals = 4 ∧ s.vm.findClass R_law = some m.cls ∧ (∀ w ∈ lw_tbl, w.before #[Value.ref b] s = true) ∧ va_X b L xs s s.heap ∧ b < s.heap.size ∧ meth.locks = false ∧ (Jvm.Cond.and given_1 narrow_1).before #[Value.ref b] s = true
/-- a run of the abstract machine from the law's entry is a walk of the law's body -/
theorem am_start {p : Program} {e : Env} {s : State} {m : MethodId} {below : List Frame} {meth : Method} {c : Code} (l : Launch) {b L : Nat} {xs : Nat → Int32} (C0 : lw_At p s m meth c b L xs) {d nc ns : Nat} {h1 : List am_E} (hd : d ≤ 1000) (hnc : nc ≤ 600000) (hns : ns ≤ 7302250) (hg : am_G (am_CX (some ((List.range L).map xs))) d 0 0 [(0, .ref 0)] [] [] (some (.int 1), h1, nc, ns)) :
    W p l e room_1 s m #[Value.ref b] below meth c s.heap [] 0 0 (lw_Z below #[Value.ref b] s) (entryFrame m ([Value.ref b] : List Value).toArray 4) := by
  obtain ⟨hx, hb, hr, hml, hown, hts, hX, hbl, hlk, hgv⟩ := C0
  obtain ⟨n, hn⟩ := hg
  have hG : ∀ w ∈ am_GG, w.before #[Value.ref b] s = true := fun w hw => hts w (List.mem_filter.mp hw).1
  have hK0 : ∀ ci : Nat, ∃ z : ClassId × (Nat → Nat), ∀ q : vw_C, am_cl[ci]? = some q → u_Kn s q.1 q.2.1 q.2.2 z.1 z.2 := by
    intro ci
    cases hq : am_cl[ci]? with
    | none => exact ⟨(0, fun _ => 0), fun q h => by cases h⟩
    | some q =>
      have hc := am_call none ci q hq
      obtain ⟨cC, iS, h⟩ := u_known hG hc.1 (hG _ hc.2.2.2.1)
      exact ⟨(cC, iS), fun q' h' => by cases h'; exact h⟩
  obtain ⟨f, hf⟩ := Classical.skolem.mp hK0
  obtain ⟨cI, kI, pI, i1, i2, i3⟩ := Cond.arrayClass_spec (hG _ am_gog.2.2.2.2.2.2.2.2.2.1)
  obtain ⟨cC, kC, pC, j1, j2, j3⟩ := Cond.arrayClass_spec (hG _ am_gog.2.2.2.2.2.2.2.2.2.2)
  have hK : va_K (fun c => (f c).1, fun c => (f c).2) am_cl [(cI, .int), (cC, .char)] s := by
    refine ⟨fun c q hq => hf c q hq, fun k q hk => ?_⟩
    match k, hk with
    | 0, hk =>
      cases hk
      exact ⟨fun n z => ⟨fun k h => (by cases h), kI, i2, pI, i3⟩, i1⟩
    | 1, hk =>
      cases hk
      exact ⟨fun n z => ⟨fun k h => (by cases h), kC, j2, pC, j3⟩, j1⟩
    | k + 2, hk => simp at hk
  have hs := flat_of_before _ hgv
  have hlen : (Term.length (.static "BindingServer$Tokens" "WORDS" "[J")).eval #[Value.ref b] s none [] s = some (.int (Int32.ofNat 14)) := va_eqt (z := 14) (hs (Cond.eq (.length (.static "BindingServer$Tokens" "WORDS" "[J")) (.int 14)) (by decide +kernel))
  have hel : ∀ j : Nat, j < 14 → (Term.elem (.static "BindingServer$Tokens" "WORDS" "[J") (.int (Int32.ofNat j))).eval #[Value.ref b] s none [] s = some (.long (am_wd.getD j 0)) := by
    intro j hj
    match j, hj with
    | 0, _ => exact va_eqtl (hs (Cond.eq (.elem (.static "BindingServer$Tokens" "WORDS" "[J") (.int 0)) (.long 427020088179)) (by decide +kernel))
    | 1, _ => exact va_eqtl (hs (Cond.eq (.elem (.static "BindingServer$Tokens" "WORDS" "[J") (.int 1)) (.long 6579558)) (by decide +kernel))
    | 2, _ => exact va_eqtl (hs (Cond.eq (.elem (.static "BindingServer$Tokens" "WORDS" "[J") (.int 2)) (.long 6579564)) (by decide +kernel))
    | 3, _ => exact va_eqtl (hs (Cond.eq (.elem (.static "BindingServer$Tokens" "WORDS" "[J") (.int 3)) (.long 1701606245)) (by decide +kernel))
    | 4, _ => exact va_eqtl (hs (Cond.eq (.elem (.static "BindingServer$Tokens" "WORDS" "[J") (.int 4)) (.long 6713202)) (by decide +kernel))
    | 5, _ => exact va_eqtl (hs (Cond.eq (.elem (.static "BindingServer$Tokens" "WORDS" "[J") (.int 5)) (.long 113715422847340)) (by decide +kernel))
    | 6, _ => exact va_eqtl (hs (Cond.eq (.elem (.static "BindingServer$Tokens" "WORDS" "[J") (.int 6)) (.long 26982)) (by decide +kernel))
    | 7, _ => exact va_eqtl (hs (Cond.eq (.elem (.static "BindingServer$Tokens" "WORDS" "[J") (.int 7)) (.long 115918758703732)) (by decide +kernel))
    | 8, _ => exact va_eqtl (hs (Cond.eq (.elem (.static "BindingServer$Tokens" "WORDS" "[J") (.int 8)) (.long 26990)) (by decide +kernel))
    | 9, _ => exact va_eqtl (hs (Cond.eq (.elem (.static "BindingServer$Tokens" "WORDS" "[J") (.int 9)) (.long 119165702792289)) (by decide +kernel))
    | 10, _ => exact va_eqtl (hs (Cond.eq (.elem (.static "BindingServer$Tokens" "WORDS" "[J") (.int 10)) (.long 7957700478591263084)) (by decide +kernel))
    | 11, _ => exact va_eqtl (hs (Cond.eq (.elem (.static "BindingServer$Tokens" "WORDS" "[J") (.int 11)) (.long 1885434739)) (by decide +kernel))
    | 12, _ => exact va_eqtl (hs (Cond.eq (.elem (.static "BindingServer$Tokens" "WORDS" "[J") (.int 12)) (.long 125780071117422)) (by decide +kernel))
    | 13, _ => exact va_eqtl (hs (Cond.eq (.elem (.static "BindingServer$Tokens" "WORDS" "[J") (.int 13)) (.long 512852847717)) (by decide +kernel))
    | j + 14, hj => exact absurd hj (by omega)
  have hA : ∀ a : Nat, a < s.heap.size → ¬ am_A s.heap.size a := fun a h1 h2 => Nat.not_le.mpr h1 h2
  obtain ⟨t, ht, hT⟩ := va_Tof (A := am_A s.heap.size) (f := fun j => .long (am_wd.getD j 0)) (N := 14) (by decide) (hs (Cond.arrayOf (.static "BindingServer$Tokens" "WORDS" "[J") .long) (by decide +kernel)) hlen hel hA
  have hZ : va_Z "BindingServer$Tokens" "WORDS" "[J" (.ref t) (am_A s.heap.size) s s.heap := va_Zof (args := #[Value.ref b]) (hts _ (List.mem_append_right _ (List.mem_of_getElem? (i := 385) (by decide +kernel)))) (hts _ (List.mem_append_right _ (List.mem_of_getElem? (i := 3) (by decide +kernel)))) ht hA
  have hll : ((List.range L).map xs).length = L := by rw [List.length_map, List.length_range]
  have hX2 : va_X b ((List.range L).map xs).length (fun j => ((List.range L).map xs).getD j 0) s s.heap := by
    obtain ⟨scr, g1, g2, g3, g4, g5⟩ := hX
    refine ⟨scr, g1, g2, g3, by rw [hll]; exact g4, fun j hj => ?_⟩
    rw [hll] at hj
    rw [g5 j hj]
    show _ = some (Value.int (((List.range L).map xs).getD j 0))
    rw [List.getD_eq_getElem?_getD, List.getElem?_map, List.getElem?_range hj]
    rfl
  have hOld : am_Old (am_CX (some ((List.range L).map xs))) s.heap.size b t s s.heap := ⟨hX2, hbl, hT, hZ⟩
  have F : am_F (am_CX (some ((List.range L).map xs))) am_GG (fun c => (f c).1, fun c => (f c).2) cI cC s.heap.size b t p s m #[Value.ref b] meth c md_0 := ⟨hx, hb, hml, hown, hG, hr, hlk, fun h => absurd h (by decide), hK, hOld, Nat.le_refl _⟩
  have I : am_N (am_CX (some ((List.range L).map xs))) (fun c => (f c).1, fun c => (f c).2) cI cC s.heap.size b t s 0 [] s.heap [] := ⟨fun k q h => by simp [am_w] at h, rfl, va_S.rf⟩
  have hl := lv_entry ([Value.ref b]) (n := 4) (Nat.le_of_ble_eq_true rfl)
  rw [lg_entry_eq]
  generalize (lg_sl ([Value.ref b]) ++ List.replicate (4 - (lg_sl ([Value.ref b])).length) Slot.unset).toArray = ls at hl ⊢
  refine am_sim (am_okk _) n d 0 0 [(0, .ref 0)] [] [] _ hn p l e room_1 s m _ below meth c md_0 s.heap [] 0 0 _ ls rfl F I hl ⟨by show d ≤ 2048; omega, by show 64 * d ≤ 84000; omega⟩ (by show 0 + nc ≤ 600000; omega) (by show 0 + ns ≤ 7302250; omega) ?_
  intro pc1 i1 len1 x1 ls1 H1 locs1 st1 hok hdr I1
  have hdr : am_dr ret i1 st1 = some (some (.int 1)) := hdr
  have hdec : decode code pc1 = .ok (i1, len1) := hok.1
  have hlo : am_lo (am_CX (some ((List.range L).map xs))) am_GG md_0 pc1 i1 len1 x1 := hok.2
  refine va_forget (fun q hq => I1.2.2.2.2 q hq) ?_
  refine W.widen (k := 600000) (n := 7302250) (by show 0 + nc ≤ 600000; omega) (by show 0 + ns ≤ 7302250; omega) ?_
  cases i1
  case ireturn =>
    have hlen1 : len1 = 1 := hlo
    subst hlen1
    have hdr : am_ri ret st1 = some (some (.int 1)) := hdr
    rcases st1 with _ | ⟨v0, st1⟩
    · exact absurd hdr (by simp [am_ri])
    cases v0 with
    | int v =>
      rcases st1 with _ | ⟨v1, st1⟩
      · have hdr : (bif decide (v = 0) || decide (v = 1) then some (some (Value.int v)) else none) = some (some (.int 1)) := hdr
        cases hc : (decide (v = 0) || decide (v = 1)) with
        | false => rw [hc] at hdr; cases hdr
        | true =>
          rw [hc] at hdr
          cases hdr
          exact lw_ret hx hb hr hlk hdec
      · exact absurd hdr (by simp [am_ri])
    | _ => exact absurd hdr (by simp [am_ri])
  case lreturn => exact absurd hdr (by
    show ¬ am_rl ret st1 = some (some (.int 1))
    rcases st1 with _ | ⟨v0, st1⟩
    · simp [am_rl]
    · cases v0 with
      | long v => rcases st1 with _ | ⟨v1, st1⟩ <;> simp [am_rl, ret]
      | _ => simp [am_rl])
  case return_ => exact absurd hdr (by
    show ¬ am_rv ret st1 = some (some (.int 1))
    rcases st1 with _ | ⟨v0, st1⟩ <;> simp [am_rv, ret])
  all_goals exact absurd (show (none : Option (Option Value)) = some (some (.int 1)) from hdr) (by simp)
