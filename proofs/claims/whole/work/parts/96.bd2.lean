/-! The class's binder: roles, search. -/
theorem z_bits (x : Int32) : x = 0 ↔ ∀ i, i < 32 → x.toBitVec.getLsbD i = false := by
  constructor
  · intro h i hi
    subst h
    exact BitVec.getLsbD_zero
  · intro h
    apply Int32.toBitVec_inj.mp
    apply BitVec.eq_of_getLsbD_eq
    intro i hi
    rw [h i hi]
    exact BitVec.getLsbD_zero.symm
theorem ti_0 {x : Int32} : x.toInt = 0 ↔ x = 0 := ⟨fun h => ti_ext (h.trans (by decide)), fun h => by subst h; decide⟩
theorem or_m {a b m : Int32} : ((a ||| b) &&& m).toInt = 0 ↔ ((a &&& m).toInt = 0 ∧ (b &&& m).toInt = 0) := by
  rw [ti_0, ti_0, ti_0, z_bits, z_bits, z_bits]
  constructor
  · intro h
    refine ⟨fun i hi => ?_, fun i hi => ?_⟩
    · have g := h i hi
      rw [Int32.toBitVec_and, Int32.toBitVec_or, BitVec.getLsbD_and, BitVec.getLsbD_or] at g
      rw [Int32.toBitVec_and, BitVec.getLsbD_and]
      revert g
      cases a.toBitVec.getLsbD i <;> cases b.toBitVec.getLsbD i <;> cases m.toBitVec.getLsbD i <;> decide
    · have g := h i hi
      rw [Int32.toBitVec_and, Int32.toBitVec_or, BitVec.getLsbD_and, BitVec.getLsbD_or] at g
      rw [Int32.toBitVec_and, BitVec.getLsbD_and]
      revert g
      cases a.toBitVec.getLsbD i <;> cases b.toBitVec.getLsbD i <;> cases m.toBitVec.getLsbD i <;> decide
  · intro ⟨h1, h2⟩ i hi
    have g1 := h1 i hi
    have g2 := h2 i hi
    rw [Int32.toBitVec_and, BitVec.getLsbD_and] at g1 g2
    rw [Int32.toBitVec_and, Int32.toBitVec_or, BitVec.getLsbD_and, BitVec.getLsbD_or]
    revert g1 g2
    cases a.toBitVec.getLsbD i <;> cases b.toBitVec.getLsbD i <;> cases m.toBitVec.getLsbD i <;> decide
def rset (r : Int) : Prop := r = 1 ∨ r = 2 ∨ r = 4 ∨ r = 8 ∨ r = 18 ∨ r = 34 ∨ r = 98
/-- the mask of the roles from lo to hi -/
def mkM (m : Int32) (lo hi : Int) : Prop := (0 &&& m).toInt = 0 ∧ ∀ r : Int32, rset r.toInt → ((r &&& m).toInt = 0 ↔ ¬ (lo ≤ pmr r.toInt ∧ pmr r.toInt ≤ hi))
theorem mkM_i {m : Int32} {lo hi : Int} (h0 : (0 &&& m).toInt = 0) (h : ∀ r ∈ [(1 : Int32), 2, 4, 8, 18, 34, 98], ((r &&& m).toInt = 0 ↔ ¬ (lo ≤ pmr r.toInt ∧ pmr r.toInt ≤ hi))) : mkM m lo hi := by
  refine ⟨h0, fun r hr => h r ?_⟩
  rcases hr with e | e | e | e | e | e | e
  · rw [show r = 1 from ti_ext (e.trans (by decide))]; decide
  · rw [show r = 2 from ti_ext (e.trans (by decide))]; decide
  · rw [show r = 4 from ti_ext (e.trans (by decide))]; decide
  · rw [show r = 8 from ti_ext (e.trans (by decide))]; decide
  · rw [show r = 18 from ti_ext (e.trans (by decide))]; decide
  · rw [show r = 34 from ti_ext (e.trans (by decide))]; decide
  · rw [show r = 98 from ti_ext (e.trans (by decide))]; decide
theorem mk_4 : mkM 4 4 4 := mkM_i (by decide) (by decide)
theorem mk_8 : mkM 8 5 5 := mkM_i (by decide) (by decide)
theorem mk_2 : mkM 2 1 3 := mkM_i (by decide) (by decide)
theorem mk_16 : mkM 16 2 2 := mkM_i (by decide) (by decide)
theorem mk_3 : mkM 3 0 3 := mkM_i (by decide) (by decide)
theorem mk_12 : mkM 12 4 5 := mkM_i (by decide) (by decide)
/-- the spellings in their cells -/
def spC (t : List Int32) (T : List lxT) (C : List pOc) (S : List Int) (s : zS) : Prop := zP 100 S (s.2 21) ∧ S.length = C.length ∧ spR t T C S
section BD
variable (xs : Option (List Int32)) (d : Nat) {t : List Int32} {T : List lxT} {L : List pSc} {C : List pOc} {S : List Int} {s : zS}
theorem spC_g (h : spC t T C S s) {j : Nat} (hj : j < C.length) : zX (s.2 21) (j : Int) ∧ (zg (s.2 21) (j : Int)).toInt = S.getD j 0 := by
  obtain ⟨h1, h2, h3⟩ := h
  have hl := h1.2.1
  refine ⟨zP_X h1 (by decide) (by omega) (by omega), ?_⟩
  rw [zP_get h1 (by omega) (by omega), show ((j : Int)).toNat = j by omega]
/-- has -/
theorem ct_32 (hO : oR T C s) {j : Nat} {x : pOc} (hx : C[j]? = some x) (hr : rset x.2.2.2) (a1 a2 : Int32) (h1 : a1.toInt = j) {lo hi : Int} (hm : mkM a2 lo hi) (Q : Int32 → zS → Prop) (hQ : Q (zb (decide (lo ≤ pmr x.2.2.2 ∧ pmr x.2.2.2 ≤ hi))) s) : zWi xs d 32 0 [(0, .ref 17), (1, .int a1), (2, .int a2)] s Q := by
  obtain ⟨_, _, _, _, c5, _, _, _, _, c10⟩ := oR_g hO hx
  refine vc_32_0 xs d s a1 a2 Q ?_
  rw [h1]
  have h := hm.2 (zg (s.2 20) (j : Int)) (by rw [c10]; exact hr)
  rw [c10] at h
  refine ⟨c5, fun g => ?_, fun g => ?_⟩
  · rw [decide_eq_false (h.mp g)] at hQ; exact hQ
  · rw [decide_eq_true (Decidable.not_not.mp (fun e => g (h.mpr e)))] at hQ; exact hQ
theorem ct_34l (hO : oR T C s) (hA : Ax T L C) (hS : spC t T C S s) (k : Nat) (hk : k < C.length) (sc : Int) (e : Nat) (he : e ≤ C.length) (a1 a2 a3 : Int32) (h1 : a1.toInt = sc) (h2 : a2.toInt = S.getD k 0) (h3 : a3.toInt = e) (Q : Int32 → zS → Prop) (hQ : ∀ v : Int32, (∀ m lo hi, mkM m lo hi → ((v &&& m).toInt = 0 ↔ sm t T C sc (tkA C k) lo hi e = false)) → Q v s) : ∀ (n j : Nat) (a4 a5 : Int32), e - j = n → j ≤ e → a5.toInt = j → (∀ m lo hi, mkM m lo hi → ((a4 &&& m).toInt = 0 ↔ sm t T C sc (tkA C k) lo hi j = false)) → zWi xs d 34 6 [(0, .ref 17), (1, .int a1), (2, .int a2), (3, .int a3), (4, .int a4), (5, .int a5)] s Q := by
  have hoc := hO.1
  have hcl := hO.2.1.2.1
  rw [List.length_map] at hcl
  intro n
  induction n with
  | zero =>
    intro j a4 a5 hn hj h5 hp
    have ej : j = e := by omega
    subst ej
    exact vc_34_6 xs d s a1 a2 a3 a4 a5 Q ⟨fun h => by omega, fun _ => hQ a4 hp⟩
  | succ n ih =>
    intro j a4 a5 hn hj h5 hp
    obtain ⟨y, hy⟩ := ge_x (C := C) (j := j) (by omega)
    obtain ⟨_, _, _, c4, c5, _, _, _, c9, c10⟩ := oR_g hO hy
    obtain ⟨s1, s2⟩ := spC_g hS (j := j) (by omega)
    have e5 : (a5 + 1).toInt = ((j + 1 : Nat) : Int) := ti_inc h5 (by omega)
    have hym : y ∈ C := List.mem_of_getElem? hy
    have hsp : S.getD j 0 = S.getD k 0 ↔ eqT t T y.1 (tkA C k) = true := by
      rw [spR_e hS.2.2 (by rw [hS.2.1]; omega) (by rw [hS.2.1]; omega), tkA_x hy]
    have hstep : ∀ lo hi, sm t T C sc (tkA C k) lo hi (j + 1) = (sm t T C sc (tkA C k) lo hi j || smP t T sc (tkA C k) lo hi y) := by
      intro lo hi
      unfold sm
      rw [List.take_add_one, hy, List.any_append]
      show (_ || ([y].any _)) = _
      rw [List.any_cons, List.any_nil, Bool.or_false]
    have go : (∀ m lo hi, mkM m lo hi → smP t T sc (tkA C k) lo hi y = false) → zWi xs d 34 6 [(0, .ref 17), (1, .int a1), (2, .int a2), (3, .int a3), (4, .int a4), (5, .int (a5 + 1))] s Q := fun hf => ih (j + 1) a4 (a5 + 1) (by omega) (by omega) e5 (fun m lo hi hm => by rw [hstep, hf m lo hi hm, Bool.or_false]; exact hp m lo hi hm)
    refine vc_34_6 xs d s a1 a2 a3 a4 a5 Q ⟨fun _ => ⟨fun _ => ?_, fun h => by omega⟩, fun h => by omega⟩
    rw [h5, c9, h1, s2, h2]
    refine ⟨c4, fun hb => ⟨s1, fun hs => ⟨c5, ih (j + 1) _ (a5 + 1) (by omega) (by omega) e5 (fun m lo hi hm => ?_)⟩, fun hs => go (fun m lo hi hm => ?_)⟩, fun hb => go (fun m lo hi hm => ?_)⟩
    · rw [or_m, hp m lo hi hm, hm.2 _ (by rw [c10]; exact hA.rol y hym), c10, hstep, Bool.or_eq_false_iff]
      refine and_congr Iff.rfl ?_
      unfold smP
      rw [hsp.mp hs, decide_eq_true hb]
      by_cases g1 : lo ≤ pmr y.2.2.2
      · by_cases g2 : pmr y.2.2.2 ≤ hi
        · rw [decide_eq_true g1, decide_eq_true g2]
          exact ⟨fun h => absurd ⟨g1, g2⟩ h, fun h => by cases h⟩
        · rw [decide_eq_false g2, Bool.false_and, Bool.and_false]
          exact ⟨fun _ => rfl, fun _ h => g2 h.2⟩
      · rw [decide_eq_false g1, Bool.false_and]
        exact ⟨fun _ => rfl, fun _ h => g1 h.1⟩
    · unfold smP
      have : eqT t T y.1 (tkA C k) = false := Bool.eq_false_iff.mpr (fun e => hs (hsp.mpr e))
      rw [this, Bool.false_and, Bool.and_false, Bool.and_false]
    · unfold smP
      rw [decide_eq_false hb, Bool.and_false, Bool.and_false, Bool.and_false]
/-- rolesIn -/
theorem ct_34 (hO : oR T C s) (hA : Ax T L C) (hS : spC t T C S s) (k : Nat) (hk : k < C.length) (sc : Int) (e : Nat) (he : e ≤ C.length) (a1 a2 a3 : Int32) (h1 : a1.toInt = sc) (h2 : a2.toInt = S.getD k 0) (h3 : a3.toInt = e) (Q : Int32 → zS → Prop) (hQ : ∀ v : Int32, (∀ m lo hi, mkM m lo hi → ((v &&& m).toInt = 0 ↔ sm t T C sc (tkA C k) lo hi e = false)) → Q v s) : zWi xs d 34 0 [(0, .ref 17), (1, .int a1), (2, .int a2), (3, .int a3)] s Q :=
  vc_34_0 xs d s a1 a2 a3 Q (ct_34l xs d hO hA hS k hk sc e he a1 a2 a3 h1 h2 h3 Q hQ _ 0 0 0 rfl (Nat.zero_le _) rfl (fun m lo hi hm => ⟨fun _ => rfl, fun _ => hm.1⟩))
theorem ct_72 {ss ps ts : List Int} (hs : sR ss ps ts s) (a : Int32) (h0 : 0 ≤ a.toInt) (h1 : a.toInt < (ss.length : Int)) (Q : Int32 → zS → Prop) (hQ : ∀ v : Int32, v.toInt = ps.getD a.toInt.toNat 0 → Q v s) : zWi xs d 72 0 [(0, .ref 13), (1, .int a)] s Q := by
  obtain ⟨h2, h3, h4, h5, h6, h7⟩ := hs
  have hl := h6.2.1
  refine vc_72_0 xs d s a Q ⟨fun h => by omega, fun _ => ⟨fun _ => ⟨zP_X h6 (by decide) h0 (by omega), hQ _ (zP_get h6 h0 (by omega))⟩, fun h => by omega⟩⟩
theorem ct_71b {ss ps ts : List Int} (hs : sR ss ps ts s) (a : Int32) (h0 : 0 ≤ a.toInt) (h1 : a.toInt < (ss.length : Int)) (Q : Int32 → zS → Prop) (hQ : ∀ v : Int32, v.toInt = ss.getD a.toInt.toNat 0 → Q v s) : zWi xs d 71 0 [(0, .ref 13), (1, .int a)] s Q := by
  obtain ⟨h2, h3, h4, h5, h6, h7⟩ := hs
  have hl := h5.2.1
  refine vc_71_0 xs d s a Q ⟨fun h => by omega, fun _ => ⟨fun _ => ⟨zP_X h5 (by decide) h0 (by omega), hQ _ (zP_get h5 h0 (by omega))⟩, fun h => by omega⟩⟩
/-- bindsUndeclared -/
theorem ct_12 (a : Int32) {b2 b12 : Bool} (h2 : (a &&& 2).toInt = 0 ↔ b2 = false) (h12 : (a &&& 12).toInt = 0 ↔ b12 = false) (Q : Int32 → zS → Prop) (hQ : Q (zb (b2 && !b12)) s) : zWi xs d 12 0 [(0, .int a)] s Q := by
  refine vc_12_0 xs d s a Q ⟨fun h => ?_, fun h => ⟨fun g => ?_, fun g => ?_⟩⟩
  · rw [h2.mp h, Bool.false_and] at hQ; exact hQ
  · have e2 : b2 = true := by
      cases b2 with
      | true => rfl
      | false => exact absurd (h2.mpr rfl) h
    rw [e2, h12.mp g] at hQ; exact hQ
  · have e12 : b12 = true := by
      cases b12 with
      | true => rfl
      | false => exact absurd (h12.mpr rfl) g
    rw [e12, Bool.not_true, Bool.and_false] at hQ; exact hQ
theorem sm_45 {sc : Int} {i e : Nat} (h4 : sm t T C sc i 4 4 e = false) : sm t T C sc i 4 5 e = sm t T C sc i 5 5 e := by
  unfold sm at h4 ⊢
  rw [List.any_eq_false] at h4
  have h : ∀ x ∈ C.take e, smP t T sc i 4 5 x = smP t T sc i 5 5 x := by
    intro x hx
    have g := h4 x hx
    unfold smP at g ⊢
    cases q1 : eqT t T x.1 i with
    | false => simp only [Bool.false_and, Bool.and_false]
    | true =>
      by_cases q2 : x.2.2.1 = sc
      · rw [q1, decide_eq_true q2] at g
        rw [decide_eq_true q2]
        have g' : ¬ pmr x.2.2.2 = 4 := fun e => g (by rw [e]; decide)
        by_cases q3 : 4 ≤ pmr x.2.2.2
        · rw [decide_eq_true q3, decide_eq_true (p := 5 ≤ pmr x.2.2.2) (by omega)]
        · rw [decide_eq_false q3, decide_eq_false (p := 5 ≤ pmr x.2.2.2) (by omega)]
      · simp only [decide_eq_false q2, Bool.and_false]
  generalize C.take e = l at h
  clear h4
  induction l with
  | nil => rfl
  | cons x l ih => rw [List.any_cons, List.any_cons, h x (List.mem_cons_self ..), ih (fun y hy => h y (List.mem_cons_of_mem _ hy))]
/-- search, from the scope that is looked at next -/
theorem ct_11l (hd : 1 ≤ d) (hb : bR t T L C s) (hA : Ax T L C) (hS : spC t T C S s) (k : Nat) (hk : k < C.length) (a2 : Int32) (h2 : a2.toInt = S.getD k 0) (Q : Int32 → zS → Prop) : ∀ (n : Nat) (a3 a4 : Int32), 0 ≤ a3.toInt → 0 ≤ a4.toInt → a4.toInt + a3.toInt < (L.length : Int) + 1 → a3.toInt.toNat ≤ n → (∀ v : Int32, v.toInt = (if a3.toInt = 0 then -1 else if (0 :: sS L).getD a3.toInt.toNat 0 = 2 then srch t T L C n a3.toInt (tkA C k) else if sAll t T C a3.toInt (tkA C k) 4 4 = true then -1 else if sAll t T C a3.toInt (tkA C k) 1 3 = true ∧ sAll t T C a3.toInt (tkA C k) 5 5 = false then a3.toInt else srch t T L C n a3.toInt (tkA C k)) → Q v s) → zWi xs (d + 1) 11 12 [(0, .ref 27), (2, .int a2), (3, .int a3), (4, .int a4)] s Q := by
  obtain ⟨b1, b2, b3, b4, b5, b6⟩ := hb
  have hsl : (0 :: sS L).length = L.length + 1 := by rw [List.length_cons, sS_l]
  have h6 : (s.1 6).toInt = ((0 :: sS L).length : Int) := b2.1
  have h32 : (0 :: sS L).length ≤ 32 := b2.2.2.2.1.2.1
  have em : ∀ x : Int, x = -1 → ((-1 : Int32)).toInt = x := fun x hx => by rw [hx]; decide
  intro n
  induction n with
  | zero =>
    intro a3 a4 g0 g4 g5 g6 hQ
    have e : a3.toInt = 0 := by omega
    exact vc_11_12 xs d s a2 a3 a4 Q ⟨fun _ => ⟨fun _ => hQ (-1) (em _ (by rw [if_pos e])), fun h => absurd e h⟩, fun h => by omega⟩
  | succ n ih =>
    intro a3 a4 g0 g4 g5 g6 hQ
    refine vc_11_12 xs d s a2 a3 a4 Q ⟨fun _ => ⟨fun e => hQ (-1) (em _ (by rw [if_pos e])), fun h0 => ?_⟩, fun h => by omega⟩
    obtain ⟨p1, p2⟩ := ax_ps hA (p := a3.toInt) (by omega) (by omega)
    have e4 : (a4 + 1).toInt = a4.toInt + 1 := ti_1 rfl (by omega) (by omega)
    have next : (if (0 :: sS L).getD a3.toInt.toNat 0 = 2 then srch t T L C (n + 1) a3.toInt (tkA C k) else if sAll t T C a3.toInt (tkA C k) 4 4 = true then -1 else if sAll t T C a3.toInt (tkA C k) 1 3 = true ∧ sAll t T C a3.toInt (tkA C k) 5 5 = false then a3.toInt else srch t T L C (n + 1) a3.toInt (tkA C k)) = srch t T L C (n + 1) a3.toInt (tkA C k) → zWi xs d 72 0 [(0, .ref 13), (1, .int a3)] s (fun v22 s20 => zWi xs (d + 1) 11 12 [(0, .ref 27), (2, .int a2), (3, .int v22), (4, .int (a4 + 1))] s20 Q) := by
      intro hgo
      refine ct_72 xs d b2 a3 g0 (by omega) _ (fun v hv => ?_)
      rw [← hv] at p1 p2
      refine ih v (a4 + 1) p1 (by omega) (by omega) (by omega) (fun w hw => hQ w ?_)
      rw [if_neg h0, hgo, srch, if_neg h0, ← hv]
      exact hw
    have hro := ct_34 xs d b3 hA hS k hk a3.toInt C.length (Nat.le_refl _) a3 a2 (s.1 7) rfl h2 b3.1
    refine hro _ (fun v hv => ct_71b xs d b2 a3 g0 (by omega) _ (fun w hw => ?_))
    have hv4 : (v &&& 4).toInt = 0 ↔ sAll t T C a3.toInt (tkA C k) 4 4 = false := hv 4 4 4 mk_4
    have hv2 : (v &&& 2).toInt = 0 ↔ sAll t T C a3.toInt (tkA C k) 1 3 = false := hv 2 1 3 mk_2
    have hv12 := hv 12 4 5 mk_12
    rw [hw]
    refine ⟨fun hs => next (by rw [if_pos hs]), fun hs => ⟨fun h4 => ?_, fun h4 => hQ (-1) (em _ ?_)⟩⟩
    · have q4 := hv4.mp h4
      have q45 : sm t T C a3.toInt (tkA C k) 4 5 C.length = sAll t T C a3.toInt (tkA C k) 5 5 := sm_45 q4
      rw [q45] at hv12
      refine ct_12 xs d v hv2 hv12 _ ?_
      cases q13 : sAll t T C a3.toInt (tkA C k) 1 3 with
      | false =>
        refine ⟨fun _ => next ?_, fun h => absurd rfl h⟩
        rw [if_neg hs, if_neg (by rw [q4]; decide), if_neg (by rw [q13]; intro e; exact absurd e.1 (by decide))]
      | true =>
        cases q5 : sAll t T C a3.toInt (tkA C k) 5 5 with
        | false =>
          refine ⟨fun h => absurd h (by decide), fun _ => hQ a3 ?_⟩
          rw [if_neg h0, if_neg hs, if_neg (by rw [q4]; decide), if_pos ⟨q13, q5⟩]
        | true =>
          refine ⟨fun _ => next ?_, fun h => absurd rfl h⟩
          rw [if_neg hs, if_neg (by rw [q4]; decide), if_neg (by rw [q5]; intro e; exact absurd e.2 (by decide))]
    · have q4 : sAll t T C a3.toInt (tkA C k) 4 4 = true := by
        cases e : sAll t T C a3.toInt (tkA C k) 4 4 with
        | true => rfl
        | false => exact absurd (hv4.mpr e) h4
      rw [if_neg h0, if_neg hs, if_pos q4]
/-- search -/
theorem ct_11 (hd : 2 ≤ d) (hb : bR t T L C s) (hA : Ax T L C) (hS : spC t T C S s) (k : Nat) (hk : k < C.length) (a1 a2 : Int32) (h0 : 0 ≤ a1.toInt) (h1 : a1.toInt < (L.length : Int) + 1) (h2 : a2.toInt = S.getD k 0) (Q : Int32 → zS → Prop) (hQ : ∀ v : Int32, v.toInt = srch t T L C a1.toInt.toNat a1.toInt (tkA C k) → Q v s) : zWi xs d 11 0 [(0, .ref 27), (1, .int a1), (2, .int a2)] s Q := by
  obtain ⟨d, rfl⟩ : ∃ e, d = e + 1 := ⟨d - 1, by omega⟩
  have hsl : (0 :: sS L).length = L.length + 1 := by rw [List.length_cons, sS_l]
  refine vc_11_0 xs d s a1 a2 Q (ct_72 xs d hb.2.1 a1 h0 (by omega) _ (fun v hv => ?_))
  by_cases e : a1.toInt = 0
  · have hv0 : v.toInt = 0 := by rw [hv, e]; rfl
    refine ct_11l xs d (by omega) hb hA hS k hk a2 h2 Q 0 v 0 (by omega) (by decide) (by show (0 : Int) + _ < _; omega) (by omega) (fun w hw => hQ w ?_)
    rw [hw, if_pos hv0, e]
    rfl
  · obtain ⟨n, hn⟩ : ∃ n, a1.toInt.toNat = n + 1 := ⟨a1.toInt.toNat - 1, by omega⟩
    obtain ⟨p1, p2⟩ := ax_ps hA (p := a1.toInt) (by omega) h1
    rw [← hv] at p1 p2
    refine ct_11l xs d (by omega) hb hA hS k hk a2 h2 Q n v 0 p1 (by decide) (by show (0 : Int) + _ < _; omega) (by omega) (fun w hw => hQ w ?_)
    rw [hn, srch, if_neg e, ← hv]
    exact hw
end BD
