/-! The class's findError against the reference's; bind. -/
def fst1 (T : List lxT) : List Nat → Int
  | [] => -1
  | j :: _ => tb T j
def tkI (T : List lxT) : Prop := ∀ i j, i < j → j < T.length → (tc T i < 4 ∨ 8 < tc T i) → tb T i < tb T j
theorem if_sub {b : Prop} [Decidable b] {l m : List Int} (h : l.Sublist m) : (if b then l else []).Sublist m := by
  split
  · exact h
  · exact List.nil_sublist _
section PU
variable {t : List Int32} {T : List lxT} {L : List pSc} {C : List pOc}
theorem errs_sub (o : Nat) (x : pOc) : (errs t T L C o x).Sublist [1, 2, 3, 4, 5, 6, 8, 9, 10] := by
  have r : ∀ n : Int, [n].Sublist [n] := fun n => List.Sublist.refl _
  unfold errs dclE wlE
  show List.Sublist _ ([(1 : Int)] ++ (([(2 : Int)] ++ ([(3 : Int)] ++ ([(4 : Int)] ++ ([(5 : Int)] ++ [(6 : Int)])))) ++ ([(8 : Int)] ++ ([(9 : Int)] ++ [(10 : Int)]))))
  exact List.Sublist.append (if_sub (r _)) (List.Sublist.append (if_sub (List.Sublist.append (if_sub (r _)) (List.Sublist.append (if_sub (r _)) (List.Sublist.append (if_sub (r _)) (List.Sublist.append (if_sub (r _)) (if_sub (r _))))))) (if_sub (List.Sublist.append (if_sub (r _)) (List.Sublist.append (if_sub (r _)) (if_sub (r _))))))
theorem errs_srt (o : Nat) (x : pOc) : (errs t T L C o x).Pairwise (fun a b => a < b) := List.Pairwise.sublist (errs_sub o x) (by decide)
theorem errs_pos (o : Nat) (x : pOc) : ∀ n ∈ errs t T L C o x, 0 < n := fun n hn => by
  have := List.Sublist.subset (errs_sub (t := t) (T := T) (L := L) (C := C) o x) hn
  simp only [List.mem_cons, List.not_mem_nil, or_false] at this
  omega
theorem nts_keep {p : Int × Int} {i : Int} (h : p.1 ≠ 0) : ∀ ns : List Int, (p.2 < i ∨ (p.2 = i ∧ ∀ n ∈ ns, p.1 ≤ n)) → nts p i ns = p := by
  intro ns
  induction ns with
  | nil => intro _; rfl
  | cons n ns ih =>
    intro hh
    show nts (nt p i n) i ns = p
    have e : nt p i n = p := by
      unfold nt
      rw [if_neg]
      rcases hh with g | ⟨g, g2⟩
      · omega
      · have := g2 n (List.mem_cons_self ..)
        omega
    rw [e]
    exact ih (hh.imp (fun g => g) (fun g => ⟨g.1, fun m hm => g.2 m (List.mem_cons_of_mem _ hm)⟩))
theorem nts_new {q i : Int} {n : Int} {ns : List Int} (h0 : 0 < n) (hs : (n :: ns).Pairwise (fun a b => a < b)) : nts (0, q) i (n :: ns) = (n, i) := by
  show nts (nt (0, q) i n) i ns = (n, i)
  have e : nt (0, q) i n = (n, i) := by unfold nt; rw [if_pos (Or.inl rfl)]
  rw [e]
  exact nts_keep (by show n ≠ 0; omega) ns (Or.inr ⟨rfl, fun m hm => Int.le_of_lt ((List.pairwise_cons.mp hs).1 m hm)⟩)
variable (t T L C)
/-- the first occurrence that errs -/
def ef : Nat → List pOc → Option (Int × Nat)
  | _, [] => none
  | o, x :: B => if eo t T L C o x = 0 then ef (o + 1) B else some (eo t T L C o x, x.1)
variable {t T L C}
theorem ef_m : ∀ (B : List pOc) (o : Nat) (n : Int) (i : Nat), ef t T L C o B = some (n, i) → n ≠ 0 ∧ ∃ x ∈ B, x.1 = i := by
  intro B
  induction B with
  | nil => intro o n i h; cases h
  | cons x B ih =>
    intro o n i h
    unfold ef at h
    split at h
    · obtain ⟨h1, y, h2, h3⟩ := ih _ _ _ h
      exact ⟨h1, y, List.mem_cons_of_mem _ h2, h3⟩
    · rename_i h0
      cases h
      exact ⟨h0, x, List.mem_cons_self .., rfl⟩
theorem feL_keep {p : Int × Int} (h : p.1 ≠ 0) : ∀ (B : List pOc) (o : Nat), (∀ x ∈ B, p.2 < (x.1 : Int)) → feL t T L C o B p = p := by
  intro B
  induction B with
  | nil => intro o _; rfl
  | cons x B ih =>
    intro o hx
    show feL t T L C (o + 1) B (nts p (x.1 : Int) (errs t T L C o x)) = p
    rw [nts_keep h _ (Or.inl (hx x (List.mem_cons_self ..)))]
    exact ih _ (fun y hy => hx y (List.mem_cons_of_mem _ hy))
theorem feL_ef : ∀ (B : List pOc) (o : Nat), B.Pairwise (fun a b => a.1 < b.1) → feL t T L C o B (0, 0) = (match ef t T L C o B with
  | none => (0, 0)
  | some (n, i) => (n, (i : Int))) := by
  intro B
  induction B with
  | nil => intro o _; rfl
  | cons x B ih =>
    intro o hs
    obtain ⟨h1, h2⟩ := List.pairwise_cons.mp hs
    show feL t T L C (o + 1) B (nts (0, 0) (x.1 : Int) (errs t T L C o x)) = _
    have hsr := errs_srt (t := t) (T := T) (L := L) (C := C) o x
    have hps := errs_pos (t := t) (T := T) (L := L) (C := C) o x
    unfold ef eo
    cases he : errs t T L C o x with
    | nil =>
      rw [List.headD_nil, if_pos rfl]
      exact ih (o + 1) h2
    | cons n ns =>
      rw [he] at hsr hps
      have hn := hps n (List.mem_cons_self ..)
      rw [nts_new hn hsr, List.headD_cons, if_neg (by omega)]
      exact feL_keep (by show n ≠ 0; omega) B _ (fun y hy => by have := h1 y hy; show (x.1 : Int) < (y.1 : Int); omega)
theorem feR_1 (j : Nat) : ∀ (is : List Nat) (p : Int × Int), p.1 ≠ 0 → p.2 ≤ (j : Int) → (∀ i ∈ is, j < i) → feR is p = p := by
  intro is
  induction is with
  | nil => intro p _ _ _; rfl
  | cons i is ih =>
    intro p h0 hp hi
    show feR is (nt p (i : Int) 7) = p
    have := hi i (List.mem_cons_self ..)
    have e : nt p (i : Int) 7 = p := by
      unfold nt
      rw [if_neg (by omega)]
    rw [e]
    exact ih p h0 hp (fun k hk => hi k (List.mem_cons_of_mem _ hk))
theorem feR_2 : ∀ (is : List Nat) (p : Int × Int), p.1 ≠ 0 → (∀ i ∈ is, p.2 < (i : Int)) → feR is p = p := by
  intro is
  induction is with
  | nil => intro p _ _; rfl
  | cons i is ih =>
    intro p h0 hi
    show feR is (nt p (i : Int) 7) = p
    have := hi i (List.mem_cons_self ..)
    have e : nt p (i : Int) 7 = p := by
      unfold nt
      rw [if_neg (by omega)]
    rw [e]
    exact ih p h0 (fun k hk => hi k (List.mem_cons_of_mem _ hk))
/-- what the class finds: code and place -/
def cE (T : List lxT) (e : Option (Int × Nat)) (f : List Nat) : Int × Int := match f with
  | [] => (match e with
    | none => (0, -1)
    | some (n, i) => (n, tb T i))
  | j :: _ => (match e with
    | none => (7, tb T j)
    | some (n, i) => if j < i then (7, tb T j) else (n, tb T i))
def pE2 (T : List lxT) (p : Int × Int) : Int × Int := (p.1, if p.1 = 0 then -1 else tb T p.2.toNat)
theorem cE_f (hC : C.Pairwise (fun a b => a.1 < b.1)) (f : List Nat) (hf : f.Pairwise (fun a b => a < b)) (hn : ∀ i ∈ f, ∀ x ∈ C, x.1 ≠ i) : cE T (ef t T L C 0 C) f = pE2 T (feR f (feL t T L C 0 C (0, 0))) := by
  rw [feL_ef C 0 hC]
  unfold cE pE2
  cases f with
  | nil =>
    cases he : ef t T L C 0 C with
    | none => rfl
    | some q =>
      obtain ⟨n, i⟩ := q
      obtain ⟨h0, _⟩ := ef_m C 0 n i he
      show (n, tb T i) = (n, if n = 0 then -1 else tb T ((i : Int)).toNat)
      rw [if_neg h0]; rfl
  | cons j f =>
    obtain ⟨h1, h2⟩ := List.pairwise_cons.mp hf
    have e7 : feR f ((7 : Int), (j : Int)) = (7, (j : Int)) := feR_1 j f _ (by show (7 : Int) ≠ 0; decide) (Int.le_refl _) h1
    cases he : ef t T L C 0 C with
    | none =>
      show (7, tb T j) = ((feR f (nt (0, 0) (j : Int) 7)).1, _)
      have e : nt (0, 0) (j : Int) 7 = (7, (j : Int)) := by unfold nt; rw [if_pos (Or.inl rfl)]
      show (7, tb T j) = ((feR f (nt (0, 0) (j : Int) 7)).1, if (feR f (nt (0, 0) (j : Int) 7)).1 = 0 then -1 else tb T (feR f (nt (0, 0) (j : Int) 7)).2.toNat)
      rw [e, e7]; rfl
    | some q =>
      obtain ⟨n, i⟩ := q
      obtain ⟨h0, x, hx, hxi⟩ := ef_m C 0 n i he
      have hne := hn j (List.mem_cons_self ..) x hx
      show (if j < i then (7, tb T j) else (n, tb T i)) = ((feR f (nt (n, (i : Int)) (j : Int) 7)).1, if (feR f (nt (n, (i : Int)) (j : Int) 7)).1 = 0 then -1 else tb T (feR f (nt (n, (i : Int)) (j : Int) 7)).2.toNat)
      by_cases hji : j < i
      · have e : nt (n, (i : Int)) (j : Int) 7 = (7, (j : Int)) := by
          unfold nt
          rw [if_pos (Or.inr (Or.inl (by show (j : Int) < (i : Int); omega)))]
        rw [if_pos hji, e, e7]; rfl
      · have e : nt (n, (i : Int)) (j : Int) 7 = (n, (i : Int)) := by
          unfold nt
          rw [if_neg (by show ¬ (n = 0 ∨ (j : Int) < (i : Int) ∨ ((j : Int) = (i : Int) ∧ 7 < n)); omega)]
        rw [if_neg hji, e, feR_2 f _ h0 (fun k hk => by have := h1 k hk; show (i : Int) < (k : Int); omega)]
        show (n, tb T i) = (n, if n = 0 then -1 else tb T ((i : Int)).toNat)
        rw [if_neg h0]; rfl
end PU
section ER
variable (xs : Option (List Int32)) (d : Nat) {t : List Int32} {T : List lxT} {L : List pSc} {C : List pOc} {S : List Int} {s : zS}
def beR (p : Int × Int) (s : zS) : Prop := (s.1 17).toInt = p.1 ∧ (s.1 18).toInt = p.2
theorem ct_5l (hd : 4 ≤ d) (hb : bR t T L C s) (hA : Ax T L C) (hS : spC t T C S s) (hI : tkI T) (f : List Nat) (hf : ∀ j ∈ f, j < T.length ∧ tc T j = 28) (a1 : Int32) (h1 : a1.toInt = fst1 T f) (h0 : ∀ j, 0 ≤ tb T j) (hE : beR (cE T none f) s) (Q : zS → Prop) : ∀ (B : List pOc) (o : Nat) (a2 : Int32), C.drop o = B → a2.toInt = o → (∀ s1, beR (cE T (ef t T L C o B) f) s1 → zE [17, 18] [] s s1 → Q s1) → zWv xs (d + 1) 5 22 [(0, .ref 27), (1, .int a1), (2, .int a2)] s Q := by
  have h7 : (s.1 7).toInt = (C.length : Int) := hb.2.2.1.1
  intro B
  induction B with
  | nil =>
    intro o a2 ho h2 hQ
    have := dr_0 ho
    exact vc_5_22 xs d s a1 a2 Q ⟨fun h => by omega, fun _ => hQ s hE (zE_r s)⟩
  | cons x B ih =>
    intro o a2 ho h2 hQ
    obtain ⟨hx, ho2, hol⟩ := dr_x ho
    have hm : x ∈ C := List.mem_of_getElem? hx
    have hcl : C.length ≤ 100 := by have := hb.2.2.1.2.1.2.1; rw [List.length_map] at this; exact this
    obtain ⟨c1, _, _, _, _, c6, _⟩ := oR_g hb.2.2.1 hx
    have e2 : (a2 + 1).toInt = ((o + 1 : Nat) : Int) := ti_inc h2 (by omega)
    have hxt := hA.tok x hm
    have go : (∀ s1, beR (if eo t T L C o x = 0 then cE T (ef t T L C (o + 1) B) f else (eo t T L C o x, tb T x.1)) s1 → zE [17, 18] [] s s1 → Q s1) → zWi xs d 6 0 [(0, .ref 27), (1, .int a2)] s (fun v11 s9 => (v11.toInt = 0 → (zWv xs (d + 1) 5 22 [(0, .ref 27), (1, .int a1), (2, .int (a2 + 1))] s9 Q)) ∧ (¬ v11.toInt = 0 → (zX (s9.2 16) (o : Int) ∧ Q (zf (zf s9 17 v11) 18 (zg (s9.2 16) (o : Int)))))) := by
      intro hQ2
      refine ct_6 xs d hd hb hA hS hx a2 h2 _ (fun v hv => ?_)
      rw [hv]
      refine ⟨fun hz => ih (o + 1) (a2 + 1) ho2 e2 (fun s1 g1 g2 => hQ2 s1 (by rw [if_pos hz]; exact g1) g2), fun hz => ⟨c1, hQ2 _ ?_ (zE_f (zE_f (zE_r s) rfl) rfl)⟩⟩
      rw [if_neg hz]
      exact ⟨hv, c6⟩
    refine vc_5_22 xs d s a1 a2 Q ⟨fun _ => ?_, fun h => by omega⟩
    rw [h2]
    cases f with
    | nil =>
      have h1' : a1.toInt = -1 := h1
      refine ⟨fun _ => go (fun s1 g1 g2 => hQ s1 ?_ g2), fun h => absurd h1' h⟩
      unfold ef
      by_cases hz : eo t T L C o x = 0
      · rw [if_pos hz] at g1 ⊢; exact g1
      · rw [if_neg hz] at g1 ⊢; exact g1
    | cons j f =>
      have h1' : a1.toInt = tb T j := h1
      have hj := hf j (List.mem_cons_self ..)
      have := h0 j
      refine ⟨fun h => by omega, fun _ => ?_⟩
      rw [c6, h1']
      refine ⟨c1, fun hlt => hQ s ?_ (zE_r s), fun hlt => go (fun s1 g1 g2 => hQ s1 ?_ g2)⟩
      · have hjx : j < x.1 := by
          rcases Nat.lt_trichotomy j x.1 with h | h | h
          · exact h
          · rw [h] at hlt; omega
          · have := hI x.1 j h hj.1 (Or.inl (by rw [hxt.2]; decide))
            omega
        unfold cE
        cases he : ef t T L C o (x :: B) with
        | none => exact hE
        | some q =>
          obtain ⟨n, i⟩ := q
          obtain ⟨_, y, hy, hyi⟩ := ef_m (x :: B) o n i he
          have hji : j < i := by
            rcases List.mem_cons.mp hy with e | e
            · subst e; omega
            · have hp := hA.inc
              have hsub : List.Pairwise (fun a b : pOc => a.1 < b.1) (x :: B) := by rw [← ho]; exact List.Pairwise.sublist (List.drop_sublist _ _) hp
              have := (List.pairwise_cons.mp hsub).1 y e
              omega
          show beR (if j < i then (7, tb T j) else (n, tb T i)) s
          rw [if_pos hji]
          exact hE
      · have hjx : ¬ j < x.1 := fun h => hlt (hI j x.1 h hxt.1 (Or.inr (by rw [hj.2]; decide)))
        unfold ef
        by_cases hz : eo t T L C o x = 0
        · rw [if_pos hz] at g1 ⊢; exact g1
        · rw [if_neg hz] at g1 ⊢
          show beR (if j < x.1 then (7, tb T j) else (eo t T L C o x, tb T x.1)) s1
          rw [if_neg hjx]
          exact g1
theorem rt_mm {T : List lxT} {a b i : Nat} (h : i ∈ rtT T a b) : i < b ∧ tc T i = 28 := by
  unfold rtT at h
  obtain ⟨h1, h2⟩ := List.mem_filter.mp h
  have := List.mem_range'.mp h1
  obtain ⟨k, hk, e⟩ := this
  exact ⟨by omega, of_decide_eq_true h2⟩
theorem strT_mm {i : Nat} (h : i ∈ strT T L 0 T.length) : i < T.length ∧ tc T i = 28 := rt_mm (List.mem_filter.mp h).1
theorem strT_srt : (strT T L 0 T.length).Pairwise (fun a b => a < b) := by
  unfold strT rtT
  exact List.Pairwise.filter _ (List.Pairwise.filter _ List.pairwise_lt_range')
/-- findError -/
theorem ct_5 (hd : 5 ≤ d) (hb : bR t T L C s) (hA : Ax T L C) (hS : spC t T C S s) (hI : tkI T) (h0 : ∀ j, 0 ≤ tb T j) (a1 : Int32) (h1 : a1.toInt = fst1 T (strT T L 0 T.length)) (Q : zS → Prop) (hQ : ∀ s1, beR (pE2 T (fErr t T L C)) s1 → zE [17, 18] [] s s1 → Q s1) : zWv xs d 5 0 [(0, .ref 27), (1, .int a1)] s Q := by
  obtain ⟨d, rfl⟩ : ∃ e, d = e + 1 := ⟨d - 1, by omega⟩
  have hbE : ∀ s1, zE [17, 18] [] s s1 → bR t T L C s1 ∧ spC t T C S s1 := by
    intro s1 h
    obtain ⟨b1, b2, b3, b4, b5, b6⟩ := hb
    refine ⟨⟨?_, sR_E h rfl rfl rfl rfl b2, oR_E h rfl rfl rfl rfl rfl rfl b3, by rw [h.2 21 rfl]; exact b4, by rw [h.2 22 rfl]; exact b5, by rw [h.2 23 rfl]; exact b6⟩, spC_E h rfl hS⟩
    unfold tX
    rw [h.1 1 rfl, h.2 2 rfl]
    exact b1
  have key := cE_f (t := t) (T := T) (L := L) (C := C) hA.inc (strT T L 0 T.length) strT_srt (fun i hi x hx e => by have := (strT_mm hi).2; rw [← e, (hA.tok x hx).2] at this; exact absurd this (by decide))
  have run : ∀ v17 : Int32, beR (cE T none (strT T L 0 T.length)) (zf (zf s 17 v17) 18 a1) → zWv xs (d + 1) 5 22 [(0, .ref 27), (1, .int a1), (2, .int 0)] (zf (zf s 17 v17) 18 a1) Q := by
    intro v17 hE
    have hz : zE [17, 18] [] s (zf (zf s 17 v17) 18 a1) := zE_f (zE_f (zE_r s) rfl) rfl
    obtain ⟨k1, k2⟩ := hbE _ hz
    refine ct_5l xs d (by omega) k1 hA k2 hI (strT T L 0 T.length) (fun j hj => strT_mm hj) a1 h1 h0 hE Q C 0 0 List.drop_zero rfl (fun s1 g1 g2 => hQ s1 ?_ (zE_t hz g2))
    rw [key] at g1
    exact g1
  refine vc_5_0 xs d s a1 Q ⟨fun h => run 0 ?_, fun h => run 7 ?_⟩
  · cases hst : strT T L 0 T.length with
    | nil => rw [hst] at h1; exact ⟨rfl, h1⟩
    | cons j f =>
      rw [hst] at h1
      have h1' : a1.toInt = tb T j := h1
      have := h0 j
      omega
  · cases hst : strT T L 0 T.length with
    | nil => rw [hst] at h1; exact absurd h1 h
    | cons j f => rw [hst] at h1; exact ⟨rfl, h1⟩
/-- the class's cells when a text is bound: errors, or what each occurrence stands for -/
def bnR (t : List Int32) (T : List lxT) (L : List pSc) (C : List pOc) (s : zS) : Prop := bR t T L C s ∧ (∃ S, spC t T C S s) ∧ beR (pE2 T (fErr t T L C)) s ∧ ((fErr t T L C).1 = 0 → zP 100 (C.map (of0 t T L C)) (s.2 23) ∧ zP 100 (C.map (kd1 t T L C)) (s.2 22))
/-- bind -/
theorem ct_2 (hd : 6 ≤ d) (hb : bR t T L C s) (hA : Ax T L C) (hB : tkB t T) (hI : tkI T) (a1 : Int32) (h1 : a1.toInt = fst1 T (strT T L 0 T.length)) (Q : zS → Prop) (hQ : ∀ s1, bnR t T L C s1 → zE [17, 18] [21, 22, 23] s s1 → Q s1) : zWv xs d 2 0 [(0, .ref 27), (1, .int a1)] s Q := by
  obtain ⟨d, rfl⟩ : ∃ e, d = e + 1 := ⟨d - 1, by omega⟩
  have hcl : C.length ≤ 100 := by have := hb.2.2.1.2.1.2.1; rw [List.length_map] at this; exact this
  refine vc_2_0 xs d s a1 Q (ct_3 xs d (by omega) hB hcl hb _ (fun s1 S k1 k2 k3 k4 z1 => ?_))
  have hS1 : spC t T C S s1 := ⟨k2, k3, k4⟩
  refine ct_5 xs d (by omega) k1 hA hS1 hI (fun j => (hB.2 j).1) a1 h1 _ (fun s2 g1 z2 => ?_)
  have hb2 : bR t T L C s2 := by
    obtain ⟨b1, b2, b3, b4, b5, b6⟩ := k1
    refine ⟨?_, sR_E z2 rfl rfl rfl rfl b2, oR_E z2 rfl rfl rfl rfl rfl rfl b3, by rw [z2.2 21 rfl]; exact b4, by rw [z2.2 22 rfl]; exact b5, by rw [z2.2 23 rfl]; exact b6⟩
    unfold tX
    rw [z2.1 1 rfl, z2.2 2 rfl]
    exact b1
  have hS2 := spC_E z2 rfl hS1
  have zz1 : zE [17, 18] [21, 22, 23] s s1 := zE_m z1 (fun k _ => rfl) (fun k hk => by simp at hk ⊢; omega)
  have zz2 : zE [17, 18] [21, 22, 23] s1 s2 := zE_m z2 (fun k hk => hk) (fun k _ => rfl)
  have e17 : (s2.1 17).toInt = (fErr t T L C).1 := g1.1
  rw [e17]
  refine ⟨fun hz => ct_2l xs d (by omega) hA Q C.length 0 s2 0 (by omega) (Nat.zero_le _) rfl hb2 hS2 (zP_nil hb2.2.2.2.2.1) (zP_nil hb2.2.2.2.2.2) (fun s3 m1 m2 m3 m4 z3 => hQ s3 ⟨m1, ⟨S, m2⟩, ?_, fun _ => ⟨m3, m4⟩⟩ (zE_t zz1 (zE_t zz2 (zE_m z3 (fun k _ => rfl) (fun k hk => by simp at hk ⊢; omega))))), fun hz => hQ s2 ⟨hb2, ⟨S, hS2⟩, g1, fun h => absurd h hz⟩ (zE_t zz1 zz2)⟩
  exact ⟨by rw [z3.1 17 rfl]; exact g1.1, by rw [z3.1 18 rfl]; exact g1.2⟩
end ER
