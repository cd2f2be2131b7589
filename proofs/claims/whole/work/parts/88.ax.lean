/-! An accepted text: its scopes W (the module's first), its occurrences C. -/
def mRow (T : List lxT) : pSc := (0, 0, 0, -1, 0, (T.length : Int), -1, -1, -1)
def Ax (T : List lxT) (L : List pSc) (C : List pOc) : Prop := (∀ x ∈ C, x.2.1 = lcG gL L 1 0 (x.1 : Int)) ∧ (∀ r ∈ L, r.2.1 = lcG gL L 1 0 (rF r)) ∧ (rW L 0 (T.length : Int)) ∧ (L.Pairwise lF) ∧ (C.map (fun x => x.1) = nmT T 0 T.length) ∧ (C.Pairwise (fun a b => a.1 < b.1)) ∧ (∀ x ∈ C, x.1 < T.length ∧ tc T x.1 = 0) ∧ (∀ x ∈ C, x.2.2.2 = 1 ∨ x.2.2.2 = 2 ∨ x.2.2.2 = 4 ∨ x.2.2.2 = 8 ∨ x.2.2.2 = 18 ∨ x.2.2.2 = 34 ∨ x.2.2.2 = 98) ∧ (∀ x ∈ C, ¬ wal x → x.2.2.1 = x.2.1) ∧ (∀ r ∈ L, r.1 = 1 ∨ r.1 = 2 ∨ r.1 = 3 ∨ r.1 = 4) ∧ (∀ x ∈ C, wal x → ∃ k, k < (0 :: sS L).length ∧ pch (0 :: sS L) (0 :: sP L) k x.2.1 x.2.2.1) ∧ (∀ x ∈ C, wal x → (x.2.2.2 = 98 ↔ ∃ r ∈ L, inS r (x.1 : Int) = true)) ∧ (∀ r ∈ L, r.1 = 4 → ∃ (j : Nat) (y : pOc), r.2.2.1 = (j : Int) ∧ C[j]? = some y ∧ (y.1 : Int) = rLp r) ∧ (C.Pairwise pD)
theorem Ax.lies {T : List lxT} {L : List pSc} {C : List pOc} (h : Ax T L C) : ∀ x ∈ C, x.2.1 = lcG gL L 1 0 (x.1 : Int) := h.1
theorem Ax.par {T : List lxT} {L : List pSc} {C : List pOc} (h : Ax T L C) : ∀ r ∈ L, r.2.1 = lcG gL L 1 0 (rF r) := h.2.1
theorem Ax.rows {T : List lxT} {L : List pSc} {C : List pOc} (h : Ax T L C) : rW L 0 (T.length : Int) := h.2.2.1
theorem Ax.srt {T : List lxT} {L : List pSc} {C : List pOc} (h : Ax T L C) : L.Pairwise lF := h.2.2.2.1
theorem Ax.nms {T : List lxT} {L : List pSc} {C : List pOc} (h : Ax T L C) : C.map (fun x => x.1) = nmT T 0 T.length := h.2.2.2.2.1
theorem Ax.inc {T : List lxT} {L : List pSc} {C : List pOc} (h : Ax T L C) : C.Pairwise (fun a b => a.1 < b.1) := h.2.2.2.2.2.1
theorem Ax.tok {T : List lxT} {L : List pSc} {C : List pOc} (h : Ax T L C) : ∀ x ∈ C, x.1 < T.length ∧ tc T x.1 = 0 := h.2.2.2.2.2.2.1
theorem Ax.rol {T : List lxT} {L : List pSc} {C : List pOc} (h : Ax T L C) : ∀ x ∈ C, x.2.2.2 = 1 ∨ x.2.2.2 = 2 ∨ x.2.2.2 = 4 ∨ x.2.2.2 = 8 ∨ x.2.2.2 = 18 ∨ x.2.2.2 = 34 ∨ x.2.2.2 = 98 := h.2.2.2.2.2.2.2.1
theorem Ax.bel {T : List lxT} {L : List pSc} {C : List pOc} (h : Ax T L C) : ∀ x ∈ C, ¬ wal x → x.2.2.1 = x.2.1 := h.2.2.2.2.2.2.2.2.1
theorem Ax.srts {T : List lxT} {L : List pSc} {C : List pOc} (h : Ax T L C) : ∀ r ∈ L, r.1 = 1 ∨ r.1 = 2 ∨ r.1 = 3 ∨ r.1 = 4 := h.2.2.2.2.2.2.2.2.2.1
theorem Ax.chn {T : List lxT} {L : List pSc} {C : List pOc} (h : Ax T L C) : ∀ x ∈ C, wal x → ∃ k, k < (0 :: sS L).length ∧ pch (0 :: sS L) (0 :: sP L) k x.2.1 x.2.2.1 := h.2.2.2.2.2.2.2.2.2.2.1
theorem Ax.src {T : List lxT} {L : List pSc} {C : List pOc} (h : Ax T L C) : ∀ x ∈ C, wal x → (x.2.2.2 = 98 ↔ ∃ r ∈ L, inS r (x.1 : Int) = true) := h.2.2.2.2.2.2.2.2.2.2.2.1
theorem Ax.tgt {T : List lxT} {L : List pSc} {C : List pOc} (h : Ax T L C) : ∀ r ∈ L, r.1 = 4 → ∃ (j : Nat) (y : pOc), r.2.2.1 = (j : Int) ∧ C[j]? = some y ∧ (y.1 : Int) = rLp r := h.2.2.2.2.2.2.2.2.2.2.2.2.1
theorem Ax.dcl {T : List lxT} {L : List pSc} {C : List pOc} (h : Ax T L C) : C.Pairwise pD := h.2.2.2.2.2.2.2.2.2.2.2.2.2
theorem lc_b : ∀ (W : List pSc) (n a t : Int), lcG gL W n a t = a ∨ (n ≤ lcG gL W n a t ∧ lcG gL W n a t < n + W.length) := by
  intro W
  induction W with
  | nil => intro n a t; exact Or.inl rfl
  | cons r W ih =>
    intro n a t
    show lcG gL W (n + 1) (if cont r t = true then n else a) t = a ∨ (n ≤ lcG gL W (n + 1) (if cont r t = true then n else a) t ∧ lcG gL W (n + 1) (if cont r t = true then n else a) t < n + ((W.length + 1 : Nat) : Int))
    rcases ih (n + 1) (if cont r t = true then n else a) t with h | h
    · rw [h]
      split
      · exact Or.inr ⟨Int.le_refl _, by omega⟩
      · exact Or.inl rfl
    · exact Or.inr ⟨by omega, by omega⟩
theorem pch_b {ss ps : List Int} : ∀ {k : Nat} {c ow : Int}, pch ss ps k c ow → 0 ≤ ow ∧ ow < (ss.length : Int) := by
  intro k
  induction k with
  | zero => intro c ow h; obtain ⟨h1, h2, h3, h4⟩ := h; subst h4; exact ⟨h1, h2⟩
  | succ k ih => intro c ow h; exact ih h.2.2.2
theorem pp13_e {T : List lxT} : ∀ (k : Nat) (ctx : pC) (x : Int) (st s : pS) (o : pO), pp T k 13 ctx 0 x st = .inr (s, o) → tc T s.1 = 7 := by
  intro k
  induction k with
  | zero => intro ctx x st s o h; cases h
  | succ k ih =>
    intro ctx x st s o h
    rw [pp] at h
    split at h
    · rename_i h7
      cases h
      exact h7
    · obtain ⟨s1, o1, o2, h1, h2, h3⟩ := pBd_inr h
      exact ih ctx 0 s1 s o2 h2
theorem Ax_pp {T : List lxT} {pl : Nat → Int} (hT : tkW T pl) {k : Nat} {s : pS} {o : pO} (h : pp T k 13 (0, 0, 0, 0) 0 0 (0, 0, 1, 0) = .inr (s, o)) : Ax T o.2.2.1 o.2.2.2.2.1 ∧ s.1 + 1 = T.length := by
  have h7 := pp13_e k _ _ _ _ _ h
  have hq := pH_i (pQ_pp hT k 13 (0, 0, 0, 0) 0 0 (0, 0, 1, 0) hT.1) h
  have hsl : s.1 + 1 = T.length := by
    have h1 := hq.2.1
    by_cases e : s.1 + 1 < T.length
    · exact absurd h7 (hT.2.2 s.1 e).1
    · omega
  have ht : (13 : Nat) = 7 ∨ (13 : Nat) = 8 → (0 : Int) = 4 ∨ (0 : Int) = 8 := fun e => by omega
  obtain ⟨⟨a1, a2, a3, a4, a5, a6, a7, a8, a9, a10⟩, b1, b2⟩ := pH_i (R2_pp k 13 (0, 0, 0, 0) 0 0 (0, 0, 1, 0) ht) h
  have c3 := (pH_i (R3_pp k 13 (0, 0, 0, 0) 0 0 (0, 0, 1, 0) ht) h).2
  have c4 := (pH_i (R4_pp k 13 (0, 0, 0, 0) 0 0 (0, 0, 1, 0) ht) h).2
  have c5 := (pH_i (R5_pp k 13 (0, 0, 0, 0) 0 0 (0, 0, 1, 0) ht) h).2
  have c6 := (pH_i (R6_pp k 13 (0, 0, 0, 0) 0 0 (0, 0, 1, 0) ht) h).2
  obtain ⟨r1, r2, r3⟩ := pH_i (rOc_pp k 13 (0, 0, 0, 0) 0 0 (0, 0, 1, 0)) h
  refine ⟨⟨fun x hx => ?_, fun r hr => ?_, ?_, a6, ?_, r3, fun x hx => ?_, fun x hx => (b1 x hx).1, fun x hx => (b1 x hx).2, b2, fun x hx hw => ?_, fun x hx hw => ?_, fun r hr h4 => ?_, ?_⟩, hsl⟩
  · exact (a8 ((x.1 : Int), x.2.1) (List.mem_map.mpr ⟨x, hx, rfl⟩)).2.2
  · exact (a9 (rF r, r.2.1) (List.mem_map.mpr ⟨r, hr, rfl⟩)).2.2
  · exact rW_m a4 (by show (0 : Int) ≤ ((0 : Nat) : Int); omega) (by omega)
  · have a5' : o.2.2.2.2.1.map (fun x => x.1) = nmT T 0 s.1 := a5
    rw [a5', ← hsl, nmT_a (a := 0) (b := s.1) (c := s.1 + 1) (by omega) (by omega), nmT_1, if_neg (by omega), List.append_nil]
  · have := r2 x hx
    exact ⟨by omega, this.2.2⟩
  · exact c3 [0] [0] rfl rfl ⟨0, by decide, by decide, by decide, by decide, rfl⟩ x hx hw
  · rw [c4.1 x hx hw]
    exact ⟨fun hh => hh.elim (fun h0 => absurd h0 (by decide)) (fun h0 => h0), fun hh => Or.inr hh⟩
  · obtain ⟨j, y, g1, g2, g3⟩ := c5 r hr h4
    have g1' : r.2.2.1 = ((0 : Nat) : Int) + (j : Int) := g1
    exact ⟨j, y, by omega, g2, g3⟩
  · exact (c6 (by decide) (by decide)).2.2
section AX
variable {T : List lxT} {L : List pSc} {C : List pOc} (hA : Ax T L C)
theorem ax_l (hA : Ax T L C) {x : pOc} (hx : x ∈ C) : 0 ≤ x.2.1 ∧ x.2.1 < (L.length : Int) + 1 := by
  rw [hA.lies x hx]
  rcases lc_b L 1 0 (x.1 : Int) with h | h
  · rw [h]; omega
  · omega
theorem ax_p (hA : Ax T L C) {A B : List pSc} {r : pSc} (h : L = A ++ r :: B) : 0 ≤ r.2.1 ∧ r.2.1 < (A.length : Int) + 1 := by
  have hm : r ∈ L := by rw [h]; exact List.mem_append_right _ (List.mem_cons_self ..)
  have hs := hA.srt
  have hw := hA.rows
  rw [h] at hs
  have hs2 := (List.pairwise_cons.mp (List.pairwise_append.mp hs).2.1).1
  have e : lcG gL L 1 0 (rF r) = lcG gL A 1 0 (rF r) := by
    rw [h, lcG_app]
    refine lcG_no (fun q hq => cont_lo ?_) _ _
    have h1 := hw q (by rw [h]; exact List.mem_append_right _ hq)
    rcases List.mem_cons.mp hq with e | e
    · subst e; omega
    · have : rF r < rF q := hs2 q e
      omega
  rw [hA.par r hm, e]
  rcases lc_b A 1 0 (rF r) with h | h
  · rw [h]; omega
  · omega
theorem ax_b (hA : Ax T L C) {x : pOc} (hx : x ∈ C) : 0 ≤ x.2.2.1 ∧ x.2.2.1 < (L.length : Int) + 1 := by
  by_cases hw : wal x
  · obtain ⟨k, _, h2⟩ := hA.chn x hx hw
    have h3 := pch_b h2
    rw [List.length_cons, sS_l] at h3
    omega
  · rw [hA.bel x hx hw]
    exact ax_l hA hx
theorem rrl_get {n : Nat} {x : pOc} (hi : C.Pairwise (fun a b => a.1 < b.1)) (hx : x ∈ C) (hn : x.1 < n) : (rrl n C).getD x.1 0 = pmr x.2.2.2 := by
  obtain ⟨A, B, e⟩ := List.append_of_mem hx
  subst e
  have hs := (List.pairwise_cons.mp (List.pairwise_append.mp hi).2.1).1
  unfold rrl
  rw [List.foldl_append, List.foldl_cons, List.getD_eq_getElem?_getD, rrl_i x.1 B _ (fun o ho => by have : x.1 < o.1 := hs o ho; omega), List.getElem?_set_self (by rw [rrl_l, List.length_replicate]; exact hn)]
  rfl
end AX
/-- the reference's cells when a text is looked at -/
def nR (T : List lxT) (L : List pSc) (C : List pOc) (s : zS) : Prop := mkR T s ∧ wR (mRow T :: L) s ∧ rlR (rrl T.length C) s ∧ (s.1 32).toInt = (C.length : Int) ∧ zP 200 (C.map (fun x => (x.1 : Int))) (s.2 51)
theorem pmr_3 {r : Int} (h : r = 1 ∨ r = 2 ∨ r = 4 ∨ r = 8 ∨ r = 18 ∨ r = 34 ∨ r = 98) : pmr r = 3 ↔ (r = 34 ∨ r = 98) := by
  rcases h with h | h | h | h | h | h | h <;> subst h <;> decide
section MB
variable (xs : Option (List Int32)) (d : Nat) {T : List lxT} {L : List pSc} {C : List pOc} {s : zS}
theorem nR_nm (hN : nR T L C s) {o : Nat} {x : pOc} (hx : C[o]? = some x) : zX (s.2 51) (o : Int) ∧ (zg (s.2 51) (o : Int)).toInt = (x.1 : Int) := by
  obtain ⟨h1, h2, h3, h4, h5⟩ := hN
  have ho : o < C.length := by
    by_cases h : o < C.length
    · exact h
    · rw [List.getElem?_eq_none (by omega)] at hx; cases hx
  have hl := h5.2.1
  rw [List.length_map] at hl
  refine ⟨zP_X h5 (by decide) (by omega) (by omega), ?_⟩
  rw [zP_get h5 (by omega) (by rw [List.length_map]; omega), show ((o : Int)).toNat = o by omega, List.getD_eq_getElem?_getD, List.getElem?_map, hx]
  rfl
theorem nR_rl (hN : nR T L C s) (hA : Ax T L C) {x : pOc} (hx : x ∈ C) : zX (s.2 38) (x.1 : Int) ∧ (zg (s.2 38) (x.1 : Int)).toInt = pmr x.2.2.2 := by
  obtain ⟨h1, h2, h3, h4, h5⟩ := hN
  have ht := (hA.tok x hx).1
  have hl := h3.2.1
  rw [rrl_len] at hl
  refine ⟨zP_X h3 (by decide) (by omega) (by omega), ?_⟩
  rw [zP_get h3 (by omega) (by rw [rrl_len]; omega), show ((x.1 : Int)).toNat = x.1 by omega]
  exact rrl_get hA.inc hx ht
/-- parent -/
theorem ct_167 (hd : 2 ≤ d) (hN : nR T L C s) (hA : Ax T L C) (a : Int32) (h0 : 0 ≤ a.toInt) (h1 : a.toInt < (L.length : Int) + 1) (Q : Int32 → zS → Prop) (hQ : ∀ v : Int32, v.toInt = (0 :: sP L).getD a.toInt.toNat 0 → Q v s) : zWi xs d 167 0 [(0, .ref 32), (1, .int a)] s Q := by
  obtain ⟨d, rfl⟩ : ∃ e, d = e + 1 := ⟨d - 1, by omega⟩
  refine vc_167_0 xs d s a Q ⟨fun e => hQ 0 ?_, fun e => ?_⟩
  · rw [show a.toInt.toNat = 0 by omega]; rfl
  · obtain ⟨i, hi⟩ : ∃ i, a.toInt.toNat = i + 1 := ⟨a.toInt.toNat - 1, by omega⟩
    have hil : i < L.length := by omega
    obtain ⟨A, B, r, hL, hAl⟩ : ∃ A B r, L = A ++ r :: B ∧ A.length = i := ⟨L.take i, L.drop (i + 1), L[i], by rw [List.getElem_cons_drop, List.take_append_drop], List.length_take_of_le (by omega)⟩
    have hw : wR ((mRow T :: A) ++ r :: B) s := by
      have := hN.2.1
      rw [hL] at this
      exact this
    have hlw : ((mRow T :: A) ++ r :: B).length = A.length + 1 + (B.length + 1) := by rw [List.length_append, List.length_cons, List.length_cons]
    obtain ⟨_, x2, _⟩ := wX hw (i := a.toInt) h0 (by rw [hL, List.length_append, List.length_cons] at h1; omega)
    have e2 : (zg (s.2 45) a.toInt).toInt = rF r := wG (f := fun x => x.2.2.2.1) hw.2.2.1 (by rw [List.length_cons]; omega)
    refine ⟨x2, ct_166 xs d (by omega) hN.2.1 _ _ (fun v hv => hQ v ?_)⟩
    rw [hv, e2, ← hA.par r (by rw [hL]; exact List.mem_append_right _ (List.mem_cons_self ..)), hi]
    show r.2.1 = (sP L).getD i 0
    unfold sP
    rw [hL, List.map_append, getD_app, if_neg (by rw [List.length_map]; omega), List.length_map, hAl, Nat.sub_self]
    rfl
theorem ct_168l (hd : 3 ≤ d) (hN : nR T L C s) (hA : Ax T L C) {o : Nat} {x : pOc} (hx : C[o]? = some x) (a1 : Int32) (h1 : a1.toInt = o) (hw : wal x) (Q : Int32 → zS → Prop) (hQ : ∀ v : Int32, v.toInt = x.2.2.1 → Q v s) : ∀ (k : Nat) (a2 : Int32), pch (0 :: sS L) (0 :: sP L) k a2.toInt x.2.2.1 → zWi xs d 168 11 [(0, .ref 32), (1, .int a1), (2, .int a2)] s Q := by
  obtain ⟨d, rfl⟩ : ∃ e, d = e + 1 := ⟨d - 1, by omega⟩
  have hm : x ∈ C := List.mem_of_getElem? hx
  obtain ⟨n1, n2⟩ := nR_nm hN hx
  obtain ⟨r1, r2⟩ := nR_rl hN hA hm
  have h3 : pmr x.2.2.2 = 3 := (pmr_3 (hA.rol x hm)).mpr hw
  have hsort : ∀ a2 : Int32, 0 ≤ a2.toInt → a2.toInt < ((0 :: sS L).length : Int) → zX (s.2 44) a2.toInt ∧ (zg (s.2 44) a2.toInt).toInt = (0 :: sS L).getD a2.toInt.toNat 0 := by
    intro a2 g0 g1
    have e : (mRow T :: L).map (fun x => x.1) = 0 :: sS L := rfl
    rw [List.length_cons, sS_l] at g1
    refine ⟨(wX hN.2.1 g0 (by rw [List.length_cons]; exact g1)).1, ?_⟩
    rw [← e]
    exact zP_get hN.2.1.2.1 g0 (by rw [List.length_map, List.length_cons]; exact g1)
  intro k
  induction k with
  | zero =>
    intro a2 hp
    obtain ⟨g1, g2, g3, g4⟩ := hp
    obtain ⟨z1, z2⟩ := hsort a2 g1 g2
    refine vc_168_11 xs d s a1 a2 Q ?_
    rw [h1, n2, r2, z2]
    exact ⟨n1, r1, fun _ => ⟨z1, fun h => absurd h g3, fun _ => hQ a2 g4⟩, fun h => absurd h3 h⟩
  | succ k ih =>
    intro a2 hp
    obtain ⟨g1, g2, g3, g4⟩ := hp
    obtain ⟨z1, z2⟩ := hsort a2 g1 g2
    rw [List.length_cons, sS_l] at g2
    refine vc_168_11 xs d s a1 a2 Q ?_
    rw [h1, n2, r2, z2]
    exact ⟨n1, r1, fun _ => ⟨z1, fun _ => ct_167 xs d (by omega) hN hA a2 g1 g2 _ (fun v hv => ih v (by rw [hv]; exact g4)), fun h => absurd g3 h⟩, fun h => absurd h3 h⟩
/-- belongs -/
theorem ct_168 (hd : 3 ≤ d) (hN : nR T L C s) (hA : Ax T L C) {o : Nat} {x : pOc} (hx : C[o]? = some x) (a1 : Int32) (h1 : a1.toInt = o) (Q : Int32 → zS → Prop) (hQ : ∀ v : Int32, v.toInt = x.2.2.1 → Q v s) : zWi xs d 168 0 [(0, .ref 32), (1, .int a1)] s Q := by
  have hm : x ∈ C := List.mem_of_getElem? hx
  obtain ⟨n1, n2⟩ := nR_nm hN hx
  obtain ⟨r1, r2⟩ := nR_rl hN hA hm
  have hd0 := hd
  obtain ⟨d, rfl⟩ : ∃ e, d = e + 1 := ⟨d - 1, by omega⟩
  refine vc_168_0 xs d s a1 Q ?_
  rw [h1]
  refine ⟨n1, ct_166 xs d (by omega) hN.2.1 _ _ (fun v hv => ?_)⟩
  rw [n2, ← hA.lies x hm] at hv
  by_cases hw : wal x
  · obtain ⟨k, _, h2⟩ := hA.chn x hm hw
    exact ct_168l xs (d + 1) hd0 hN hA hx a1 h1 hw Q hQ k v (by rw [hv]; exact h2)
  · refine vc_168_11 xs d s a1 v Q ?_
    have h3 : ¬ pmr x.2.2.2 = 3 := fun e => hw ((pmr_3 (hA.rol x hm)).mp e)
    rw [h1, n2, r2]
    exact ⟨n1, r1, fun h => absurd h h3, fun _ => hQ v (by rw [hv, hA.bel x hm hw])⟩
/-- listNames -/
theorem ct_169l (Q : zS → Prop) : ∀ (n t : Nat) (s : zS) (a : Int32), T.length - t = n → t ≤ T.length → a.toInt = t → mkR T s → (s.1 32).toInt = ((nmT T 0 t).length : Int) → zP 200 ((nmT T 0 t).map (fun x => ((x : Nat) : Int))) (s.2 51) → (nmT T 0 T.length).length ≤ 200 → (∀ s1, (s1.1 32).toInt = ((nmT T 0 T.length).length : Int) → zP 200 ((nmT T 0 T.length).map (fun x => ((x : Nat) : Int))) (s1.2 51) → zE [32] [51] s s1 → Q s1) → zWv xs d 169 7 [(0, .ref 32), (1, .int a)] s Q := by
  intro n
  induction n with
  | zero =>
    intro t s a hn ht ha hk hc hz hm hQ
    have e : t = T.length := by omega
    subst e
    refine vc_169_7 xs d s a Q ⟨fun h => by rw [ha, hk.1] at h; omega, fun _ => hQ s hc hz (zE_r s)⟩
  | succ n ih =>
    intro t s a hn ht ha hk hc hz hm hQ
    have hl : T.length ≤ 420 := by have := hk.2.1.2.1; rw [List.length_map] at this; exact this
    obtain ⟨c1, _, _, _, c5, _⟩ := mk_c hk (i := t) (by omega)
    have e1 : (a + 1).toInt = ((t + 1 : Nat) : Int) := ti_inc ha (by omega)
    have hk0 : lx_kd (tc T t) = 0 ↔ tc T t = 0 := by
      unfold lx_kd
      split
      · exact Iff.rfl
      · split <;> omega
    have hs1 : nmT T 0 (t + 1) = nmT T 0 t ++ nmT T t (t + 1) := nmT_a (by omega) (by omega)
    have hs2 : nmT T 0 T.length = nmT T 0 (t + 1) ++ nmT T (t + 1) T.length := nmT_a (by omega) (by omega)
    refine vc_169_7 xs d s a Q ⟨fun _ => ?_, fun h => by rw [ha, hk.1] at h; omega⟩
    rw [ha, c5, hk0]
    refine ⟨c1, fun h0 => ?_, fun h0 => ?_⟩
    · rw [nmT_1, if_pos h0] at hs1
      have hlt : (nmT T 0 t).length < 200 := by
        have : (nmT T 0 (t + 1)).length ≤ (nmT T 0 T.length).length := by rw [hs2, List.length_append]; omega
        rw [hs1, List.length_append, List.length_singleton] at this
        omega
      refine ⟨zP_X hz (by decide) (by omega) (by omega), ?_⟩
      have hE : zE [32] [51] s (zf (za s 51 (zu (s.2 51) (s.1 32).toInt a)) 32 ((s.1 32) + 1)) := zE_f (zE_a (zE_r s) rfl) rfl
      refine ih (t + 1) _ (a + 1) (by omega) (by omega) e1 (mkR_E hE rfl rfl rfl rfl rfl hk) ?_ ?_ hm (fun s1 g1 g2 g3 => hQ s1 g1 g2 (zE_t hE g3))
      · show ((s.1 32) + 1).toInt = _
        rw [ti_1 hc (by omega) (by omega), hs1, List.length_append]; rfl
      · show zP 200 _ (zu (s.2 51) (s.1 32).toInt a)
        rw [hs1, List.map_append]
        show zP 200 (_ ++ [((t : Nat) : Int)]) _
        rw [← ha]
        exact zP_add hz (by rw [List.length_map]; exact hc) (by rw [List.length_map]; exact hlt)
    · rw [nmT_1, if_neg h0, List.append_nil] at hs1
      exact ih (t + 1) s (a + 1) (by omega) (by omega) e1 hk (by rw [hs1]; exact hc) (by rw [hs1]; exact hz) hm hQ
end MB
