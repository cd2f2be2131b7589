/-! Where each occurrence lies, the parents, the order of the scopes, the stray returns. -/
def gL (n : Int) (_ : pSc) (_ : Int) : Int := n
def gS (_ : Int) (r : pSc) (_ : Int) : Int := r.1
def R1 (T : List lxT) (c : pC) (st s : pS) (o : pO) : Prop := st.1 ≤ s.1 ∧ s.2.2.1 = st.2.2.1 + o.2.2.1.length ∧ s.2.2.2 = st.2.2.2 + o.2.2.2.2.1.length ∧ rW o.2.2.1 st.1 s.1 ∧ o.2.2.2.2.1.map (fun x => x.1) = nmT T st.1 s.1 ∧ o.2.2.1.Pairwise (fun a b => rF a < rF b) ∧ o.2.2.2.1.Perm o.2.2.1 ∧ rV gL c.1 o.2.2.1 st.2.2.1 st.1 s.1 (o.2.2.2.2.1.map (fun x => ((x.1 : Int), x.2.1))) ∧ rV gL c.1 o.2.2.1 st.2.2.1 st.1 s.1 (o.2.2.1.map (fun r => (rF r, r.2.1))) ∧ o.2.2.2.2.2 = (rtT T st.1 s.1).filter (fun (t : Nat) => decide (lcG gS o.2.2.1 st.2.2.1 c.2.1 (t : Int) ≠ 1))
theorem rt_f {T : List lxT} {a b : Nat} {p q : Nat → Bool} (h : ∀ t, a ≤ t → t < b → p t = q t) : (rtT T a b).filter p = (rtT T a b).filter q := List.filter_congr (fun t ht => h t (rtT_m ht).1 (rtT_m ht).2)
theorem rV_nil {α : Type} {g : Int → pSc → α → α} {a : α} {W : List pSc} {n lo hi : Int} : rV g a W n lo hi [] := fun p hp => absurd hp List.not_mem_nil
theorem rV_m {α : Type} {g : Int → pSc → α → α} {a : α} {W : List pSc} {n lo hi lo1 hi1 : Int} {P : List (Int × α)} (h : rV g a W n lo hi P) (h1 : lo1 ≤ lo) (h2 : hi ≤ hi1) : rV g a W n lo1 hi1 P := fun p hp => by
  obtain ⟨b1, b2, b3⟩ := h p hp
  exact ⟨by omega, by omega, b3⟩
theorem rV_c {α : Type} {g : Int → pSc → α → α} {a : α} {W : List pSc} {n lo hi : Int} {P Q : List (Int × α)} (h1 : rV g a W n lo hi P) (h2 : rV g a W n lo hi Q) : rV g a W n lo hi (P ++ Q) := fun p hp => by
  rcases List.mem_append.mp hp with h | h
  · exact h1 p h
  · exact h2 p h
section R1
variable {T : List lxT}
/-- a step that gives no rows -/
theorem R1_0 {c : pC} {st s : pS} {o : pO} (h1 : st.1 ≤ s.1) (h2 : s.2.2.1 = st.2.2.1) (h3 : s.2.2.2 = st.2.2.2 + o.2.2.2.2.1.length) (h4 : o.2.2.1 = []) (h5 : o.2.2.2.1 = []) (h6 : o.2.2.2.2.1.map (fun x => x.1) = nmT T st.1 s.1) (h7 : ∀ x ∈ o.2.2.2.2.1, st.1 ≤ x.1 ∧ x.1 < s.1 ∧ x.2.1 = c.1) (h8 : o.2.2.2.2.2 = (rtT T st.1 s.1).filter (fun _ => decide (c.2.1 ≠ 1))) : R1 T c st s o := by
  unfold R1
  rw [h4, h5]
  refine ⟨h1, h2, h3, fun r hr => absurd hr List.not_mem_nil, h6, List.Pairwise.nil, List.Perm.refl _, fun p hp => ?_, rV_nil, h8⟩
  obtain ⟨x, hx, e⟩ := List.mem_map.mp hp
  subst e
  obtain ⟨a1, a2, a3⟩ := h7 x hx
  exact ⟨by show ((st.1 : Nat) : Int) ≤ ((x.1 : Nat) : Int); omega, by show ((x.1 : Nat) : Int) < ((s.1 : Nat) : Int); omega, a3⟩
theorem R1_t {c : pC} {a b e : pS} {o1 o2 : pO} (h1 : R1 T c a b o1) (h2 : R1 T c b e o2) : R1 T c a e (pAp o1 o2) := by
  obtain ⟨a1, a2, a3, a4, a5, a6, a7, a8, a9, a10⟩ := h1
  obtain ⟨b1, b2, b3, b4, b5, b6, b7, b8, b9, b10⟩ := h2
  have hn : ((b.2.2.1 : Nat) : Int) = (a.2.2.1 : Int) + (o1.2.2.1.length : Int) := by omega
  have hab : (a.1 : Int) ≤ (b.1 : Int) := by omega
  have hbe : (b.1 : Int) ≤ (e.1 : Int) := by omega
  rw [hn] at b8 b9 b10
  unfold R1 pAp
  simp only
  refine ⟨by omega, ?_, ?_, rW_a (rW_m a4 (Int.le_refl _) hbe) (rW_m b4 hab (Int.le_refl _)), ?_, ?_, a7.append b7, ?_, ?_, ?_⟩
  · rw [List.length_append]; omega
  · rw [List.length_append]; omega
  · rw [List.map_append, a5, b5, nmT_a a1 b1]
  · refine List.pairwise_append.mpr ⟨a6, b6, fun x hx y hy => ?_⟩
    have := a4 x hx
    have := b4 y hy
    omega
  · rw [List.map_append]
    exact rV_app hab hbe a4 b4 a8 b8
  · rw [List.map_append]
    exact rV_app hab hbe a4 b4 a9 b9
  · rw [rtT_a a1 b1, List.filter_append, a10, b10]
    congr 1
    · exact rt_f (fun t t1 t2 => by rw [lc_app1 b4 (by omega)])
    · exact rt_f (fun t t1 t2 => by rw [lc_app2 a4 (by omega)])
theorem R1_sd (sort : Int) (c : pC) (j : Nat) (st s3 s4 s : pS) (o1 op o : pO) (hs : sort = 1 ∨ sort = 2 ∨ sort = 3) (h1 : R1 T c st s3 o1) (hh : rHd T c.1 st s3 o1) (hj : st.1 < j) (hj2 : j ≤ s3.1) (hx : ∀ x ∈ o1.2.2.2.2.1, x.1 < j) (hp : rPar T (s3.2.2.1 : Int) (pNw s3) s4 op) (h2 : R1 T ((s3.2.2.1 : Int), sort, (s3.2.2.1 : Int), c.2.2.2) s4 s o) : R1 T c st s (pAp o1 (pSd sort c.1 st.1 j s (pAp op o))) := by
  obtain ⟨a1, a2, a3, a4, a5, a6, a7, a8, a9, a10⟩ := h1
  obtain ⟨b1, b2, b3, b4, b5, b6, b7, b8, b9, b10⟩ := h2
  obtain ⟨p1, p2, p3, p4, p5, p6, p7, p8, p9, p10⟩ := hp
  obtain ⟨k0, k1, k2, k3, k4, k5, k6, k7⟩ := hh
  have p1 : s3.1 ≤ s4.1 := p1
  have p2 : s4.2.2.1 = s3.2.2.1 + 1 := p2
  have p3 : s4.2.2.2 = s3.2.2.2 + op.2.2.2.2.1.length := p3
  have p9 : op.2.2.2.2.1 = (nmT T s3.1 s4.1).map (fun t => (t, (s3.2.2.1 : Int), (s3.2.2.1 : Int), 18)) := p9
  have p10 : rtT T s3.1 s4.1 = [] := p10
  have hn : ((s4.2.2.1 : Nat) : Int) = (st.2.2.1 : Int) + 1 := by omega
  have hn3 : ((s3.2.2.1 : Nat) : Int) = (st.2.2.1 : Int) := by omega
  rw [hn] at b8 b9 b10
  rw [hn3] at b8 b9 p9
  obtain ⟨rec, hrec⟩ : ∃ rec : pSc, rec = (sort, c.1, -1, (st.1 : Int), (j : Int), (s.1 : Int), -1, (s.1 : Int), -1) := ⟨_, rfl⟩
  have es : (pAp o1 (pSd sort c.1 st.1 j s (pAp op o))).2.2.1 = rec :: o.2.2.1 := by
    show o1.2.2.1 ++ _ :: (op.2.2.1 ++ o.2.2.1) = _
    rw [k4, p6, hrec]; rfl
  have eb : (pAp o1 (pSd sort c.1 st.1 j s (pAp op o))).2.2.2.1 = rec :: o.2.2.2.1 := by
    show o1.2.2.2.1 ++ _ :: (op.2.2.2.1 ++ o.2.2.2.1) = _
    rw [k5, p7, hrec]; rfl
  have eo : (pAp o1 (pSd sort c.1 st.1 j s (pAp op o))).2.2.2.2.1 = o1.2.2.2.2.1 ++ (op.2.2.2.2.1 ++ o.2.2.2.2.1) := rfl
  have er : (pAp o1 (pSd sort c.1 st.1 j s (pAp op o))).2.2.2.2.2 = o.2.2.2.2.2 := by
    show o1.2.2.2.2.2 ++ (op.2.2.2.2.2 ++ o.2.2.2.2.2) = _
    rw [k6, p8]; rfl
  have c1 : rec.1 = sort := by rw [hrec]
  have c2 : rFr rec = j := by rw [hrec]; rfl
  have c3 : rTo rec = s.1 := by rw [hrec]; rfl
  have c4 : rF rec = st.1 := by rw [hrec]; rfl
  have c5 : rec.2.1 = c.1 := by rw [hrec]
  unfold R1
  rw [es, eb, eo, er]
  refine ⟨by omega, ?_, ?_, ?_, ?_, ?_, List.Perm.cons _ b7, ?_, ?_, ?_⟩
  · rw [List.length_cons]; omega
  · rw [List.length_append, List.length_append]; omega
  · intro r hr
    rcases List.mem_cons.mp hr with h | h
    · subst h
      exact ⟨by omega, by omega, by omega, by omega⟩
    · have := b4 r h
      exact ⟨by omega, this.2.1, this.2.2.1, this.2.2.2⟩
  · rw [List.map_append, List.map_append, a5, b5, p9, List.map_map]
    show nmT T st.1 s3.1 ++ ((nmT T s3.1 s4.1).map (fun t => t) ++ nmT T s4.1 s.1) = _
    rw [List.map_id', ← nmT_a p1 b1, ← nmT_a a1 (by omega)]
  · refine List.pairwise_cons.mpr ⟨fun r hr => ?_, b6⟩
    have := b4 r hr
    omega
  · rw [List.map_append]
    refine rV_sd (mid := s3.1) (by omega) (by omega) (by omega) c3 (by omega) (rW_m b4 (by omega) (Int.le_refl _)) (fun p hp => ?_) ?_
    · obtain ⟨x, hx1, e⟩ := List.mem_map.mp hp
      subst e
      have q1 := (a8 _ hp).1
      have q2 := hx x hx1
      have q3 : x.2.1 = c.1 := by rw [k7 x hx1]
      exact ⟨q1, by rw [c2]; show ((x.1 : Nat) : Int) < (j : Int); omega, q3⟩
    · rw [List.map_append]
      refine rV_c (fun p hp => ?_) (rV_m b8 (by omega) (Int.le_refl _))
      obtain ⟨x, hx1, e⟩ := List.mem_map.mp hp
      subst e
      rw [p9] at hx1
      obtain ⟨t, ht, e⟩ := List.mem_map.mp hx1
      subst e
      unfold nmT at ht
      have ht1 := (List.mem_filter.mp ht).1
      rw [List.mem_range'_1] at ht1
      refine ⟨by show ((s3.1 : Nat) : Int) ≤ (t : Int); omega, by show ((t : Nat) : Int) < (s.1 : Int); omega, ?_⟩
      show (st.2.2.1 : Int) = lcG gL o.2.2.1 ((st.2.2.1 : Int) + 1) (st.2.2.1 : Int) (t : Int)
      rw [rW_lo b4 (by omega)]
  · show rV gL c.1 (rec :: o.2.2.1) st.2.2.1 st.1 s.1 ([(rF rec, rec.2.1)] ++ o.2.2.1.map (fun r => (rF r, r.2.1)))
    refine rV_sd (mid := s3.1) (by omega) (by omega) (by omega) c3 (by omega) (rW_m b4 (by omega) (Int.le_refl _)) (fun p hp => ?_) (rV_m b9 (by omega) (Int.le_refl _))
    rw [List.mem_singleton] at hp
    subst hp
    exact ⟨by show (st.1 : Int) ≤ rF rec; omega, by show rF rec < rFr rec; omega, c5⟩
  · rw [rtT_a a1 (show s3.1 ≤ s.1 by omega), k0, List.nil_append, rtT_a p1 b1, p10, List.nil_append, b10]
    exact rt_f (fun t t1 t2 => by
      rw [lc_sd (g := gS) (a := c.2.1) (mid := s4.1) (hi := s.1) (by omega) (by omega) c3 (by omega) (by omega)]
      show decide (lcG gS o.2.2.1 ((st.2.2.1 : Int) + 1) sort (t : Int) ≠ 1) = decide (lcG gS o.2.2.1 ((st.2.2.1 : Int) + 1) rec.1 (t : Int) ≠ 1)
      rw [c1])
theorem R1_cm (c : pC) (st s3 s6 s7 : pS) (o1 o3 : pO) (y1 y2 : Int) (t91 : tc T st.1 = 91) (h1 : R1 T ((st.2.2.1 : Int), 4, c.2.2.1, c.2.2.2) (pAv T (pNw st)) s3 o1) (t0 : tc T s3.1 = 0) (t24 : tc T (s3.1 + 1) = 24) (h3 : R1 T (c.1, c.2.1, c.2.2.1, c.2.2.2 + 1) (s3.1 + 2, y1, s3.2.2.1, s3.2.2.2 + 1) s6 o3) (t93 : tc T s6.1 = 93) (h7 : s7 = pAv T s6) : R1 T c st s7 (o1.1 ++ o3.1, o1.2.1 ++ o3.2.1, (4, c.1, (s3.2.2.2 : Int), (st.1 : Int), (st.1 : Int) + 1, (s6.1 : Int), ((s3.1 + 2 : Nat) : Int), (s6.1 : Int), (s3.1 : Int)) :: (o1.2.2.1 ++ o3.2.2.1), o1.2.2.2.1 ++ (4, c.1, (s3.2.2.2 : Int), (st.1 : Int), (st.1 : Int) + 1, (s6.1 : Int), ((s3.1 + 2 : Nat) : Int), (s6.1 : Int), (s3.1 : Int)) :: o3.2.2.2.1, o1.2.2.2.2.1 ++ ([(s3.1, (st.2.2.1 : Int), (st.2.2.1 : Int), 2)] ++ o3.2.2.2.2.1), o1.2.2.2.2.2 ++ o3.2.2.2.2.2) := by
  subst h7
  obtain ⟨a1, a2, a3, a4, a5, a6, a7, a8, a9, a10⟩ := h1
  obtain ⟨b1, b2, b3, b4, b5, b6, b7, b8, b9, b10⟩ := h3
  have a1 : st.1 + 1 ≤ s3.1 := a1
  have a2 : s3.2.2.1 = st.2.2.1 + 1 + o1.2.2.1.length := a2
  have a3 : s3.2.2.2 = st.2.2.2 + o1.2.2.2.2.1.length := a3
  have a4 : rW o1.2.2.1 ((st.1 + 1 : Nat) : Int) s3.1 := a4
  have a5 : o1.2.2.2.2.1.map (fun x => x.1) = nmT T (st.1 + 1) s3.1 := a5
  have a8 : rV gL (st.2.2.1 : Int) o1.2.2.1 ((st.2.2.1 + 1 : Nat) : Int) ((st.1 + 1 : Nat) : Int) s3.1 (o1.2.2.2.2.1.map (fun x => ((x.1 : Int), x.2.1))) := a8
  have a9 : rV gL (st.2.2.1 : Int) o1.2.2.1 ((st.2.2.1 + 1 : Nat) : Int) ((st.1 + 1 : Nat) : Int) s3.1 (o1.2.2.1.map (fun r => (rF r, r.2.1))) := a9
  have a10 : o1.2.2.2.2.2 = (rtT T (st.1 + 1) s3.1).filter (fun (t : Nat) => decide (lcG gS o1.2.2.1 ((st.2.2.1 + 1 : Nat) : Int) 4 (t : Int) ≠ 1)) := a10
  have b1 : s3.1 + 2 ≤ s6.1 := b1
  have b2 : s6.2.2.1 = s3.2.2.1 + o3.2.2.1.length := b2
  have b3 : s6.2.2.2 = s3.2.2.2 + 1 + o3.2.2.2.2.1.length := b3
  have b4 : rW o3.2.2.1 ((s3.1 + 2 : Nat) : Int) s6.1 := b4
  have b5 : o3.2.2.2.2.1.map (fun x => x.1) = nmT T (s3.1 + 2) s6.1 := b5
  have b8 : rV gL c.1 o3.2.2.1 s3.2.2.1 ((s3.1 + 2 : Nat) : Int) s6.1 (o3.2.2.2.2.1.map (fun x => ((x.1 : Int), x.2.1))) := b8
  have b9 : rV gL c.1 o3.2.2.1 s3.2.2.1 ((s3.1 + 2 : Nat) : Int) s6.1 (o3.2.2.1.map (fun r => (rF r, r.2.1))) := b9
  have b10 : o3.2.2.2.2.2 = (rtT T (s3.1 + 2) s6.1).filter (fun (t : Nat) => decide (lcG gS o3.2.2.1 s3.2.2.1 c.2.1 (t : Int) ≠ 1)) := b10
  have hn : ((s3.2.2.1 : Nat) : Int) = (st.2.2.1 : Int) + 1 + (o1.2.2.1.length : Int) := by omega
  have hn1 : ((st.2.2.1 + 1 : Nat) : Int) = (st.2.2.1 : Int) + 1 := by omega
  have hl1 : ((st.1 + 1 : Nat) : Int) = (st.1 : Int) + 1 := by omega
  rw [hn] at b8 b9 b10
  rw [hn1] at a8 a9 a10
  rw [hl1] at a4 a8 a9
  obtain ⟨rec, hrec⟩ : ∃ rec : pSc, rec = (4, c.1, (s3.2.2.2 : Int), (st.1 : Int), (st.1 : Int) + 1, (s6.1 : Int), ((s3.1 + 2 : Nat) : Int), (s6.1 : Int), (s3.1 : Int)) := ⟨_, rfl⟩
  rw [← hrec]
  have c1 : rec.1 = 4 := by rw [hrec]
  have c2 : rFr rec = (st.1 : Int) + 1 := by rw [hrec]; rfl
  have c3 : rTo rec = s6.1 := by rw [hrec]; rfl
  have c4 : rF rec = st.1 := by rw [hrec]; rfl
  have c5 : rec.2.1 = c.1 := by rw [hrec]
  have c6 : rSf rec = ((s3.1 + 2 : Nat) : Int) := by rw [hrec]; rfl
  have c7 : rSt rec = s6.1 := by rw [hrec]; rfl
  have h67 : (pAv T s6).1 = s6.1 + 1 := rfl
  unfold R1
  simp only
  rw [h67]
  have r1 : rtT T st.1 (st.1 + 1) = [] := by rw [rtT_1, if_neg (by omega)]
  have r2 : rtT T s3.1 (s3.1 + 2) = [] := rtT_no (fun t t1 t2 => by
    rcases (by omega : t = s3.1 ∨ t = s3.1 + 1) with e | e
    · subst e; omega
    · subst e; omega)
  have r3 : rtT T s6.1 (s6.1 + 1) = [] := by rw [rtT_1, if_neg (by omega)]
  have m1 : nmT T st.1 (st.1 + 1) = [] := by rw [nmT_1, if_neg (by omega)]
  have m2 : nmT T s3.1 (s3.1 + 2) = [s3.1] := by rw [nmT_a (b := s3.1 + 1) (by omega) (by omega), nmT_1, if_pos t0, nmT_1, if_neg (by omega)]; rfl
  have m3 : nmT T s6.1 (s6.1 + 1) = [] := by rw [nmT_1, if_neg (by omega)]
  refine ⟨by omega, ?_, ?_, ?_, ?_, ?_, ?_, ?_, ?_, ?_⟩
  · show s6.2.2.1 = _
    rw [List.length_cons, List.length_append]; omega
  · show s6.2.2.2 = _
    rw [List.length_append, List.length_append, List.length_singleton]; omega
  · intro r hr
    rcases List.mem_cons.mp hr with h | h
    · subst h
      exact ⟨by omega, by omega, by omega, by omega⟩
    · rcases List.mem_append.mp h with h | h
      · have := a4 r h
        exact ⟨by omega, this.2.1, this.2.2.1, by omega⟩
      · have := b4 r h
        exact ⟨by omega, this.2.1, this.2.2.1, by omega⟩
  · rw [List.map_append, List.map_append, a5, b5, nmT_a (a := st.1) (b := st.1 + 1) (c := s6.1 + 1) (by omega) (by omega), m1, List.nil_append, nmT_a (a := st.1 + 1) (b := s3.1) (c := s6.1 + 1) (by omega) (by omega), nmT_a (a := s3.1) (b := s3.1 + 2) (c := s6.1 + 1) (by omega) (by omega), m2, nmT_a (a := s3.1 + 2) (b := s6.1) (c := s6.1 + 1) (by omega) (by omega), m3, List.append_nil]
    rfl
  · refine List.pairwise_cons.mpr ⟨fun r hr => ?_, List.pairwise_append.mpr ⟨a6, b6, fun x hx y hy => ?_⟩⟩
    · rcases List.mem_append.mp hr with h | h
      · have := a4 r h; omega
      · have := b4 r h; omega
    · have := a4 x hx; have := b4 y hy; omega
  · exact List.perm_middle.trans (List.Perm.cons _ (a7.append b7))
  · have hP : (o1.2.2.2.2.1 ++ ([(s3.1, (st.2.2.1 : Int), (st.2.2.1 : Int), 2)] ++ o3.2.2.2.2.1)).map (fun (x : pOc) => ((x.1 : Int), x.2.1)) = [] ++ ((o1.2.2.2.2.1.map (fun (x : pOc) => ((x.1 : Int), x.2.1)) ++ [((s3.1 : Int), (st.2.2.1 : Int))]) ++ o3.2.2.2.2.1.map (fun (x : pOc) => ((x.1 : Int), x.2.1))) := by
      simp only [List.map_append, List.map_cons, List.map_nil, List.append_assoc, List.nil_append]
    rw [hP]
    refine rV_cm (m1 := s3.1) (m2 := ((s3.1 + 2 : Nat) : Int)) (m3 := s6.1) c1 c2 c6 c7 c3 (by omega) (by omega) (by omega) (by omega) a4 b4 (fun p hp => absurd hp List.not_mem_nil) (rV_c (rV_m a8 (Int.le_refl _) (by omega)) (fun p hp => ?_)) b8
    rw [List.mem_singleton] at hp
    subst hp
    refine ⟨by show (st.1 : Int) + 1 ≤ (s3.1 : Int); omega, by show (s3.1 : Int) < _; omega, ?_⟩
    show (st.2.2.1 : Int) = lcG gL o1.2.2.1 ((st.2.2.1 : Int) + 1) (st.2.2.1 : Int) (s3.1 : Int)
    rw [rW_hi a4 (Int.le_refl _)]
  · show rV gL c.1 (rec :: (o1.2.2.1 ++ o3.2.2.1)) st.2.2.1 st.1 _ ([(rF rec, rec.2.1)] ++ (o1.2.2.1 ++ o3.2.2.1).map (fun r => (rF r, r.2.1)))
    rw [List.map_append]
    refine rV_cm (m1 := s3.1) (m2 := ((s3.1 + 2 : Nat) : Int)) (m3 := s6.1) c1 c2 c6 c7 c3 (by omega) (by omega) (by omega) (by omega) a4 b4 (fun p hp => ?_) (rV_m a9 (Int.le_refl _) (by omega)) b9
    rw [List.mem_singleton] at hp
    subst hp
    exact ⟨c4, c5⟩
  · rw [rtT_a (a := st.1) (b := st.1 + 1) (c := s6.1 + 1) (by omega) (by omega), r1, List.nil_append, rtT_a (a := st.1 + 1) (b := s3.1) (c := s6.1 + 1) (by omega) (by omega), rtT_a (a := s3.1) (b := s3.1 + 2) (c := s6.1 + 1) (by omega) (by omega), r2, List.nil_append, rtT_a (a := s3.1 + 2) (b := s6.1) (c := s6.1 + 1) (by omega) (by omega), r3, List.append_nil, List.filter_append, a10, b10]
    congr 1
    · refine rt_f (fun t t1 t2 => ?_)
      have e : lcG gS (rec :: (o1.2.2.1 ++ o3.2.2.1)) (st.2.2.1 : Int) c.2.1 (t : Int) = lcG gS o1.2.2.1 ((st.2.2.1 : Int) + 1) 4 (t : Int) := by
        show lcG gS (o1.2.2.1 ++ o3.2.2.1) ((st.2.2.1 : Int) + 1) (if cont rec (t : Int) = true then rec.1 else c.2.1) (t : Int) = _
        rw [cm_in (by omega) (by omega) (by omega), if_pos rfl, c1, lc_app1 b4 (by omega)]
      rw [e]
    · refine rt_f (fun t t1 t2 => ?_)
      have e : lcG gS (rec :: (o1.2.2.1 ++ o3.2.2.1)) (st.2.2.1 : Int) c.2.1 (t : Int) = lcG gS o3.2.2.1 ((st.2.2.1 : Int) + 1 + (o1.2.2.1.length : Int)) c.2.1 (t : Int) := by
        show lcG gS (o1.2.2.1 ++ o3.2.2.1) ((st.2.2.1 : Int) + 1) (if cont rec (t : Int) = true then rec.1 else c.2.1) (t : Int) = _
        rw [cm_out c1 (by omega) (by omega), if_neg (by decide), lc_app2 a4 (by omega)]
      rw [e]
theorem R1_pp : ∀ (k tag : Nat) (ctx : pC) (nest : Nat) (x : Int) (st : pS), (tag = 7 ∨ tag = 8 → x = 4 ∨ x = 8) → pH (pp T k tag ctx nest x st) (R1 T ctx st) := by
  have hone : ∀ (c : pC) (st : pS) (b r : Int), tc T st.1 = 0 → R1 T c st ((pAv T st).1, (pAv T st).2.1, st.2.2.1, st.2.2.2 + 1) ([], [], [], [], [(st.1, c.1, b, r)], []) := by
    intro c st b r h
    refine R1_0 (Nat.le_succ _) rfl rfl rfl rfl ?_ (fun x hx => ?_) ?_
    · show [st.1] = nmT T st.1 (st.1 + 1)
      rw [nmT_1, if_pos h]
    · have hx2 : x ∈ [((st.1, c.1, b, r) : pOc)] := hx
      rw [List.mem_singleton] at hx2
      subst hx2
      exact ⟨Nat.le_refl _, Nat.lt_succ_self _, rfl⟩
    · show [] = (rtT T st.1 (st.1 + 1)).filter _
      rw [rtT_1, if_neg (by omega)]; rfl
  refine pp_ind2 (R := R1 T) ?_ ?_ ?_ ?_ ?_ ?_ ?_ ?_ ?_ ?_
  · intro c st
    refine R1_0 (Nat.le_refl _) rfl rfl rfl rfl (by rw [nmT_0]; rfl) (fun x hx => absurd hx List.not_mem_nil) (by rw [rtT_0]; rfl)
  · intro c a b e o1 o2 h1 h2; exact R1_t h1 h2
  · intro c st h0 h28
    refine R1_0 (Nat.le_succ _) rfl rfl rfl rfl ?_ (fun x hx => absurd hx List.not_mem_nil) ?_
    · show [] = nmT T st.1 (st.1 + 1)
      rw [nmT_1, if_neg h0]
    · show [] = (rtT T st.1 (st.1 + 1)).filter _
      rw [rtT_1, if_neg h28]; rfl
  · intro c st r hr h; exact hone c st c.1 r h
  · intro c st h; exact hone c st _ _ h
  · intro c st b
    exact R1_0 (Nat.le_refl _) rfl rfl rfl rfl (by rw [nmT_0]; rfl) (fun x hx => absurd hx List.not_mem_nil) (by rw [rtT_0]; rfl)
  · intro c st b
    exact R1_0 (Nat.le_refl _) rfl rfl rfl rfl (by rw [nmT_0]; rfl) (fun x hx => absurd hx List.not_mem_nil) (by rw [rtT_0]; rfl)
  · intro c st h
    refine R1_0 (Nat.le_succ _) rfl rfl rfl rfl ?_ (fun x hx => absurd hx List.not_mem_nil) ?_
    · show [] = nmT T st.1 (st.1 + 1)
      rw [nmT_1, if_neg (by omega)]
    · show (if c.2.1 = 1 then [] else [st.1]) = (rtT T st.1 (st.1 + 1)).filter _
      rw [rtT_1, if_pos h]
      by_cases e : c.2.1 = 1
      · rw [if_pos e, List.filter_cons_of_neg (by simpa using e)]; rfl
      · rw [if_neg e, List.filter_cons_of_pos (by simpa using e)]; rfl
  · intro sort c j st s3 s4 s o1 op o hs h1 hh hj hj2 hx hp h2
    exact R1_sd sort c j st s3 s4 s o1 op o hs h1 hh hj hj2 hx hp h2
  · intro c st s3 s6 s7 o1 o3 y1 y2 t91 h1 t0 t24 h3 t93 h7
    exact R1_cm c st s3 s6 s7 o1 o3 y1 y2 t91 h1 t0 t24 h3 t93 h7
end R1
