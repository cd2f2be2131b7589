/-! The reference's pieces, one behind another. -/
def mZ (xs : Option (List Int32)) (d : Nat) (T : List lxT) (nest : Nat) (N : mM) (G : List (Int × Int)) (s : zS) (r : pR) (Q : zS → Prop) : Prop := match r with
  | .inl e => ∀ s1, mFl T e s1 → mE s s1 → Q s1
  | .inr (st, o) => ∀ s1, mI T nest st (mMo N o) G s1 → mE s s1 → mW xs d Q s1
def mB (pl : Nat → Int) (e q : Int) (st : pS) (N : mM) : Prop := (N.1.length : Int) + e ≤ 3 * (st.1 : Int) ∧ 7 * (N.2.1.length : Int) ≤ pl st.1 + 7 + q ∧ (∀ o ∈ N.2.2, o.1 < st.1) ∧ 0 < N.2.1.length
section MZ
variable {xs : Option (List Int32)} {d : Nat} {T : List lxT} {pl : Nat → Int} {nest : Nat} {N : mM} {G : List (Int × Int)} {s : zS} {r : pR} {f : pS → pR} {Q : zS → Prop} {e q : Int} {st : pS}
theorem mZ_m {s2 : zS} (h : mZ xs d T nest N G s r Q) (hE : mE s s2) : mZ xs d T nest N G s2 r Q := by
  match r, h with
  | .inl e, h => exact fun s1 g1 g2 => h s1 g1 (mE_t hE g2)
  | .inr (st, o), h => exact fun s1 g1 g2 => h s1 g1 (mE_t hE g2)
theorem mZ_bd {nest1 : Nat} {G1 : List (Int × Int)} (h : mZ xs d T nest N G s (pBd r f) Q) (k1 : ∀ st1 o1 s1, r = .inr (st1, o1) → mI T nest1 st1 (mMo N o1) G1 s1 → mE s s1 → mZ xs d T nest (mMo N o1) G s1 (f st1) Q → mW xs d Q s1) : mZ xs d T nest1 N G1 s r Q := by
  match r, h, k1 with
  | .inl e, h, _ => exact h
  | .inr (st1, o1), h, k1 =>
    intro s1 g1 g2
    refine k1 st1 o1 s1 rfl g1 g2 ?_
    have h2 : mZ xs d T nest N G s (match f st1 with | .inl e => .inl e | .inr (st2, o2) => .inr (st2, pAp o1 o2)) Q := h
    rcases hf : f st1 with e | ⟨st2, o2⟩
    · rw [hf] at h2
      exact fun s2 q1 q2 => h2 s2 q1 (mE_t g2 q2)
    · rw [hf] at h2
      exact fun s2 q1 q2 => h2 s2 (by rw [mMo_a] at q1; exact q1) (mE_t g2 q2)
theorem mZ_in {st1 : pS} {o1 : pO} {s2 : zS} (h : mZ xs d T nest N G s (pBd (.inr (st1, o1)) f) Q) (hE : mE s s2) : mZ xs d T nest (mMo N o1) G s2 (f st1) Q := by
  have h2 : mZ xs d T nest N G s (match f st1 with | .inl e => .inl e | .inr (st2, o2) => .inr (st2, pAp o1 o2)) Q := h
  rcases hf : f st1 with e | ⟨st2, o2⟩
  · rw [hf] at h2
    exact fun s1 q1 q2 => h2 s1 q1 (mE_t hE q2)
  · rw [hf] at h2
    exact fun s1 q1 q2 => h2 s1 (by rw [mMo_a] at q1; exact q1) (mE_t hE q2)
theorem mB_w {e1 q1 : Int} (h : mB pl e q st N) (he : e1 ≤ e) (hq : q ≤ q1) : mB pl e1 q1 st N := ⟨by have := h.1; omega, by have := h.2.1; omega, h.2.2⟩
theorem mB_o {e1 f1 w1 : Int} {q1 : Nat} {st1 : pS} {o1 : pO} (h : mB pl e q st N) (hq : pQ T pl e1 f1 q1 w1 st st1 o1) (ho : rOc T st st1 o1) : mB pl (e + e1) (q - w1) st1 (mMo N o1) := by
  obtain ⟨h1, h2, h3, h4⟩ := h
  obtain ⟨a1, a2, a3, a4, a5, a6, a7, a8⟩ := hq
  refine ⟨?_, ?_, ?_, ?_⟩
  · show ((N.1 ++ o1.2.1).length : Int) + (e + e1) ≤ _
    rw [List.length_append]; omega
  · show 7 * ((N.2.1 ++ o1.2.2.2.1).length : Int) ≤ _
    rw [List.length_append]; omega
  · intro o hm
    rcases List.mem_append.mp hm with g | g
    · have := h3 o g; omega
    · exact (ho.2.1 o g).2.1
  · show 0 < (N.2.1 ++ o1.2.2.2.1).length
    rw [List.length_append]; omega
theorem mB_tk {c : Int} (hT : tkW T pl) (h : mB pl e q st N) (hi : st.1 < T.length) (hc : tc T st.1 = c) (h7 : c ≠ 7) : mB pl (e + 3) (q - pwl c) (pAv T st) N := by
  obtain ⟨h1, h2, h3, h4⟩ := h
  obtain ⟨g1, g2⟩ := tk_nx hT hi hc h7
  refine ⟨?_, ?_, fun o ho => Nat.lt_succ_of_lt (h3 o ho), h4⟩
  · show _ ≤ 3 * ((st.1 + 1 : Nat) : Int); omega
  · show _ ≤ pl (st.1 + 1) + 7 + _; omega
theorem mB_nm (hT : tkW T pl) (h : mB pl e q st N) (hi : st.1 < T.length) (hc : tc T st.1 = 0) (c b r : Int) (y : Int) (n m : Nat) : mB pl (e + 3) (q - 1) (st.1 + 1, y, n, m) (mMo N ([], [], [], [], [(st.1, c, b, r)], [])) := by
  obtain ⟨h1, h2, h3, h4⟩ := h
  obtain ⟨g1, g2⟩ := tk_nx hT hi hc (by decide)
  have g3 : pl st.1 + ((1 : Nat) : Int) ≤ pl (st.1 + 1) := g2
  have e0 : mMo N ([], [], [], [], [(st.1, c, b, r)], []) = (N.1, N.2.1, N.2.2 ++ [(st.1, c, b, r)]) := by
    unfold mMo
    simp only [List.append_nil]
  rw [e0]
  refine ⟨?_, ?_, fun o ho => ?_, h4⟩
  · show (N.1.length : Int) + _ ≤ 3 * ((st.1 + 1 : Nat) : Int); omega
  · show 7 * (N.2.1.length : Int) ≤ pl (st.1 + 1) + 7 + _; omega
  · show o.1 < st.1 + 1
    rcases List.mem_append.mp ho with g | g
    · have := h3 o g; omega
    · rw [List.mem_singleton] at g
      subst g
      exact Nat.lt_succ_self _
theorem mB_x {b : Int} {m : List (Int × Int)} (h : mB pl e q st N) : mB pl (e - 1) q st (mMo N (m, [(b, st.2.1)], [], [], [], [])) := by
  have e0 : mMo N (m, [(b, st.2.1)], [], [], [], []) = (N.1 ++ [(b, st.2.1)], N.2.1, N.2.2) := by
    unfold mMo
    simp only [List.append_nil]
  rw [e0]
  refine ⟨?_, h.2⟩
  have := h.1
  show ((N.1 ++ [(b, st.2.1)]).length : Int) + _ ≤ _
  rw [List.length_append, List.length_singleton]
  omega
theorem mB_s {row : pSc} (h : mB pl e q st N) : mB pl e (q + 7) st (N.1, N.2.1 ++ [row], N.2.2) := by
  refine ⟨h.1, ?_, h.2.2.1, ?_⟩
  · have := h.2.1
    show 7 * ((N.2.1 ++ [row]).length : Int) ≤ _
    rw [List.length_append, List.length_singleton]
    omega
  · show 0 < (N.2.1 ++ [row]).length
    rw [List.length_append, List.length_singleton]
    omega
theorem mB_r (h : mB pl e q st N) (he : -1 ≤ e) (hq : q ≤ 14) (hi : st.1 < T.length) (hl : T.length ≤ 272) (hpl : ∀ i, pl i ≤ 201) : N.1.length < 1000 ∧ N.2.1.length < 40 := by
  have h1 := h.1
  have h2 := h.2.1
  have h3 := hpl st.1
  omega
end MZ
/-- names don't look at the nesting -/
theorem pp_nest8 (T : List lxT) (ctx : pC) (n m : Nat) (x : Int) : ∀ (k : Nat) (st : pS), pp T k 8 ctx n x st = pp T k 8 ctx m x st := by
  intro k
  induction k with
  | zero => intro st; rfl
  | succ k ih =>
    intro st
    have e : (fun s2 => pp T k 8 ctx n x s2) = (fun s2 => pp T k 8 ctx m x s2) := funext ih
    rw [pp, pp, e]
theorem pp_nest7 (T : List lxT) (k : Nat) (ctx : pC) (n m : Nat) {x : Int} {st : pS} : pp T k 7 ctx n x st = pp T k 7 ctx m x st := by
  cases k with
  | zero => rfl
  | succ k =>
    have e : (fun s2 => pp T k 8 ctx n x s2) = (fun s2 => pp T k 8 ctx m x s2) := funext (pp_nest8 T ctx n m x k)
    rw [pp, pp, e]
theorem rOc_tk {T : List lxT} {c : Int} {st : pS} : pH (pTk T c st) (rOc T st) := by
  unfold pTk
  split
  · exact ⟨Nat.le_succ _, fun x hx => absurd hx List.not_mem_nil, List.Pairwise.nil⟩
  · exact trivial
section MC
variable (xs : Option (List Int32)) (d : Nat) {T : List lxT} {pl : Nat → Int} {nest : Nat} {N : mM} {G : List (Int × Int)} {s : zS} {Q : zS → Prop} {st : pS} {x : Int}
theorem t16 {c : Int} (hI : mI T nest st N (G ++ [(16, x)]) s) (hi : st.1 < T.length) (h8 : c ≠ 8) (hx : ∀ a2 : Int32, a2.toInt = x → isC (a2 / 256).toInt (a2 - a2 / 256 * 256).toInt c) (hZ : mZ xs d T nest N G s (pTk T c st) Q) : mW xs d Q s := by
  unfold pTk at hZ
  refine mg_16 xs d hI hi h8 hx (fun h s1 g1 g2 => ?_) (fun h s1 g1 g2 => ?_)
  · rw [if_pos h] at hZ
    have hZ2 : ∀ s1, mI T nest (pAv T st) (mMo N pO0) G s1 → mE s s1 → mW xs d Q s1 := hZ
    rw [mMo_0] at hZ2
    exact hZ2 s1 g1 g2
  · rw [if_neg h] at hZ
    exact hZ s1 g1 g2
theorem t17 {r c b : Int} (hI : mI T nest st N (G ++ [(17, x)]) s) (hx : x = pmr r) (hi : st.1 < T.length) (hZ : mZ xs d T nest N G s (pNm T r c b st) Q) : mW xs d Q s := by
  unfold pNm at hZ
  subst hx
  refine mg_17 xs d (c := c) (b := b) hI hi (fun h s1 g1 g2 => ?_) (fun h s1 g1 g2 => ?_)
  · rw [if_pos h] at hZ
    exact hZ s1 g1 g2
  · rw [if_neg h] at hZ
    exact hZ s1 g1 g2
theorem t21 {c : Int} (hI : mI T (nest + 1) st N (G ++ [(21, c)]) s) (hi : st.1 < T.length) (hn : nest < 10) (hc : 29 < c) (hc2 : c ≠ 128) (hZ : mZ xs (d + 1) T nest N G s (pTk T c st) Q) : mW xs (d + 1) Q s := by
  unfold pTk at hZ
  refine mg_21 xs d hI hi hn hc hc2 (fun h s1 g1 g2 => ?_) (fun h s1 g1 g2 => ?_)
  · rw [if_pos h] at hZ
    have hZ2 : ∀ s1, mI T nest (pAv T st) (mMo N pO0) G s1 → mE s s1 → mW xs (d + 1) Q s1 := hZ
    rw [mMo_0] at hZ2
    exact hZ2 s1 g1 g2
  · rw [if_neg h] at hZ
    exact hZ s1 g1 g2
theorem t18 (hT : tkW T pl) (ctx : pC) (r : Int) : ∀ (k : Nat) (st : pS) (N : mM) (s : zS), pF (pp T k 8 ctx nest r st) → mI T nest st N (G ++ [(18, pmr r)]) s → st.1 < T.length → G.length + 2 ≤ 240 → mZ xs (d + 1) T nest N G s (pp T k 8 ctx nest r st) Q → mW xs (d + 1) Q s := by
  intro k
  induction k with
  | zero => intro st N s hF; exact absurd rfl hF
  | succ k ih =>
    intro st N s hF hI hi hg hZ
    rw [pp] at hF hZ
    refine mg_18 xs d hI hi hg (fun h s1 g1 g2 => ?_) (fun h s1 g1 g2 => ?_)
    · rw [if_pos h] at hF hZ
      have e1 : pTk T 44 st = .inr (pAv T st, pO0) := by unfold pTk; rw [if_pos h]; rfl
      rw [e1] at hF hZ
      have hF1 := pF_bd2 hF rfl
      have hZ1 := mZ_in hZ g2
      rw [mMo_0] at hZ1
      have hi1 : (pAv T st).1 < T.length := (tk_nx hT hi h (by decide)).1
      refine t17 xs (d + 1) g1 rfl hi1 (mZ_bd hZ1 (fun st2 o2 s2 hr2 q1 q2 hZ2 => ?_))
      exact ih st2 _ s2 (pF_bd2 hF1 hr2) q1 (pH_i (pQ_nm hT hi1) hr2).2.1 hg hZ2
    · rw [if_neg h] at hZ
      have hZ2 : ∀ s1, mI T nest st (mMo N pO0) G s1 → mE s s1 → mW xs (d + 1) Q s1 := hZ
      rw [mMo_0] at hZ2
      exact hZ2 s1 g1 g2
theorem t7 (hT : tkW T pl) (ctx : pC) (r : Int) {k : Nat} (hF : pF (pp T k 7 ctx nest r st)) (hI : mI T nest st N (G ++ [(18, x)] ++ [(17, x)]) s) (hx : x = pmr r) (hi : st.1 < T.length) (hg : G.length + 2 ≤ 240) (hZ : mZ xs (d + 1) T nest N G s (pp T k 7 ctx nest r st) Q) : mW xs (d + 1) Q s := by
  cases k with
  | zero => exact absurd rfl hF
  | succ k =>
    rw [pp] at hF hZ
    refine t17 xs (d + 1) hI hx hi (mZ_bd hZ (fun st2 o2 s2 hr2 q1 q2 hZ2 => ?_))
    subst hx
    exact t18 xs d hT ctx r k st2 _ s2 (pF_bd2 hF hr2) q1 (pH_i (pQ_nm hT hi) hr2).2.1 hg hZ2
theorem t11 (hT : tkW T pl) (ctx : pC) {k : Nat} (nest2 : Nat) (hF : pF (if tc T st.1 = 0 then pp T k 7 ctx nest2 18 st else pOk st)) (hI : mI T nest st N (G ++ [(11, x)]) s) (hi : st.1 < T.length) (hg : G.length + 2 ≤ 240) (hZ : mZ xs (d + 1) T nest N G s (if tc T st.1 = 0 then pp T k 7 ctx nest2 18 st else pOk st) Q) : mW xs (d + 1) Q s := by
  refine mg_11 xs d hI hi hg (fun h s1 g1 g2 => ?_) (fun h s1 g1 g2 => ?_)
  · rw [if_pos h] at hF hZ
    rw [pp_nest7 T k ctx nest2 nest] at hF hZ
    exact t7 xs d hT ctx 18 hF g1 rfl hi hg (mZ_m hZ g2)
  · rw [if_neg h] at hZ
    have hZ2 : ∀ s1, mI T nest st (mMo N pO0) G s1 → mE s s1 → mW xs (d + 1) Q s1 := hZ
    rw [mMo_0] at hZ2
    exact hZ2 s1 g1 g2
/-- a scope's end -/
theorem m15s {sort parent y z : Int} {i j : Nat} {o1 : pO} (hI : mI T (nest + 1) st (mMo (N.1, N.2.1 ++ [(sort, 0, 0, (i : Int), (j : Int), y, -1, z, -1)], N.2.2) o1) (G ++ [(15, (N.2.1.length : Int))]) s) (hn : nest < 10) (h0 : 0 < N.2.1.length) (h : ∀ s1, mI T nest st (mMo N (pSd sort parent i j st o1)) G s1 → mE s s1 → mW xs (d + 1) Q s1) : mW xs (d + 1) Q s := by
  have e1 : mMo (N.1, N.2.1 ++ [(sort, 0, 0, (i : Int), (j : Int), y, -1, z, -1)], N.2.2) o1 = (N.1 ++ o1.2.1, N.2.1 ++ (sort, 0, 0, (i : Int), (j : Int), y, -1, z, -1) :: o1.2.2.2.1, N.2.2 ++ o1.2.2.2.2.1) := by
    unfold mMo
    simp only [List.append_assoc, List.cons_append, List.nil_append]
  rw [e1] at hI
  refine mg_15 xs d hI hn rfl (by omega) (fun s1 g1 g2 => h s1 ?_ g2)
  obtain ⟨k1, k2, k3, k4, k5, k6⟩ := g1
  exact ⟨k1, k2, k3, wR_q (p := parent) (q := -1) k4, k5, k6⟩
end MC
