/-! The reference's parser: what its cells hold. -/
abbrev mM : Type := List (Int × Int) × List pSc × List pOc
def mMo (N : mM) (o : pO) : mM := (N.1 ++ o.2.1, N.2.1 ++ o.2.2.2.1, N.2.2 ++ o.2.2.2.2.1)
theorem mMo_a (N : mM) (a b : pO) : mMo (mMo N a) b = mMo N (pAp a b) := by
  unfold mMo pAp
  simp only [List.append_assoc]
theorem mMo_0 (N : mM) : mMo N pO0 = N := by
  unfold mMo pO0
  simp only [List.append_nil]
def pmr (r : Int) : Int := if r = 1 then 0 else if r = 2 then 1 else if r = 18 then 2 else if r = 4 then 4 else if r = 8 then 5 else 3
def rrl (n : Nat) (C : List pOc) : List Int := C.foldl (fun r o => r.set o.1 (pmr o.2.2.2)) (List.replicate n 0)
theorem rrl_s (n : Nat) (C : List pOc) (o : pOc) : rrl n (C ++ [o]) = (rrl n C).set o.1 (pmr o.2.2.2) := by
  unfold rrl
  rw [List.foldl_append]
  rfl
theorem rrl_l (C : List pOc) : ∀ a : List Int, (C.foldl (fun r o => r.set o.1 (pmr o.2.2.2)) a).length = a.length := by
  induction C with
  | nil => intro a; rfl
  | cons x r ih => intro a; rw [List.foldl_cons, ih, List.length_set]
theorem rrl_len (n : Nat) (C : List pOc) : (rrl n C).length = n := by
  unfold rrl
  rw [rrl_l, List.length_replicate]
theorem rrl_i (i : Nat) (C : List pOc) : ∀ a : List Int, (∀ o ∈ C, o.1 ≠ i) → (C.foldl (fun r o => r.set o.1 (pmr o.2.2.2)) a)[i]? = a[i]? := by
  induction C with
  | nil => intro a _; rfl
  | cons x r ih =>
    intro a h
    rw [List.foldl_cons, ih _ (fun o ho => h o (List.mem_cons_of_mem _ ho)), List.getElem?_set_ne (h x (List.mem_cons_self ..))]
theorem rrl_z {n : Nat} {C : List pOc} {i : Nat} (h : ∀ o ∈ C, o.1 < i) (hi : i < n) : (rrl n C).set i 0 = rrl n C := by
  apply List.ext_getElem?
  intro j
  by_cases e : i = j
  · subst e
    have h1 : (rrl n C)[i]? = some 0 := by
      unfold rrl
      rw [rrl_i i C _ (fun o ho => Nat.ne_of_lt (h o ho)), List.getElem?_replicate, if_pos hi]
    rw [List.getElem?_set_self (by rw [rrl_len]; exact hi), h1]
  · rw [List.getElem?_set_ne e]
def eR (E : List (Int × Int)) (s : zS) : Prop := (s.1 30).toInt = (E.length : Int) ∧ zP 1000 (E.map (fun e => e.1)) (s.2 42) ∧ zP 1000 (E.map (fun e => e.2)) (s.2 43)
def wR (W : List pSc) (s : zS) : Prop := (s.1 31).toInt = (W.length : Int) ∧ zP 40 (W.map (fun x => x.1)) (s.2 44) ∧ zP 40 (W.map (fun x => x.2.2.2.1)) (s.2 45) ∧ zP 40 (W.map (fun x => x.2.2.2.2.1)) (s.2 46) ∧ zP 40 (W.map (fun x => x.2.2.2.2.2.1)) (s.2 47) ∧ zP 40 (W.map (fun x => x.2.2.2.2.2.2.1)) (s.2 48) ∧ zP 40 (W.map (fun x => x.2.2.2.2.2.2.2.1)) (s.2 49) ∧ zP 40 (W.map (fun x => x.2.2.2.2.2.2.2.2)) (s.2 50)
def gR (G : List (Int × Int)) (s : zS) : Prop := (s.1 26).toInt = (G.length : Int) ∧ zP 240 (G.map (fun e => e.1)) (s.2 40) ∧ zP 240 (G.map (fun e => e.2)) (s.2 41)
def mU (st : pS) (nest : Nat) (s : zS) : Prop := (s.1 24).toInt = st.1 ∧ (s.1 25).toInt = nest ∧ (s.1 27).toInt = st.2.1 ∧ (s.1 28).toInt = 0
def mI (T : List lxT) (nest : Nat) (st : pS) (N : mM) (G : List (Int × Int)) (s : zS) : Prop := mkR T s ∧ mU st nest s ∧ eR N.1 s ∧ wR N.2.1 s ∧ rlR (rrl T.length N.2.2) s ∧ gR G s
def mL (s : zS) : Prop := (s.2 38).length = 420 ∧ (s.2 40).length = 240 ∧ (s.2 41).length = 240 ∧ (s.2 42).length = 1000 ∧ (s.2 43).length = 1000 ∧ (s.2 44).length = 40 ∧ (s.2 45).length = 40 ∧ (s.2 46).length = 40 ∧ (s.2 47).length = 40 ∧ (s.2 48).length = 40 ∧ (s.2 49).length = 40 ∧ (s.2 50).length = 40
theorem mI_L {T : List lxT} {nest : Nat} {st : pS} {N : mM} {G : List (Int × Int)} {s : zS} (h : mI T nest st N G s) : mL s := by
  obtain ⟨_, _, ⟨_, e2, e3⟩, ⟨_, w1, w2, w3, w4, w5, w6, w7⟩, r, ⟨_, g1, g2⟩⟩ := h
  exact ⟨r.1, g1.1, g2.1, e2.1, e3.1, w1.1, w2.1, w3.1, w4.1, w5.1, w6.1, w7.1⟩
def mFl (T : List lxT) (e : Int × Int) (s : zS) : Prop := mkR T s ∧ mL s ∧ (s.1 28).toInt = e.1 ∧ ∃ i : Nat, i < T.length ∧ (s.1 29).toInt = i ∧ tb T i = e.2
def mE (s s1 : zS) : Prop := zE [24, 25, 26, 27, 28, 29, 30, 31] [38, 40, 41, 42, 43, 44, 45, 46, 47, 48, 49, 50] s s1
theorem mE_r (s : zS) : mE s s := zE_r s
theorem mE_t {s s1 s2 : zS} (h1 : mE s s1) (h2 : mE s1 s2) : mE s s2 := zE_t h1 h2
theorem eR_E {F A : List Nat} {s s1 : zS} {E : List (Int × Int)} (h : zE F A s s1) (h1 : F.contains 30 = false) (h2 : A.contains 42 = false) (h3 : A.contains 43 = false) (hx : eR E s) : eR E s1 := by
  unfold eR; rw [h.1 30 h1, h.2 42 h2, h.2 43 h3]; exact hx
theorem wR_E {F A : List Nat} {s s1 : zS} {W : List pSc} (h : zE F A s s1) (h1 : F.contains 31 = false) (h4 : A.contains 44 = false) (h5 : A.contains 45 = false) (h6 : A.contains 46 = false) (h7 : A.contains 47 = false) (h8 : A.contains 48 = false) (h9 : A.contains 49 = false) (h10 : A.contains 50 = false) (hx : wR W s) : wR W s1 := by
  unfold wR; rw [h.1 31 h1, h.2 44 h4, h.2 45 h5, h.2 46 h6, h.2 47 h7, h.2 48 h8, h.2 49 h9, h.2 50 h10]; exact hx
theorem rlR_E {F A : List Nat} {s s1 : zS} {R : List Int} (h : zE F A s s1) (h1 : A.contains 38 = false) (hx : rlR R s) : rlR R s1 := by
  unfold rlR; rw [h.2 38 h1]; exact hx
theorem gR_E {F A : List Nat} {s s1 : zS} {G : List (Int × Int)} (h : zE F A s s1) (h1 : F.contains 26 = false) (h2 : A.contains 40 = false) (h3 : A.contains 41 = false) (hx : gR G s) : gR G s1 := by
  unfold gR; rw [h.1 26 h1, h.2 40 h2, h.2 41 h3]; exact hx
theorem zP_tk {n : Nat} {l r : List Int} {a : List Int32} (h : zP n (l ++ r) a) : zP n l a := by
  obtain ⟨h1, h2, h3⟩ := h
  rw [List.length_append] at h2
  refine ⟨h1, by omega, fun i hi => ?_⟩
  rw [h3 i (by rw [List.length_append]; omega), getD_app, if_pos hi]
theorem mk_c {T : List lxT} {s : zS} (h : mkR T s) {i : Nat} (hi : i < T.length) : zX (s.2 34) (i : Int) ∧ zX (s.2 35) (i : Int) ∧ zX (s.2 36) (i : Int) ∧ zX (s.2 37) (i : Int) ∧ (zg (s.2 34) (i : Int)).toInt = lx_kd (tc T i) ∧ (zg (s.2 35) (i : Int)).toInt = tb T i ∧ (zg (s.2 36) (i : Int)).toInt = te T i ∧ (tc T i ≠ 8 → (zg (s.2 37) (i : Int)).toInt = lx_wh (tc T i)) := by
  obtain ⟨h1, h2, h3, h4, h5, h6⟩ := h
  have l2 := h2.2.1
  rw [List.length_map] at l2
  refine ⟨zP_X h2 (by decide) (by omega) (by omega), zP_X h3 (by decide) (by omega) (by omega), zP_X h4 (by decide) (by omega) (by omega), ⟨by omega, by rw [h5]; omega, by rw [h5]; decide⟩, ?_, ?_, ?_, ?_⟩
  · rw [zP_get h2 (by omega) (by rw [List.length_map]; omega), show ((i : Int)).toNat = i by omega, List.getD_eq_getElem?_getD, List.getElem?_map]
    unfold tc
    rw [List.getD_eq_getElem?_getD, List.getElem?_eq_getElem hi]; rfl
  · rw [zP_get h3 (by omega) (by rw [List.length_map]; omega), show ((i : Int)).toNat = i by omega, List.getD_eq_getElem?_getD, List.getElem?_map]
    unfold tb
    rw [List.getD_eq_getElem?_getD, List.getElem?_eq_getElem hi]; rfl
  · rw [zP_get h4 (by omega) (by rw [List.length_map]; omega), show ((i : Int)).toNat = i by omega, List.getD_eq_getElem?_getD, List.getElem?_map]
    unfold te
    rw [List.getD_eq_getElem?_getD, List.getElem?_eq_getElem hi]; rfl
  · have h7 := h6 i hi
    have e : (T.getD i (0, 0, 0)).1 = tc T i := by
      unfold tc
      rw [List.getD_eq_getElem?_getD, List.getD_eq_getElem?_getD, List.getElem?_eq_getElem hi]; rfl
    rw [e] at h7
    intro h8
    have h9 := h7 h8
    unfold zg
    rw [show ((i : Int)).toNat = i by omega]
    exact h9
/-- which code is meant by kind and what -/
def isC (a b c : Int) : Prop := a ≠ 8 ∧ ∀ x : Int, x ≠ 8 → ((lx_kd x = a ∧ lx_wh x = b) ↔ x = c)
theorem isC_s {c : Int} (h : 29 < c) (h2 : c ≠ 128) : isC 3 c c := by
  refine ⟨by decide, fun x hx => ?_⟩
  unfold lx_kd lx_wh
  constructor
  · intro ⟨h3, h4⟩
    split at h3
    · omega
    · split at h3
      · omega
      · rename_i h5 h6
        rw [if_neg h5, if_neg h6] at h4
        split at h4 <;> omega
  · intro e
    subst e
    rw [if_neg (by omega), if_neg (by omega), if_neg (by omega), if_neg (by omega), if_neg h2]
    exact ⟨rfl, rfl⟩
theorem isC_w {w : Int} (h : 0 < w) (h2 : w < 15) : isC 2 w (w + 15) := by
  refine ⟨by decide, fun x hx => ?_⟩
  unfold lx_kd lx_wh
  constructor
  · intro ⟨h3, h4⟩
    split at h3
    · rename_i h5
      rw [if_pos h5] at h4
      omega
    · split at h3
      · rename_i h5 h6
        rw [if_neg h5, if_pos h6] at h4
        omega
      · omega
  · intro e
    subst e
    rw [if_neg (by omega), if_pos (by omega), if_neg (by omega), if_pos (by omega)]
    exact ⟨rfl, by omega⟩
theorem isC_1 : isC 3 1 128 := by
  refine ⟨by decide, fun x hx => ?_⟩
  unfold lx_kd lx_wh
  constructor
  · intro ⟨h3, h4⟩
    split at h3
    · omega
    · split at h3
      · omega
      · rename_i h5 h6
        rw [if_neg h5, if_neg h6] at h4
        split at h4 <;> omega
  · intro e
    subst e
    exact ⟨by decide, by decide⟩
theorem isC_k {k : Int} (h : 4 ≤ k) (h2 : k < 8) : isC k 0 k := by
  refine ⟨by omega, fun x hx => ?_⟩
  unfold lx_kd lx_wh
  constructor
  · intro ⟨h3, h4⟩
    split at h3
    · exact h3
    · split at h3 <;> omega
  · intro e
    subst e
    rw [if_pos (by omega), if_pos (by omega)]
    exact ⟨rfl, rfl⟩
section MC
variable (xs : Option (List Int32)) (d : Nat) {T : List lxT} {pl : Nat → Int} {nest : Nat} {N : mM} {st : pS} {G : List (Int × Int)} {s : zS}
theorem ct_145 (hI : mI T nest st N G s) (hg : G.length < 240) (a1 a2 : Int32) (Q : zS → Prop) (hQ : ∀ s1, mI T nest st N (G ++ [(a1.toInt, a2.toInt)]) s1 → mE s s1 → Q s1) : zWv xs d 145 0 [(0, .ref 32), (1, .int a1), (2, .int a2)] s Q := by
  obtain ⟨h1, h2, h3, h4, h5, h6, h7, h8⟩ := hI
  have l1 : (G.map (fun e => e.1)).length = G.length := List.length_map _
  have l2 : (G.map (fun e => e.2)).length = G.length := List.length_map _
  refine vc_145_0 xs d s a1 a2 Q ⟨zP_X h7 (by decide) (by omega) (by omega), zP_X h8 (by decide) (by omega) (by omega), hQ _ ?_ (zE_f (zE_a (zE_a (zE_r s) rfl) rfl) rfl)⟩
  have hE : zE [26] [40, 41] s (zf (za (za s 40 (zu (s.2 40) (s.1 26).toInt a1)) 41 (zu (s.2 41) (s.1 26).toInt a2)) 26 ((s.1 26) + 1)) := zE_f (zE_a (zE_a (zE_r s) rfl) rfl) rfl
  refine ⟨mkR_E hE rfl rfl rfl rfl rfl h1, h2, eR_E hE rfl rfl rfl h3, wR_E hE rfl rfl rfl rfl rfl rfl rfl rfl h4, rlR_E hE rfl h5, ?_, ?_, ?_⟩
  · show ((s.1 26) + 1).toInt = _
    rw [ti_1 h6 (by omega) (by omega), List.length_append]; rfl
  · show zP 240 _ (zu (s.2 40) (s.1 26).toInt a1)
    rw [List.map_append]
    exact zP_add h7 (by omega) (by omega)
  · show zP 240 _ (zu (s.2 41) (s.1 26).toInt a2)
    rw [List.map_append]
    exact zP_add h8 (by omega) (by omega)
theorem ct_146 (hd : 1 ≤ d) (hI : mI T nest st N G s) (hg : G.length < 240) (a1 a2 : Int32) (x : Int) (hx : ((256 * a1) + a2).toInt = x) (Q : zS → Prop) (hQ : ∀ s1, mI T nest st N (G ++ [(16, x)]) s1 → mE s s1 → Q s1) : zWv xs d 146 0 [(0, .ref 32), (1, .int a1), (2, .int a2)] s Q := by
  obtain ⟨d, rfl⟩ : ∃ e, d = e + 1 := ⟨d - 1, by omega⟩
  refine vc_146_0 xs d s a1 a2 Q (ct_145 xs d hI hg _ _ _ (fun s1 g1 g2 => hQ s1 ?_ g2))
  rw [hx] at g1
  exact g1
theorem ct_147 (hI : mI T nest st N G s) (hi : st.1 < T.length) (a1 a2 : Int32) (c : Int) (hc : isC a1.toInt a2.toInt c) (h8 : c ≠ 8) (Q : Int32 → zS → Prop) (h1 : tc T st.1 = c → Q 1 s) (h0 : ¬ tc T st.1 = c → Q 0 s) : zWi xs d 147 0 [(0, .ref 32), (1, .int a1), (2, .int a2)] s Q := by
  obtain ⟨k1, k2, _⟩ := hI
  obtain ⟨c1, c2, c3, c4, c5, c6, c7, c8⟩ := mk_c k1 hi
  refine vc_147_0 xs d s a1 a2 Q ?_
  rw [k2.1, c5]
  by_cases e8 : tc T st.1 = 8
  · rw [e8]
    refine ⟨c1, fun h => ?_, fun _ => h0 (by omega)⟩
    have : (8 : Int) = a1.toInt := h
    exact absurd this.symm hc.1
  · rw [c8 e8]
    have hcc := hc.2 _ e8
    exact ⟨c1, fun h => ⟨c4, fun h2 => h1 (hcc.mp ⟨h, h2⟩), fun h2 => h0 (fun e => h2 (hcc.mpr e).2)⟩, fun h => h0 (fun e => h (hcc.mpr e).1)⟩
theorem ct_148 (hI : mI T nest st N G s) (hi : st.1 < T.length) (a : Int32) (Q : zS → Prop) (hQ : ∀ s1, mFl T (a.toInt, tb T st.1) s1 → mE s s1 → Q s1) : zWv xs d 148 0 [(0, .ref 32), (1, .int a)] s Q := by
  have hL := mI_L hI
  exact vc_148_0 xs d s a Q (hQ _ ⟨hI.1, hL, rfl, st.1, hi, hI.2.1.1, rfl⟩ (zE_f (zE_f (zE_r s) rfl) rfl))
theorem ct_149 (hI : mI T nest st N G s) (hi : st.1 < T.length) (Q : zS → Prop) (hQ : ∀ s1, mI T nest (pAv T st) N G s1 → mE s s1 → Q s1) : zWv xs d 149 0 [(0, .ref 32)] s Q := by
  obtain ⟨k1, ⟨u1, u2, u3, u4⟩, k3, k4, k5, k6⟩ := hI
  obtain ⟨c1, c2, c3, c4, c5, c6, c7, c8⟩ := mk_c k1 hi
  have hl : T.length ≤ 420 := by have := k1.2.1.2.1; rw [List.length_map] at this; exact this
  have h24 : ((s.1 24) + 1).toInt = ((st.1 + 1 : Nat) : Int) := ti_inc u1 (by omega)
  have hkd : lx_kd (tc T st.1) < 4 ↔ (tc T st.1 < 4 ∨ 8 < tc T st.1) := by
    unfold lx_kd
    split
    · omega
    · split <;> omega
  refine vc_149_0 xs d s Q ?_
  rw [u1, c5, hkd]
  refine ⟨c1, fun h => ⟨c3, hQ _ ⟨k1, ⟨h24, u2, ?_, u4⟩, k3, k4, k5, k6⟩ (zE_f (zE_f (zE_r s) rfl) rfl)⟩, fun h => hQ _ ⟨k1, ⟨h24, u2, ?_, u4⟩, k3, k4, k5, k6⟩ (zE_f (zE_r s) rfl)⟩
  · show (zg (s.2 36) (st.1 : Int)).toInt = (pAv T st).2.1
    unfold pAv
    simp only
    rw [if_pos h]
    exact c7
  · show (s.1 27).toInt = (pAv T st).2.1
    unfold pAv
    simp only
    rw [if_neg h]
    exact u3
theorem ct_150 (hI : mI T nest st N G s) (hn : N.1.length < 1000) (a : Int32) (x : Int) (ha : a.toInt = x) (m : List (Int × Int)) (Q : zS → Prop) (hQ : ∀ s1, mI T nest st (mMo N (m, [(x, st.2.1)], [], [], [], [])) G s1 → mE s s1 → Q s1) : zWv xs d 150 0 [(0, .ref 32), (1, .int a)] s Q := by
  obtain ⟨k1, ⟨u1, u2, u3, u4⟩, ⟨e1, e2, e3⟩, k4, k5, k6⟩ := hI
  have l1 : (N.1.map (fun e => e.1)).length = N.1.length := List.length_map _
  have l2 : (N.1.map (fun e => e.2)).length = N.1.length := List.length_map _
  refine vc_150_0 xs d s a Q ⟨zP_X e2 (by decide) (by omega) (by omega), zP_X e3 (by decide) (by omega) (by omega), hQ _ ?_ (zE_f (zE_a (zE_a (zE_r s) rfl) rfl) rfl)⟩
  have hE : zE [30] [42, 43] s (zf (za (za s 42 (zu (s.2 42) (s.1 30).toInt a)) 43 (zu (s.2 43) (s.1 30).toInt (s.1 27))) 30 ((s.1 30) + 1)) := zE_f (zE_a (zE_a (zE_r s) rfl) rfl) rfl
  have e0 : mMo N (m, [(x, st.2.1)], [], [], [], []) = (N.1 ++ [(x, st.2.1)], N.2.1, N.2.2) := by
    unfold mMo
    simp only [List.append_nil]
  rw [e0]
  refine ⟨mkR_E hE rfl rfl rfl rfl rfl k1, ⟨u1, u2, u3, u4⟩, ⟨?_, ?_, ?_⟩, wR_E hE rfl rfl rfl rfl rfl rfl rfl rfl k4, rlR_E hE rfl k5, gR_E hE rfl rfl rfl k6⟩
  · show ((s.1 30) + 1).toInt = _
    rw [ti_1 e1 (by omega) (by omega), List.length_append]; rfl
  · show zP 1000 _ (zu (s.2 42) (s.1 30).toInt a)
    rw [List.map_append, ← ha]
    exact zP_add e2 (by omega) (by omega)
  · show zP 1000 _ (zu (s.2 43) (s.1 30).toInt (s.1 27))
    rw [List.map_append, ← u3]
    exact zP_add e3 (by omega) (by omega)
theorem ct_151 (hI : mI T nest st N G s) (hn : N.2.1.length < 40) (a b : Int32) (x y : Int) (ha : a.toInt = x) (hb : b.toInt = y) (h1 : -1 ≤ y) (h2 : y < 1000) (Q : Int32 → zS → Prop) (hQ : ∀ (v : Int32) (s1 : zS), v.toInt = (N.2.1.length : Int) → mI T nest st (N.1, N.2.1 ++ [(x, 0, 0, y, y + 1, y + 1, -1, -1, -1)], N.2.2) G s1 → mE s s1 → Q v s1) : zWi xs d 151 0 [(0, .ref 32), (1, .int a), (2, .int b)] s Q := by
  obtain ⟨k1, k2, k3, ⟨w0, w1, w2, w3, w4, w5, w6, w7⟩, k5, k6⟩ := hI
  have hm : ((-1 : Int32)).toInt = -1 := by decide
  have hb1 : (b + 1).toInt = y + 1 := ti_1 hb (by omega) (by omega)
  have ll : ∀ f : pSc → Int, (N.2.1.map f).length = N.2.1.length := fun f => List.length_map _
  have hx : ∀ {f : pSc → Int} {a : List Int32}, zP 40 (N.2.1.map f) a → zX a (s.1 31).toInt := fun {f a} h => zP_X h (by decide) (by omega) (by omega)
  have hadd : ∀ {f : pSc → Int} {a : List Int32} (z : pSc) (v : Int32), zP 40 (N.2.1.map f) a → v.toInt = f z → zP 40 ((N.2.1 ++ [z]).map f) (zu a (s.1 31).toInt v) := by
    intro f a z v h hv
    have := ll f
    rw [List.map_append]
    show zP 40 (N.2.1.map f ++ [f z]) _
    rw [← hv]
    exact zP_add h (by omega) (by omega)
  refine vc_151_0 xs d s a b Q ⟨hx w1, hx w2, hx w3, hx w4, hx w5, hx w6, hx w7, hQ _ _ ?_ ?_ (zE_f (zE_a (zE_a (zE_a (zE_a (zE_a (zE_a (zE_a (zE_r s) rfl) rfl) rfl) rfl) rfl) rfl) rfl) rfl)⟩
  · rw [ti_m1 (ti_1 w0 (by omega) (by omega)) (by omega) (by omega)]; omega
  · have hE : zE [31] [44, 45, 46, 47, 48, 49, 50] s (zf (za (za (za (za (za (za (za s 44 (zu (s.2 44) (s.1 31).toInt a)) 45 (zu (s.2 45) (s.1 31).toInt b)) 46 (zu (s.2 46) (s.1 31).toInt (b + 1))) 47 (zu (s.2 47) (s.1 31).toInt (b + 1))) 48 (zu (s.2 48) (s.1 31).toInt (-1))) 49 (zu (s.2 49) (s.1 31).toInt (-1))) 50 (zu (s.2 50) (s.1 31).toInt (-1))) 31 ((s.1 31) + 1)) := zE_f (zE_a (zE_a (zE_a (zE_a (zE_a (zE_a (zE_a (zE_r s) rfl) rfl) rfl) rfl) rfl) rfl) rfl) rfl
    refine ⟨mkR_E hE rfl rfl rfl rfl rfl k1, k2, eR_E hE rfl rfl rfl k3, ⟨?_, ?_, ?_, ?_, ?_, ?_, ?_, ?_⟩, rlR_E hE rfl k5, gR_E hE rfl rfl rfl k6⟩
    · show ((s.1 31) + 1).toInt = ((N.2.1 ++ [_]).length : Int)
      rw [ti_1 w0 (by omega) (by omega), List.length_append]; rfl
    · exact hadd (f := fun x => x.1) _ a w1 ha
    · exact hadd (f := fun x => x.2.2.2.1) _ b w2 hb
    · exact hadd (f := fun x => x.2.2.2.2.1) _ (b + 1) w3 hb1
    · exact hadd (f := fun x => x.2.2.2.2.2.1) _ (b + 1) w4 hb1
    · exact hadd (f := fun x => x.2.2.2.2.2.2.1) _ (-1) w5 hm
    · exact hadd (f := fun x => x.2.2.2.2.2.2.2.1) _ (-1) w6 hm
    · exact hadd (f := fun x => x.2.2.2.2.2.2.2.2) _ (-1) w7 hm
theorem ct_152 (hd : 1 ≤ d) (hI : mI T nest st N G s) (hi : st.1 < T.length) (hn : nest ≤ 10) (Q : Int32 → zS → Prop) (h0 : 10 ≤ nest → ∀ s1, mFl T (21, tb T st.1) s1 → mE s s1 → Q 0 s1) (h1 : ¬ 10 ≤ nest → ∀ s1, mI T (nest + 1) (pAv T st) N G s1 → mE s s1 → Q 1 s1) : zWi xs d 152 0 [(0, .ref 32)] s Q := by
  obtain ⟨d, rfl⟩ : ∃ e, d = e + 1 := ⟨d - 1, by omega⟩
  have hI0 := hI
  obtain ⟨k1, ⟨u1, u2, u3, u4⟩, k3, k4, k5, k6⟩ := hI
  refine vc_152_0 xs d s Q ?_
  rw [u2]
  refine ⟨fun h => ct_148 xs d hI0 hi 21 _ (fun s1 g1 g2 => h0 (by omega) s1 g1 g2), fun h => ?_⟩
  have hI1 : mI T (nest + 1) st N G (zf s 25 ((s.1 25) + 1)) := ⟨k1, ⟨u1, ti_inc u2 (by omega), u3, u4⟩, k3, k4, k5, k6⟩
  exact ct_149 xs d hI1 hi _ (fun s1 g1 g2 => h1 (by omega) s1 g1 (mE_t (zE_f (zE_r s) rfl) g2))
end MC
