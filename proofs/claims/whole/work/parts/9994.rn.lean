/-! rename, as a function of the text. -/
section RN
variable {t : List Int32} {T : List lxT} {L : List pSc} {C : List pOc}
theorem sV_i (x y : pOc) : sV t T L C x y = true ↔ slT t T x.1 = slT t T y.1 ∧ of0 t T L C x = of0 t T L C y := by
  unfold sV eqT
  rw [Bool.and_eq_true, decide_eq_true_eq, decide_eq_true_eq]
theorem sV_r (x : pOc) : sV t T L C x x = true := (sV_i x x).mpr ⟨rfl, rfl⟩
theorem sV_f {x y : pOc} (h : sV t T L C x y = true) : sV t T L C x = sV t T L C y := by
  obtain ⟨h1, h2⟩ := (sV_i x y).mp h
  funext z
  unfold sV eqT
  rw [h1, h2]
theorem sV_t {x y z : pOc} (h : sV t T L C x z = true) (g : sV t T L C y z = true) : sV t T L C x y = true := by
  rw [sV_f h, ← sV_f g]; exact sV_r y
/-- the place of the first that P takes -/
def ffi (P : pOc → Bool) : List pOc → Nat → Nat
  | [], n => n
  | y :: B, n => if P y = true then n else ffi P B (n + 1)
theorem ffi_p {P : pOc → Bool} {y : pOc} (h : P y = true) (B : List pOc) (n : Nat) : ffi P (y :: B) n = n := by
  show (if P y = true then n else ffi P B (n + 1)) = n
  rw [if_pos h]
theorem ffi_n {P : pOc → Bool} {y : pOc} (h : P y = false) (B : List pOc) (n : Nat) : ffi P (y :: B) n = ffi P B (n + 1) := by
  show (if P y = true then n else ffi P B (n + 1)) = _
  rw [if_neg (by rw [h]; decide)]
theorem ffi_b (P : pOc → Bool) : ∀ (B : List pOc) (n : Nat), n ≤ ffi P B n ∧ ffi P B n ≤ n + B.length := by
  intro B
  induction B with
  | nil => intro n; exact ⟨Nat.le_refl _, Nat.le_refl _⟩
  | cons y B ih =>
    intro n
    have := ih (n + 1)
    rw [List.length_cons]
    cases h : P y with
    | true => rw [ffi_p h]; omega
    | false => rw [ffi_n h]; omega
theorem ffi_g (P : pOc → Bool) : ∀ (B : List pOc) (n : Nat), (∃ y ∈ B, P y = true) → ∃ z ∈ B, P z = true ∧ B[ffi P B n - n]? = some z := by
  intro B
  induction B with
  | nil => rintro n ⟨y, hy, _⟩; exact absurd hy (List.not_mem_nil)
  | cons y B ih =>
    rintro n ⟨z, hz, hp⟩
    cases h : P y with
    | true =>
      refine ⟨y, List.mem_cons_self .., h, ?_⟩
      rw [ffi_p h, Nat.sub_self]; rfl
    | false =>
      have hz2 : z ∈ B := by
        rcases List.mem_cons.mp hz with e | e
        · rw [e, h] at hp; exact absurd hp (by decide)
        · exact e
      obtain ⟨w, w1, w2, w3⟩ := ih (n + 1) ⟨z, hz2, hp⟩
      refine ⟨w, List.mem_cons_of_mem _ w1, w2, ?_⟩
      rw [ffi_n h]
      have := (ffi_b P B (n + 1)).1
      rw [show ffi P B (n + 1) - n = (ffi P B (n + 1) - (n + 1)) + 1 by omega, List.getElem?_cons_succ]
      exact w3
/-- the first occurrence of x's variable -/
def fov (t : List Int32) (T : List lxT) (L : List pSc) (C : List pOc) (x : pOc) : Int := (ffi (sV t T L C x) C 0 : Nat)
theorem fov_i {x y : pOc} (hx : x ∈ C) (hy : y ∈ C) : fov t T L C y = fov t T L C x ↔ sV t T L C x y = true := by
  constructor
  · intro h
    have h' : ffi (sV t T L C y) C 0 = ffi (sV t T L C x) C 0 := by unfold fov at h; omega
    obtain ⟨z, _, z2, z3⟩ := ffi_g (sV t T L C x) C 0 ⟨x, hx, sV_r x⟩
    obtain ⟨w, _, w2, w3⟩ := ffi_g (sV t T L C y) C 0 ⟨y, hy, sV_r y⟩
    rw [h', z3] at w3
    cases w3
    exact sV_t z2 w2
  · intro h
    unfold fov
    rw [sV_f h]
theorem fov_b (x : pOc) : 0 ≤ fov t T L C x ∧ fov t T L C x ≤ C.length := by
  have := ffi_b (sV t T L C x) C 0
  unfold fov
  omega
/-- how many P takes -/
def cV (P : pOc → Bool) : List pOc → Nat
  | [] => 0
  | y :: B => (if P y = true then 1 else 0) + cV P B
theorem cV_p {P : pOc → Bool} {y : pOc} (h : P y = true) (B : List pOc) : cV P (y :: B) = 1 + cV P B := by
  show (if P y = true then 1 else 0) + cV P B = _
  rw [if_pos h]
theorem cV_n {P : pOc → Bool} {y : pOc} (h : P y = false) (B : List pOc) : cV P (y :: B) = cV P B := by
  show (if P y = true then 1 else 0) + cV P B = _
  rw [if_neg (by rw [h]; decide), Nat.zero_add]
theorem cV_l (P : pOc → Bool) : ∀ B : List pOc, cV P B ≤ B.length := by
  intro B
  induction B with
  | nil => exact Nat.le_refl _
  | cons y B ih =>
    rw [List.length_cons]
    cases h : P y with
    | true => rw [cV_p h]; omega
    | false => rw [cV_n h]; omega
theorem cV_d (P : pOc → Bool) : ∀ (C : List pOc) (j : Nat), cV P (C.drop j) ≤ cV P C := by
  intro C
  induction C with
  | nil => intro j; rw [List.drop_nil]; exact Nat.le_refl _
  | cons y C ih =>
    intro j
    cases j with
    | zero => exact Nat.le_refl _
    | succ j =>
      rw [List.drop_succ_cons]
      have := ih j
      cases h : P y with
      | true => rw [cV_p h]; omega
      | false => rw [cV_n h]; exact this
/-- the text with each that P takes respelled -/
def rnT (t : List Int32) (T : List lxT) (P : pOc → Bool) (e : Int64) : List pOc → List Int32
  | [] => t
  | y :: B => if P y = true then tx_new (rnT t T P e B) (tb T y.1).toNat ((te T y.1).toNat - (tb T y.1).toNat) e else rnT t T P e B
theorem rnT_p {P : pOc → Bool} {y : pOc} (h : P y = true) (e : Int64) (B : List pOc) : rnT t T P e (y :: B) = tx_new (rnT t T P e B) (tb T y.1).toNat ((te T y.1).toNat - (tb T y.1).toNat) e := by
  show (if P y = true then tx_new (rnT t T P e B) (tb T y.1).toNat ((te T y.1).toNat - (tb T y.1).toNat) e else rnT t T P e B) = _
  rw [if_pos h]
theorem rnT_n {P : pOc → Bool} {y : pOc} (h : P y = false) (e : Int64) (B : List pOc) : rnT t T P e (y :: B) = rnT t T P e B := by
  show (if P y = true then tx_new (rnT t T P e B) (tb T y.1).toNat ((te T y.1).toNat - (tb T y.1).toNat) e else rnT t T P e B) = _
  rw [if_neg (by rw [h]; decide)]
theorem rnT_len {P : pOc → Bool} {e : Int64} {W : Int} (hB : tkB t T) : ∀ B : List pOc, B.Pairwise (fun x y => te T x.1 ≤ tb T y.1) → (∀ y ∈ B, P y = true → te T y.1 - tb T y.1 = W) → ((rnT t T P e B).length : Int) = t.length + (cV P B : Int) * ((ed_n e 8 : Int) - W) ∧ ∀ p : Int, p ≤ t.length → (∀ y ∈ B, p ≤ tb T y.1) → p ≤ ((rnT t T P e B).length : Int) := by
  intro B
  induction B with
  | nil =>
    intro _ _
    refine ⟨?_, fun p hp _ => hp⟩
    show (t.length : Int) = t.length + ((0 : Nat) : Int) * _
    rw [Int.natCast_zero, Int.zero_mul, Int.add_zero]
  | cons y B ih =>
    intro hs hw
    obtain ⟨s1, s2⟩ := List.pairwise_cons.mp hs
    obtain ⟨k1, k2⟩ := ih s2 (fun z hz => hw z (List.mem_cons_of_mem _ hz))
    obtain ⟨b1, b2, b3⟩ := hB.2 y.1
    cases h : P y with
    | false =>
      rw [rnT_n h, cV_n h]
      exact ⟨k1, fun p hp hq => k2 p hp (fun z hz => hq z (List.mem_cons_of_mem _ hz))⟩
    | true =>
      have hwy := hw y (List.mem_cons_self ..) h
      have hle : te T y.1 ≤ ((rnT t T P e B).length : Int) := k2 _ b3 s1
      rw [rnT_p h, cV_p h]
      have hl := tx_new_len (t := rnT t T P e B) (a := (tb T y.1).toNat) (k := (te T y.1).toNat - (tb T y.1).toNat) (e := e) (by omega)
      rw [hl]
      have e1 : ((1 + cV P B : Nat) : Int) * ((ed_n e 8 : Int) - W) = ((ed_n e 8 : Int) - W) + (cV P B : Int) * ((ed_n e 8 : Int) - W) := by
        rw [Int.natCast_add, Int.add_mul]
        show 1 * _ + _ = _
        rw [Int.one_mul]
      rw [e1]
      refine ⟨by omega, fun p hp hq => ?_⟩
      have := hq y (List.mem_cons_self ..)
      omega
theorem ml_b {c m : Nat} {g : Int} (h : c ≤ m) {n : Int} (hn : n ≤ 200) (h2 : n + (m : Int) * g ≤ 200) : n + (c : Int) * g ≤ 200 := by
  by_cases hg : 0 ≤ g
  · have := Int.mul_le_mul_of_nonneg_right (show (c : Int) ≤ m by omega) hg
    omega
  · have := Int.mul_nonneg (show (0 : Int) ≤ c by omega) (show (0 : Int) ≤ -g by omega)
    rw [Int.mul_neg] at this
    omega
theorem ml_r {c : Nat} {g : Int} (h : c ≤ 100) (h1 : -200 ≤ g) (h2 : g ≤ 200) : -20000 ≤ (c : Int) * g ∧ (c : Int) * g ≤ 20000 := by
  have k1 := Int.mul_le_mul_of_nonneg_left h1 (show (0 : Int) ≤ c by omega)
  have k2 := Int.mul_le_mul_of_nonneg_left h2 (show (0 : Int) ≤ c by omega)
  omega
/-- what a step of respelling wants -/
theorem rnT_st {P : pOc → Bool} {e : Int64} {W : Int} (hB : tkB t T) (hs : C.Pairwise (fun x y => te T x.1 ≤ tb T y.1)) (hw : ∀ y ∈ C, P y = true → te T y.1 - tb T y.1 = W) (hm : (t.length : Int) + (cV P C : Int) * ((ed_n e 8 : Int) - W) ≤ 200) {j : Nat} {y : pOc} {B : List pOc} (hd : C.drop j = y :: B) (hy : P y = true) : (tb T y.1).toNat + ((te T y.1).toNat - (tb T y.1).toNat) ≤ (rnT t T P e B).length ∧ (rnT t T P e B).length - ((te T y.1).toNat - (tb T y.1).toNat) + ed_n e 8 ≤ 200 := by
  have hsd : (C.drop j).Pairwise (fun x y => te T x.1 ≤ tb T y.1) := hs.sublist (List.drop_sublist j C)
  have hwd : ∀ y ∈ C.drop j, P y = true → te T y.1 - tb T y.1 = W := fun z hz => hw z (List.mem_of_mem_drop hz)
  have hc := cV_d P C j
  rw [hd] at hsd hwd hc
  obtain ⟨s1, s2⟩ := List.pairwise_cons.mp hsd
  obtain ⟨k1, k2⟩ := rnT_len (P := P) (e := e) (W := W) hB B s2 (fun z hz => hwd z (List.mem_cons_of_mem _ hz))
  obtain ⟨m1, _⟩ := rnT_len (P := P) (e := e) (W := W) hB (y :: B) hsd hwd
  obtain ⟨b1, b2, b3⟩ := hB.2 y.1
  have hle : te T y.1 ≤ ((rnT t T P e B).length : Int) := k2 _ b3 s1
  have hb := ml_b hc (show (t.length : Int) ≤ 200 by have := hB.1; omega) hm
  rw [← m1, rnT_p hy] at hb
  have hl := tx_new_len (t := rnT t T P e B) (a := (tb T y.1).toNat) (k := (te T y.1).toNat - (tb T y.1).toNat) (e := e) (by omega)
  rw [hl] at hb
  exact ⟨by omega, by omega⟩
theorem rnT_al {P : pOc → Bool} {e : Int64} (ht : ∀ c ∈ t, ed_ok c = true) (ha : ed_al e 8 = true) : ∀ (B : List pOc), ∀ c ∈ rnT t T P e B, ed_ok c = true := by
  intro B
  induction B with
  | nil => exact ht
  | cons y B ih =>
    cases h : P y with
    | false => rw [rnT_n h]; exact ih
    | true => rw [rnT_p h]; exact tx_new_ok ih ha
theorem rnT_ok {P : pOc → Bool} {e : Int64} {W : Int} (ht : tOk t) (ha : ed_al e 8 = true) (hB : tkB t T) (hs : C.Pairwise (fun x y => te T x.1 ≤ tb T y.1)) (hw : ∀ y ∈ C, P y = true → te T y.1 - tb T y.1 = W) (hm : (t.length : Int) + (cV P C : Int) * ((ed_n e 8 : Int) - W) ≤ 200) : tOk (rnT t T P e C) := by
  refine ⟨?_, rnT_al ht.2 ha C⟩
  have := (rnT_len (P := P) (e := e) (W := W) hB C hs hw).1
  omega
/-- both lists agree up to j -/
def eqB (l m l2 m2 : List Int) : Nat → Bool
  | 0 => true
  | j + 1 => eqB l m l2 m2 j && (decide (l.getD j 0 = m.getD j 0) && decide (l2.getD j 0 = m2.getD j 0))
theorem eqB_s (l m l2 m2 : List Int) (j : Nat) : eqB l m l2 m2 (j + 1) = (eqB l m l2 m2 j && (decide (l.getD j 0 = m.getD j 0) && decide (l2.getD j 0 = m2.getD j 0))) := rfl
theorem eqB_g {l m l2 m2 : List Int} : ∀ (n : Nat), eqB l m l2 m2 n = true → ∀ j, j < n → l.getD j 0 = m.getD j 0 ∧ l2.getD j 0 = m2.getD j 0 := by
  intro n
  induction n with
  | zero => intro _ j hj; exact absurd hj (Nat.not_lt_zero _)
  | succ n ih =>
    intro h j hj
    rw [eqB_s, Bool.and_eq_true, Bool.and_eq_true, decide_eq_true_eq, decide_eq_true_eq] at h
    by_cases e : j = n
    · subst e; exact h.2
    · exact ih h.1 j (by omega)
theorem eqB_e {l m l2 m2 : List Int} (h : l = m ∧ l2 = m2) : ∀ n, eqB l m l2 m2 n = true := by
  intro n
  obtain ⟨h1, h2⟩ := h
  subst h1
  subst h2
  induction n with
  | zero => rfl
  | succ n ih => rw [eqB_s, ih, decide_eq_true rfl, decide_eq_true rfl]; rfl
theorem gd_e {l m : List Int} (hl : l.length = m.length) (h : ∀ j, j < l.length → l.getD j 0 = m.getD j 0) : l = m := by
  apply List.ext_getElem hl
  intro i h1 h2
  have := h i h1
  rw [List.getD_eq_getElem?_getD, List.getD_eq_getElem?_getD, List.getElem?_eq_getElem h1, List.getElem?_eq_getElem h2] at this
  exact this
theorem eqB_d {l m l2 m2 : List Int} {n : Nat} (h1 : l.length = n) (h2 : m.length = n) (h3 : l2.length = n) (h4 : m2.length = n) : eqB l m l2 m2 n = decide (l = m ∧ l2 = m2) := by
  by_cases h : l = m ∧ l2 = m2
  · rw [decide_eq_true h, eqB_e h]
  · rw [decide_eq_false h]
    cases hb : eqB l m l2 m2 n with
    | false => rfl
    | true =>
      have g := eqB_g n hb
      exact absurd ⟨gd_e (by omega) (fun j hj => (g j (by omega)).1), gd_e (by omega) (fun j hj => (g j (by omega)).2)⟩ h
theorem eqB_f {l m l2 m2 : List Int} {j n : Nat} (hj : j < n) (h : ¬ (l.getD j 0 = m.getD j 0 ∧ l2.getD j 0 = m2.getD j 0)) : eqB l m l2 m2 n = false := by
  cases hb : eqB l m l2 m2 n with
  | false => rfl
  | true => exact absurd (eqB_g n hb j hj) h
end RN
/-- what each occurrence answers, and the first of its variable -/
def anL (t : List Int32) (o : pO) : List Int := o.2.2.2.2.1.map (rsv t (lx t) o.2.2.1 o.2.2.2.2.1)
def fsL (t : List Int32) (o : pO) : List Int := o.2.2.2.2.1.map (fov t (lx t) o.2.2.1 o.2.2.2.2.1)
/-- the text u is fine, and its occurrences answer so -/
def agr (u : List Int32) (A F : List Int) : Bool := match pr u with
  | .inl _ => false
  | .inr (_, o) => decide ((erO u o).1 = 0) && decide (anL u o = A ∧ fsL u o = F)
def rnC (t : List Int32) (o : pO) (x : pOc) : Nat := cV (sV t (lx t) o.2.2.1 o.2.2.2.2.1 x) o.2.2.2.2.1
def rnU (t : List Int32) (o : pO) (x : pOc) (e : Int64) : List Int32 := rnT t (lx t) (sV t (lx t) o.2.2.1 o.2.2.2.2.1 x) e o.2.2.2.2.1
def rnL (t : List Int32) (o : pO) (x : pOc) (e : Int64) : Int := (t.length : Int) + (rnC t o x : Int) * ((ed_n e 8 : Int) - (te (lx t) x.1 - tb (lx t) x.1))
def rnX (t : List Int32) (o : pO) (x : pOc) (e : Int64) : Int32 × List Int32 :=
  if nmC e 8 0 = true then
    (if kd1 t (lx t) o.2.2.1 o.2.2.2.2.1 x = 6 then (-3, t) else if 200 < rnL t o x e then (-2, t)
      else if agr (rnU t o x e) (anL t o) (fsL t o) = true then (zI (rnC t o x : Int), rnU t o x e) else (-4, t))
  else (-1, t)
def qRen (t : List Int32) (p : Int32) (e : Int64) : Int32 × List Int32 := match pr t with
  | .inl _ => (-1, t)
  | .inr (_, o) => match fnd t o p.toInt with
    | none => (-1, t)
    | some x => rnX t o x e
theorem qRen_n {t : List Int32} {p : Int32} {e : Int64} (h : ∀ f, wF t (pr t) p.toInt f = -1) : qRen t p e = (-1, t) := by
  unfold qRen
  cases hr : pr t with
  | inl _ => rfl
  | inr q =>
    obtain ⟨st, o⟩ := q
    have k := h (fun _ _ => 0)
    unfold wF at k
    rw [wA_r hr] at k
    cases hf : fnd t o p.toInt with
    | none => show (match fnd t o p.toInt with
        | none => ((-1 : Int32), t)
        | some x => rnX t o x e) = _
              rw [hf]
    | some x =>
      rw [hf] at k
      have k2 : (0 : Int32) = -1 := k
      exact absurd k2 (by decide)
theorem qRen_x {t : List Int32} {p : Int32} {e : Int64} {st : pS} {o : pO} {x : pOc} (hr : pr t = .inr (st, o)) (h : ∀ f, wF t (pr t) p.toInt f = f o x) : qRen t p e = rnX t o x e := by
  have hf : fnd t o p.toInt = some x := by
    cases hf : fnd t o p.toInt with
    | none =>
      have k := h (fun _ _ => 0)
      unfold wF at k
      rw [wA_r hr, hf] at k
      have k2 : (-1 : Int32) = 0 := k
      exact absurd k2 (by decide)
    | some y =>
      have k := h (fun _ z => if z = x then 0 else 1)
      unfold wF at k
      rw [wA_r hr, hf] at k
      have k2 : (if y = x then (0 : Int32) else 1) = (if x = x then 0 else 1) := k
      rw [if_pos rfl] at k2
      by_cases e : y = x
      · rw [e]
      · rw [if_neg e] at k2; exact absurd k2 (by decide)
  unfold qRen
  rw [hr]
  show (match fnd t o p.toInt with
    | none => ((-1 : Int32), t)
    | some x => rnX t o x e) = _
  rw [hf]
section RN2
variable {t : List Int32} {o : pO} {x : pOc} {e : Int64}
theorem rn_pw (hA : Acc t o) : o.2.2.2.2.1.Pairwise (fun x y => te (lx t) x.1 ≤ tb (lx t) y.1) := by
  have h1 := hA.1.inc
  refine List.Pairwise.imp_of_mem ?_ h1
  intro a b ha hb hab
  exact lx_ord hab (hA.1.tok b hb).1
theorem rn_w (ht : tOk t) {L : List pSc} {C : List pOc} : ∀ y ∈ C, sV t (lx t) L C x y = true → te (lx t) y.1 - tb (lx t) y.1 = te (lx t) x.1 - tb (lx t) x.1 := by
  intro y _ h
  have k := ((sV_i x y).mp h).1
  rw [← sl_len (tkB_lx ht), ← sl_len (tkB_lx ht), k]
theorem rn_ok (ht : tOk t) (hA : Acc t o) (hn : nmC e 8 0 = true) (hm : ¬ 200 < rnL t o x e) : tOk (rnU t o x e) := by
  unfold rnL at hm
  exact rnT_ok ht (nmC_al e 8 0 hn) (tkB_lx ht) (rn_pw hA) (rn_w ht) (by unfold rnC at hm; omega)
theorem rn_s (ht : tOk t) (hA : Acc t o) (hm : ¬ 200 < rnL t o x e) {j : Nat} {y : pOc} {B : List pOc} (hd : o.2.2.2.2.1.drop j = y :: B) (hy : sV t (lx t) o.2.2.1 o.2.2.2.2.1 x y = true) : (tb (lx t) y.1).toNat + ((te (lx t) y.1).toNat - (tb (lx t) y.1).toNat) ≤ (rnT t (lx t) (sV t (lx t) o.2.2.1 o.2.2.2.2.1 x) e B).length ∧ (rnT t (lx t) (sV t (lx t) o.2.2.1 o.2.2.2.2.1 x) e B).length - ((te (lx t) y.1).toNat - (tb (lx t) y.1).toNat) + ed_n e 8 ≤ 200 := by
  unfold rnL at hm
  exact rnT_st (tkB_lx ht) (rn_pw hA) (rn_w ht) (by unfold rnC at hm; omega) hd hy
theorem kd_b {L : List pSc} {C : List pOc} (hA : Ax (lx t) L C) (hL : (L.length : Int) + 1 ≤ 40) (hx : x ∈ C) : (0 ≤ kd1 t (lx t) L C x ∧ kd1 t (lx t) L C x < 8) ∧ (0 ≤ of0 t (lx t) L C x ∧ of0 t (lx t) L C x < 64) := by
  have hmb := mnt_b (t := t) hA hL hx
  refine ⟨?_, by unfold of0; omega⟩
  unfold kd1 kd0
  repeat' split
  all_goals omega
theorem qRen_ok (ht : tOk t) (p : Int32) : tOk (qRen t p e).2 := by
  unfold qRen
  cases hr : pr t with
  | inl _ => exact ht
  | inr q =>
    obtain ⟨st, o⟩ := q
    show tOk ((match fnd t o p.toInt with
      | none => ((-1 : Int32), t)
      | some x => rnX t o x e)).2
    cases fnd t o p.toInt with
    | none => exact ht
    | some x =>
      show tOk (rnX t o x e).2
      unfold rnX
      by_cases h1 : nmC e 8 0 = true
      · rw [if_pos h1]
        split
        · exact ht
        · split
          · exact ht
          · rename_i h3
            split
            · exact rn_ok ht (pr_ok ht hr) h1 h3
            · exact ht
      · rw [if_neg h1]; exact ht
end RN2
