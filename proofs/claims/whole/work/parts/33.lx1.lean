/-! Contracts of the class's text methods. -/
def zb (b : Bool) : Int32 := bif b then 1 else 0
theorem zb_1 {b : Bool} (h : b = true) : (1 : Int32) = zb b := by subst h; rfl
theorem zb_0 {b : Bool} (h : b = false) : (0 : Int32) = zb b := by subst h; rfl
theorem zb_e {b : Bool} : (zb b).toInt = 0 ↔ b = false := by cases b <;> decide
theorem zb_n {b : Bool} : ¬ (zb b).toInt = 0 ↔ b = true := by cases b <;> decide
theorem zb_b (b : Bool) : zb b = 0 ∨ zb b = 1 := by cases b <;> decide
theorem lg_0 {x y : Int64} : (lg_cmp x y).toInt = 0 ↔ x = y := by
  unfold lg_cmp
  by_cases h : x > y
  · rw [if_pos h]
    constructor
    · intro e; exact absurd e (by decide)
    · intro e; subst e; exact absurd h (by simp)
  · rw [if_neg h]
    by_cases e : x = y
    · rw [if_pos e]; exact ⟨fun _ => e, fun _ => by decide⟩
    · rw [if_neg e]; exact ⟨fun z => absurd z (by decide), fun z => absurd z e⟩
section LX
variable (xs : Option (List Int32)) (d : Nat) (s : zS)
theorem ct_82 (c : Int32) (Q : Int32 → zS → Prop) (hQ : Q (zb (lx_D c.toInt)) s) : zWi xs d 82 0 [(0, .int c)] s Q := by
  have q1 : lx_D c.toInt = true → Q 1 s := fun e => by rw [zb_1 e]; exact hQ
  have q0 : lx_D c.toInt = false → Q 0 s := fun e => by rw [zb_0 e]; exact hQ
  refine vc_82_0 xs d s c Q ?_
  repeat' (first | refine And.intro ?_ ?_ | intro _)
  all_goals first | exact q1 (by simp [lx_D] <;> omega) | exact q0 (by simp [lx_D] <;> omega)
theorem ct_83 (c : Int32) (Q : Int32 → zS → Prop) (hQ : Q (zb (lx_L c.toInt)) s) : zWi xs d 83 0 [(0, .int c)] s Q := by
  have q1 : lx_L c.toInt = true → Q 1 s := fun e => by rw [zb_1 e]; exact hQ
  have q0 : lx_L c.toInt = false → Q 0 s := fun e => by rw [zb_0 e]; exact hQ
  refine vc_83_0 xs d s c Q ?_
  repeat' (first | refine And.intro ?_ ?_ | intro _)
  all_goals first | exact q1 (by simp [lx_L] <;> omega) | exact q0 (by simp [lx_L] <;> omega)
theorem ct_84 (hd : 1 ≤ d) (c : Int32) (Q : Int32 → zS → Prop) (hQ : Q (zb (lx_A c.toInt)) s) : zWi xs d 84 0 [(0, .int c)] s Q := by
  obtain ⟨d, rfl⟩ : ∃ e, d = e + 1 := ⟨d - 1, by omega⟩
  refine vc_84_0 xs d s c Q ?_
  refine ct_83 xs d s c _ ?_
  simp only [zb_e, Bool.not_eq_false]
  refine ⟨fun h => ?_, fun h => ?_⟩
  · refine ct_82 xs d s c _ ?_
    simp only [zb_e, Bool.not_eq_false]
    refine ⟨fun h2 => ?_, fun h2 => ?_⟩
    · rw [zb_0 (b := lx_A c.toInt) (by simp [lx_A, h, h2])]; exact hQ
    · rw [zb_1 (b := lx_A c.toInt) (by simp [lx_A, h, h2])]; exact hQ
  · rw [zb_1 (b := lx_A c.toInt) (by simp [lx_A, h])]; exact hQ
/-- the character at p, or -1 -/
def lx_at (t : List Int32) (p : Int) : Int := if 0 ≤ p ∧ p < t.length then lx_c t p.toNat else -1
theorem ct_85 {t : List Int32} (ht : tX t s) (a : Int32) (Q : Int32 → zS → Prop) (hQ : ∀ v : Int32, v.toInt = lx_at t a.toInt → Q v s) : zWi xs d 85 0 [(0, .ref 3), (1, .int a)] s Q := by
  refine vc_85_0 xs d s a Q ?_
  rw [ht.1]
  refine ⟨fun h => hQ _ ?_, fun h => ⟨fun h2 => ⟨?_, hQ _ ?_⟩, fun h2 => hQ _ ?_⟩⟩
  · unfold lx_at; rw [if_neg (by omega)]; rfl
  · have := tx_X ht.2 (p := a.toInt.toNat) (by have := ht.2.2.1; omega)
    rw [show ((a.toInt.toNat : Nat) : Int) = a.toInt by omega] at this
    exact this
  · have := tx_g ht.2 (p := a.toInt.toNat) (by omega)
    rw [show ((a.toInt.toNat : Nat) : Int) = a.toInt by omega] at this
    unfold lx_at; rw [if_pos (by omega), this]; rfl
  · unfold lx_at; rw [if_neg (by omega)]; rfl
theorem lx_at_c {t : List Int32} {p : Nat} (h : p < t.length) : lx_at t (p : Int) = lx_c t p := by
  unfold lx_at
  rw [if_pos (by omega)]
  rfl
theorem ct_85n {t : List Int32} (ht : tX t s) (p : Nat) (hp : p < t.length) (a : Int32) (ha : a.toInt = p) (Q : Int32 → zS → Prop) (hQ : ∀ v : Int32, v.toInt = lx_c t p → Q v s) : zWi xs d 85 0 [(0, .ref 3), (1, .int a)] s Q := by
  refine ct_85 xs d s ht a Q (fun v hv => hQ v ?_)
  rw [hv, ha, lx_at_c hp]
theorem tx_gi {t l : List Int32} (h : tx_in t l) {p : Nat} (hp : p < t.length) : (zg l (p : Int)).toInt = lx_c t p := by rw [tx_g h hp]; rfl
theorem ti_inc {a : Int32} {p : Nat} (ha : a.toInt = p) (hp : p < 2147483647) : (a + 1).toInt = ((p + 1 : Nat) : Int) := by
  have h1 : (1 : Int32).toInt = 1 := by decide
  rw [ti_add (by rw [ha, h1]; exact ⟨by omega, by omega⟩), ha, h1]
  omega
theorem ct_87l {t : List Int32} (ht : tX t s) (Q : Int32 → zS → Prop) : ∀ (n p : Nat) (a : Int32), t.length - p ≤ n → a.toInt = p → (∀ v : Int32, v.toInt = lx_e lx_N t p → Q v s) → zWi xs d 87 2 [(0, .ref 3), (2, .int a)] s Q := by
  have h200 := ht.2.2.1
  intro n
  induction n with
  | zero =>
    intro p a hn ha hQ
    refine vc_87_2 xs d s a Q ?_
    rw [ht.1]
    refine ⟨fun h => by omega, fun h => hQ _ ?_⟩
    rw [lx_e_n (by omega), ha]
  | succ n ih =>
    intro p a hn ha hQ
    refine vc_87_2 xs d s a Q ?_
    rw [ht.1, ha]
    refine ⟨fun h => ⟨tx_X ht.2 (by omega), ?_⟩, fun h => hQ _ ?_⟩
    · rw [tx_gi ht.2 (by omega)]
      refine ⟨fun h10 => hQ _ ?_, fun h10 => ih (p + 1) (a + 1) (by omega) (ti_inc ha (by omega)) (fun v hv => hQ v ?_)⟩
      · rw [lx_e_s (by omega), show lx_N (lx_c t p) = false by simp [lx_N, h10]]
        exact ha
      · rw [hv, lx_e_s (p := p) (by omega), show lx_N (lx_c t p) = true by simp [lx_N, h10]]
        rfl
    · rw [lx_e_n (by omega), ha]
theorem ct_87 {t : List Int32} (ht : tX t s) (p : Nat) (a : Int32) (ha : a.toInt = p) (Q : Int32 → zS → Prop) (hQ : ∀ v : Int32, v.toInt = lx_e lx_N t p → Q v s) : zWi xs d 87 0 [(0, .ref 3), (1, .int a)] s Q := vc_87_0 xs d s a Q (ct_87l xs d s ht Q _ p a (Nat.le_refl _) ha hQ)
theorem ct_88l (hd : 1 ≤ d) {t : List Int32} (ht : tX t s) (Q : Int32 → zS → Prop) : ∀ (n p : Nat) (a : Int32), t.length - p ≤ n → a.toInt = p → (∀ v : Int32, v.toInt = lx_e lx_D t p → Q v s) → zWi xs d 88 2 [(0, .ref 3), (2, .int a)] s Q := by
  obtain ⟨d, rfl⟩ : ∃ e, d = e + 1 := ⟨d - 1, by omega⟩
  have h200 := ht.2.2.1
  intro n
  induction n with
  | zero =>
    intro p a hn ha hQ
    refine vc_88_2 xs d s a Q ?_
    rw [ht.1]
    refine ⟨fun h => by omega, fun h => hQ _ ?_⟩
    rw [lx_e_n (by omega), ha]
  | succ n ih =>
    intro p a hn ha hQ
    refine vc_88_2 xs d s a Q ?_
    rw [ht.1, ha]
    refine ⟨fun h => ⟨tx_X ht.2 (by omega), ?_⟩, fun h => hQ _ ?_⟩
    · refine ct_82 xs d s _ _ ?_
      simp only [zb_e, Bool.not_eq_false]
      rw [tx_gi ht.2 (by omega)]
      refine ⟨fun h10 => hQ _ ?_, fun h10 => ih (p + 1) (a + 1) (by omega) (ti_inc ha (by omega)) (fun v hv => hQ v ?_)⟩
      · rw [lx_e_s (by omega), h10]
        exact ha
      · rw [hv, lx_e_s (p := p) (by omega), h10]
        rfl
    · rw [lx_e_n (by omega), ha]
theorem ct_88 (hd : 1 ≤ d) {t : List Int32} (ht : tX t s) (p : Nat) (a : Int32) (ha : a.toInt = p) (Q : Int32 → zS → Prop) (hQ : ∀ v : Int32, v.toInt = lx_e lx_D t p → Q v s) : zWi xs d 88 0 [(0, .ref 3), (1, .int a)] s Q := by
  obtain ⟨d, rfl⟩ : ∃ e, d = e + 1 := ⟨d - 1, by omega⟩
  exact vc_88_0 xs d s a Q (ct_88l xs (d + 1) s hd ht Q _ p a (Nat.le_refl _) ha hQ)
theorem ct_89l (hd : 2 ≤ d) {t : List Int32} (ht : tX t s) (Q : Int32 → zS → Prop) : ∀ (n p : Nat) (a : Int32), t.length - p ≤ n → a.toInt = p → (∀ v : Int32, v.toInt = lx_e lx_A t p → Q v s) → zWi xs d 89 2 [(0, .ref 3), (2, .int a)] s Q := by
  obtain ⟨d, rfl⟩ : ∃ e, d = e + 1 := ⟨d - 1, by omega⟩
  have h200 := ht.2.2.1
  intro n
  induction n with
  | zero =>
    intro p a hn ha hQ
    refine vc_89_2 xs d s a Q ?_
    rw [ht.1]
    refine ⟨fun h => by omega, fun h => hQ _ ?_⟩
    rw [lx_e_n (by omega), ha]
  | succ n ih =>
    intro p a hn ha hQ
    refine vc_89_2 xs d s a Q ?_
    rw [ht.1, ha]
    refine ⟨fun h => ⟨tx_X ht.2 (by omega), ?_⟩, fun h => hQ _ ?_⟩
    · refine ct_84 xs d s (by omega) _ _ ?_
      simp only [zb_e, Bool.not_eq_false]
      rw [tx_gi ht.2 (by omega)]
      refine ⟨fun h10 => hQ _ ?_, fun h10 => ih (p + 1) (a + 1) (by omega) (ti_inc ha (by omega)) (fun v hv => hQ v ?_)⟩
      · rw [lx_e_s (by omega), h10]
        exact ha
      · rw [hv, lx_e_s (p := p) (by omega), h10]
        rfl
    · rw [lx_e_n (by omega), ha]
theorem ct_89 (hd : 2 ≤ d) {t : List Int32} (ht : tX t s) (p : Nat) (a : Int32) (ha : a.toInt = p) (Q : Int32 → zS → Prop) (hQ : ∀ v : Int32, v.toInt = lx_e lx_A t p → Q v s) : zWi xs d 89 0 [(0, .ref 3), (1, .int a)] s Q := by
  obtain ⟨d, rfl⟩ : ∃ e, d = e + 1 := ⟨d - 1, by omega⟩
  exact vc_89_0 xs d s a Q (ct_89l xs (d + 1) s hd ht Q _ p a (Nat.le_refl _) ha hQ)
/-- the characters from p on, put into a long -/
def lx_k (t : List Int32) : Nat → Nat → Int64 → Int64
  | 0, _, w => w
  | n + 1, p, w => lx_k t n (p + 1) ((w <<< (Int32.toInt64 8 &&& 63)) ||| (Int32.toInt64 (t.getD p 0)))
def lx_w (t : List Int32) (p e : Nat) : Int64 := if 8 < e - p then 0 else lx_k t (e - p) p 0
theorem ct_91l (hd : 1 ≤ d) {t : List Int32} (ht : tX t s) (e : Nat) (he : e ≤ t.length) (b : Int32) (hb : b.toInt = e) (Q : Int64 → zS → Prop) : ∀ (n p : Nat) (w : Int64) (a : Int32), e - p = n → p ≤ e → a.toInt = p → Q (lx_k t n p w) s → zWl xs d 91 13 [(0, .ref 3), (2, .int b), (3, .long w), (5, .int a)] s Q := by
  obtain ⟨d, rfl⟩ : ∃ e, d = e + 1 := ⟨d - 1, by omega⟩
  have h200 := ht.2.2.1
  intro n
  induction n with
  | zero =>
    intro p w a hn hp ha hQ
    refine vc_91_13 xs d s b w a Q ?_
    rw [ha, hb]
    exact ⟨fun h => by omega, fun h => hQ⟩
  | succ n ih =>
    intro p w a hn hp ha hQ
    refine vc_91_13 xs d s b w a Q ?_
    rw [ha, hb]
    refine ⟨fun h => ?_, fun h => by omega⟩
    refine ct_85n xs d s ht p (by omega) a ha _ ?_
    intro v hv
    rw [ti_ext (x := v) (y := t.getD p 0) hv]
    exact ih (p + 1) _ (a + 1) (by omega) (by omega) (ti_inc ha (by omega)) hQ
theorem ct_91 (hd : 1 ≤ d) {t : List Int32} (ht : tX t s) (p e : Nat) (hp : p ≤ e) (he : e ≤ t.length) (a b : Int32) (ha : a.toInt = p) (hb : b.toInt = e) (Q : Int64 → zS → Prop) (hQ : Q (lx_w t p e) s) : zWl xs d 91 0 [(0, .ref 3), (1, .int a), (2, .int b)] s Q := by
  obtain ⟨d, rfl⟩ : ∃ e, d = e + 1 := ⟨d - 1, by omega⟩
  have h200 := ht.2.2.1
  refine vc_91_0 xs d s a b Q ?_
  rw [ha, hb]
  refine ⟨⟨by omega, by omega⟩, fun h => ?_, fun h => ?_⟩
  · unfold lx_w at hQ; rw [if_pos (by omega)] at hQ; exact hQ
  · unfold lx_w at hQ; rw [if_neg (by omega)] at hQ
    exact ct_91l xs (d + 1) s hd ht e he b hb Q (e - p) p 0 a rfl hp ha hQ
/-- a word's code -/
def lx_wf : List Int64 → Int → Int64 → Int
  | [], _, _ => 0
  | c :: r, k, w => if c = w then k else lx_wf r (k + 1) w
def lx_wc (w : Int64) : Int := lx_wf am_wd 16 w
theorem ct_93l (w : Int64) (Q : Int32 → zS → Prop) : ∀ (n i : Nat) (a : Int32), 14 - i = n → i ≤ 14 → a.toInt = i → (∀ v : Int32, v.toInt = lx_wf (am_wd.drop i) (16 + i) w → Q v s) → zWi xs d 93 2 [(0, .long w), (2, .int a)] s Q := by
  have e14 : am_wd.length = 14 := rfl
  intro n
  induction n with
  | zero =>
    intro i a hn hi ha hQ
    refine vc_93_2 xs d s w a Q ?_
    rw [ha]
    refine ⟨fun h => by omega, fun h => hQ 0 ?_⟩
    rw [List.drop_eq_nil_of_le (by omega)]
    rfl
  | succ n ih =>
    intro i a hn hi ha hQ
    refine vc_93_2 xs d s w a Q ?_
    rw [ha]
    have e : lx_wf (am_wd.drop i) (16 + i) w = if am_wd.getD i 0 = w then 16 + (i : Int) else lx_wf (am_wd.drop (i + 1)) (16 + i + 1) w := by
      rw [List.drop_eq_getElem_cons (by omega), List.getD_eq_getElem?_getD, List.getElem?_eq_getElem (by omega)]
      rfl
    refine ⟨fun h => ⟨⟨by omega, by omega⟩, ?_⟩, fun h => by omega⟩
    rw [show ((i : Int)).toNat = i by omega, lg_0]
    refine ⟨fun h2 => hQ _ ?_, fun h2 => ih (i + 1) (a + 1) (by omega) (by omega) (ti_inc ha (by omega)) (fun v hv => hQ v ?_)⟩
    · have h16 : (16 : Int32).toInt = 16 := by decide
      rw [e, if_pos h2, ti_add (by rw [ha, h16]; exact ⟨by omega, by omega⟩), ha, h16]
    · rw [hv, e, if_neg h2]
      congr 1
theorem ct_93 (w : Int64) (Q : Int32 → zS → Prop) (hQ : ∀ v : Int32, v.toInt = lx_wc w → Q v s) : zWi xs d 93 0 [(0, .long w)] s Q := vc_93_0 xs d s w Q (ct_93l xs d s w Q 14 0 0 rfl (by omega) rfl hQ)
end LX
