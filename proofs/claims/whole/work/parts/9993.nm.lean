/-! isName and nameLength. -/
def nmW (w : Int64) (c : Int32) : Int64 := (w <<< (Int32.toInt64 8 &&& 63)) ||| Int32.toInt64 c
def nmC (e : Int64) : Nat → Int64 → Bool
  | 0, w => !decide (w = 0) && decide (lx_wc w = 0)
  | m + 1, w => if ed_b e m = 0 then nmC e m w else if (if w = 0 then lx_L (ed_b e m).toInt else lx_A (ed_b e m).toInt) = true then nmC e m (nmW w (ed_b e m)) else false
theorem nmC_s (e : Int64) (m : Nat) (w : Int64) : nmC e (m + 1) w = if ed_b e m = 0 then nmC e m w else if (if w = 0 then lx_L (ed_b e m).toInt else lx_A (ed_b e m).toInt) = true then nmC e m (nmW w (ed_b e m)) else false := rfl
theorem ed_n_s (e : Int64) (m : Nat) : ed_n e (m + 1) = (bif am_if .eq (ed_b e m) 0 then 0 else 1) + ed_n e m := rfl
theorem nmW_n {w : Int64} {c : Int32} (h : c ≠ 0) : nmW w c ≠ 0 := by
  intro e
  unfold nmW at e
  have h1 : ((w <<< (Int32.toInt64 8 &&& 63)) ||| Int32.toInt64 c).toBitVec.toNat = 0 := by rw [e]; rfl
  rw [Int64.toBitVec_or, BitVec.toNat_or] at h1
  have h2 : (Int32.toInt64 c).toBitVec.toNat ≤ (w <<< (Int32.toInt64 8 &&& 63)).toBitVec.toNat ||| (Int32.toInt64 c).toBitVec.toNat := Nat.right_le_or
  have h3 : (Int32.toInt64 c).toBitVec.toNat = 0 := by omega
  have h4 : (Int32.toInt64 c).toInt = 0 := by
    show (Int32.toInt64 c).toBitVec.toInt = 0
    rw [BitVec.toInt_eq_toNat_cond, h3]
    rfl
  rw [Int32.toInt_toInt64] at h4
  exact h (ti_0.mp h4)
theorem nm_ok : ∀ n, n < 256 → lx_A (nI n).toInt = true → ed_ok (nI n) = true := by decide +kernel
theorem lx_LA {c : Int} (h : lx_L c = true) : lx_A c = true := by unfold lx_A; rw [h]; rfl
theorem nmC_al (e : Int64) : ∀ (m : Nat) (w : Int64), nmC e m w = true → ed_al e m = true := by
  intro m
  induction m with
  | zero => intro w _; rfl
  | succ m ih =>
    intro w h
    unfold nmC at h
    unfold ed_al
    split at h
    · rename_i h0
      rw [ih w h, h0]; rfl
    · rename_i h0
      by_cases h1 : (if w = 0 then lx_L (ed_b e m).toInt else lx_A (ed_b e m).toInt) = true
      · rw [if_pos h1] at h
        have ha : lx_A (ed_b e m).toInt = true := by
          by_cases hw : w = 0
          · rw [if_pos hw] at h1; exact lx_LA h1
          · rw [if_neg hw] at h1; exact h1
        obtain ⟨n, hn, hb⟩ := ed_b_lt e m
        rw [hb] at ha
        rw [ih _ h, hb, nm_ok n hn ha, Bool.or_true, Bool.true_and]
      · rw [if_neg h1] at h; exact absurd h (by decide)
theorem nmC_n (e : Int64) : ∀ (m : Nat) (w : Int64), nmC e m w = true → w ≠ 0 ∨ 0 < ed_n e m := by
  intro m
  induction m with
  | zero =>
    intro w h
    unfold nmC at h
    rw [Bool.and_eq_true] at h
    left
    intro e0
    rw [e0] at h
    exact absurd h.1 (by decide)
  | succ m ih =>
    intro w h
    unfold nmC at h
    unfold ed_n
    split at h
    · rcases ih w h with g | g
      · exact Or.inl g
      · exact Or.inr (by omega)
    · rename_i h0
      right
      have : am_if .eq (ed_b e m) 0 = false := decide_eq_false h0
      rw [this]
      show 0 < 1 + ed_n e m
      omega
section NM
variable (xs : Option (List Int32)) (d : Nat) {s : zS}
theorem ct_19 (e : Int64) {m : Nat} (hm : m < 8) (Q : Int32 → zS → Prop) (hQ : Q (ed_b e m) s) : zWi xs d 19 0 [(0, .long e), (2, .int (nI (8 - (m + 1))))] s Q := by
  refine vc_19_0 xs d s e _ Q ?_
  rw [ed_sh m hm]
  exact hQ
theorem ct_22l (e : Int64) (hd : 1 ≤ d) (Q : Int32 → zS → Prop) : ∀ (m : Nat), m ≤ 8 → ∀ w : Int64, Q (zb (nmC e m w)) s → zWi xs (d + 1) 22 5 [(0, .long e), (2, .long w), (4, .int (nI (8 - m)))] s Q := by
  intro m
  induction m with
  | zero =>
    intro _ w hQ
    unfold nmC at hQ
    refine vc_22_5 xs d s e w _ Q ⟨fun h => absurd h (by decide), fun _ => ?_⟩
    rw [lg_0]
    refine ⟨fun h0 => ?_, fun h0 => ct_93 xs d s w _ (fun v hv => ?_)⟩
    · rw [decide_eq_true h0] at hQ; exact hQ
    · rw [decide_eq_false h0] at hQ
      rw [hv]
      refine ⟨fun h => ?_, fun h => ?_⟩
      · rw [decide_eq_true h] at hQ; exact hQ
      · rw [decide_eq_false h] at hQ; exact hQ
  | succ m ih =>
    intro hm w hQ
    have hm8 : m < 8 := hm
    have ha : (nI (8 - (m + 1))).toInt = ((8 - (m + 1) : Nat) : Int) := ti_nI (by omega)
    unfold nmC at hQ
    refine vc_22_5 xs d s e w _ Q ⟨fun _ => ct_19 xs d e hm8 _ ?_, fun h => by rw [ha] at h; omega⟩
    rw [ti_0, ed_up m hm8]
    refine ⟨fun h0 => ?_, fun h0 => ?_⟩
    · rw [if_pos h0] at hQ
      exact ih (by omega) w hQ
    · rw [if_neg h0] at hQ
      rw [lg_0]
      refine ⟨fun hw => ct_83 xs d s (ed_b e m) _ ?_, fun hw => ct_84 xs d s hd (ed_b e m) _ ?_⟩
      · rw [if_pos hw] at hQ
        cases hl : lx_L (ed_b e m).toInt with
        | false => rw [hl, if_neg (by decide)] at hQ; exact ⟨fun _ => hQ, fun h => absurd rfl h⟩
        | true => rw [hl, if_pos rfl] at hQ; exact ⟨fun h => absurd h (by decide), fun _ => ih (by omega) _ hQ⟩
      · rw [if_neg hw] at hQ
        cases hl : lx_A (ed_b e m).toInt with
        | false => rw [hl, if_neg (by decide)] at hQ; exact ⟨fun _ => hQ, fun h => absurd rfl h⟩
        | true => rw [hl, if_pos rfl] at hQ; exact ⟨fun h => absurd h (by decide), fun _ => ih (by omega) _ hQ⟩
/-- isName -/
theorem ct_22 (hd : 2 ≤ d) (e : Int64) (Q : Int32 → zS → Prop) (hQ : Q (zb (nmC e 8 0)) s) : zWi xs d 22 0 [(0, .long e)] s Q := by
  obtain ⟨d, rfl⟩ : ∃ e, d = e + 1 := ⟨d - 1, by omega⟩
  exact vc_22_0 xs d s e Q (ct_22l xs d e (by omega) Q 8 (Nat.le_refl _) 0 hQ)
theorem lx_wm0 (w : Int64) : lx_wm w = 0 ↔ lx_wc w = 0 := by
  unfold lx_wm
  rcases lx_wc_code w with h | h
  · rw [if_pos h, h]
  · rw [if_neg (by omega)]
    omega
theorem ct_198l (e : Int64) (Q : Int32 → zS → Prop) : ∀ (m : Nat), m ≤ 8 → ∀ (w : Int64) (j : Nat) (g : Bool), j + m ≤ 8 → (g = true → (j = 0 ↔ w = 0)) → (∀ v : Int32, v = nI (if (g && nmC e m w) = true then j + ed_n e m else 0) → Q v s) → zWi xs (d + 1) 198 11 [(0, .long e), (2, .int (nI j)), (3, .long w), (5, .int (zb g)), (6, .int (ed_k m))] s Q := by
  intro m
  induction m with
  | zero =>
    intro _ w j g hj hg hQ
    refine vc_198_11 xs d s e (nI j) w (zb g) (ed_k 0) Q ⟨fun _ => ?_, fun h => absurd (by decide) h⟩
    cases g with
    | false => exact ⟨fun _ => hQ 0 rfl, fun h => absurd rfl h⟩
    | true =>
      refine ⟨fun h => absurd h (by decide), fun _ => ct_139 xs d s w _ (fun v hv => ?_)⟩
      rw [hv, lx_wm0]
      have hgg := hg rfl
      have e1 : (true && nmC e 0 w) = (!decide (w = 0) && decide (lx_wc w = 0)) := rfl
      rw [e1] at hQ
      refine ⟨fun h => hQ _ ?_, fun h => hQ 0 ?_⟩
      · by_cases hw : w = 0
        · rw [decide_eq_true hw, if_neg (by simp), hgg.mpr hw]
        · rw [decide_eq_false hw, decide_eq_true h]; rfl
      · rw [decide_eq_false h, if_neg (by simp)]; rfl
  | succ m ih =>
    intro hm w j g hj hg hQ
    have hm8 : m < 8 := hm
    have ek : ed_k (m + 1) = nI (8 * m) := rfl
    have hk : (nI (8 * m)).toInt = ((8 * m : Nat) : Int) := ti_nI (by omega)
    have hjt : (nI j).toInt = (j : Int) := ti_nI (by omega)
    have ej : nI j + 1 = nI (j + 1) := nI_1 j
    obtain ⟨n, hn, hbn⟩ := ed_b_lt e m
    have hb0 : 0 ≤ (ed_b e m).toInt ∧ (ed_b e m).toInt < 256 := by rw [hbn, ti_nI (by omega)]; omega
    have hsh : (w * 256) + (Int32.toInt64 (ed_b e m)) = nmW w (ed_b e m) := (lx_sh w _ hb0.1 hb0.2).symm
    rw [ek]
    refine vc_198_11 xs d s e (nI j) w (zb g) (nI (8 * m)) Q ⟨fun h => by rw [hk] at h; omega, fun _ => ?_⟩
    rw [ed_kd m hm8]
    have eb : (Int64.toInt32 (((Int64.toUInt64 e) >>> ((Int32.toInt64 (nI (8 * m))).toUInt64 &&& Int64.toUInt64 63)).toInt64)) &&& 255 = ed_b e m := rfl
    rw [eb, ti_0, hsh, ej]
    have hw1 : ed_b e m ≠ 0 → nmW w (ed_b e m) ≠ 0 := fun h => nmW_n h
    refine ⟨fun h0 => ih (by omega) w j g (by omega) hg (fun v hv => hQ v ?_), fun h0 => ?_⟩
    · rw [hv, nmC_s, ed_n_s, if_pos h0]
      have : am_if .eq (ed_b e m) 0 = true := decide_eq_true h0
      rw [this]
      show _ = nI (if (g && nmC e m w) = true then j + (0 + ed_n e m) else 0)
      rw [Nat.zero_add]
    · have hen : ed_n e (m + 1) = 1 + ed_n e m := by
        show (bif am_if .eq (ed_b e m) 0 then 0 else 1) + ed_n e m = _
        rw [show am_if .eq (ed_b e m) 0 = false from decide_eq_false h0]; rfl
      have step : ∀ g1 : Bool, (g && nmC e (m + 1) w) = (g1 && nmC e m (nmW w (ed_b e m))) → zWi xs (d + 1) 198 11 [(0, .long e), (2, .int (nI (j + 1))), (3, .long (nmW w (ed_b e m))), (5, .int (zb g1)), (6, .int (ed_k m))] s Q := by
        intro g1 hg1
        refine ih (by omega) _ (j + 1) g1 (by omega) (fun _ => ⟨fun h => by omega, fun h => absurd h (hw1 h0)⟩) (fun v hv => hQ v ?_)
        rw [hv, hg1, hen]
        congr 1
        split <;> omega
      cases g with
      | false => exact ⟨fun _ => step false rfl, fun h => absurd rfl h⟩
      | true =>
        have hgg := hg rfl
        refine ⟨fun h => absurd h (by decide), fun _ => ct_138 xs d s (ed_b e m) _ ?_⟩
        have hx : ∀ b : Bool, (if w = 0 then lx_L (ed_b e m).toInt else lx_A (ed_b e m).toInt) = b → (true && nmC e (m + 1) w) = (b && nmC e m (nmW w (ed_b e m))) := by
          intro b hb
          show nmC e (m + 1) w = _
          rw [nmC_s, if_neg h0, hb]
          cases b <;> rfl
        cases hl : lx_L (ed_b e m).toInt with
        | true =>
          refine ⟨fun h => absurd h (by decide), fun _ => step true (hx true ?_)⟩
          split
          · exact hl
          · exact lx_LA hl
        | false =>
          refine ⟨fun _ => ?_, fun h => absurd rfl h⟩
          rw [hjt]
          refine ⟨fun hj0 => ct_137 xs d s (ed_b e m) _ ?_, fun hj0 => step false (hx false ?_)⟩
          · have hwn : w ≠ 0 := fun h => by have := hgg.mpr h; omega
            cases hd2 : lx_D (ed_b e m).toInt with
            | false => exact ⟨fun _ => step false (hx false (by rw [if_neg hwn]; unfold lx_A; rw [hl, hd2]; rfl)), fun h => absurd rfl h⟩
            | true => exact ⟨fun h => absurd h (by decide), fun _ => step true (hx true (by rw [if_neg hwn]; unfold lx_A; rw [hl, hd2]; rfl))⟩
          · have hw0 : w = 0 := hgg.mp (by omega)
            rw [if_pos hw0]; exact hl
/-- nameLength -/
theorem ct_198 (hd : 1 ≤ d) (e : Int64) (Q : Int32 → zS → Prop) (hQ : ∀ v : Int32, v = nI (if nmC e 8 0 = true then ed_n e 8 else 0) → Q v s) : zWi xs d 198 0 [(0, .long e)] s Q := by
  obtain ⟨d, rfl⟩ : ∃ e, d = e + 1 := ⟨d - 1, by omega⟩
  refine vc_198_0 xs d s e Q (ct_198l xs d e Q 8 (Nat.le_refl _) 0 0 true (by omega) (fun _ => ⟨fun _ => rfl, fun _ => rfl⟩) (fun v hv => hQ v ?_))
  rw [hv, Bool.true_and, Nat.zero_add]
end NM
