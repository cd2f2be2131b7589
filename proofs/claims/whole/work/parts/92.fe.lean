/-! The reference: findError. -/
def nt (p : Int × Int) (i n : Int) : Int × Int := if p.1 = 0 ∨ i < p.2 ∨ (i = p.2 ∧ n < p.1) then (n, i) else p
def nts (p : Int × Int) (i : Int) (ns : List Int) : Int × Int := ns.foldl (fun p n => nt p i n) p
theorem nts_a (p : Int × Int) (i : Int) (a b : List Int) : nts p i (a ++ b) = nts (nts p i a) i b := List.foldl_append
theorem nt_2 {p : Int × Int} {i n : Int} (h : n ≠ 0) : nt (nt p i n) i n = nt p i n := by
  unfold nt
  by_cases c : p.1 = 0 ∨ i < p.2 ∨ (i = p.2 ∧ n < p.1)
  · rw [if_pos c]
    rw [if_neg (by show ¬ (n = 0 ∨ i < i ∨ (i = i ∧ n < n)); omega)]
  · rw [if_neg c, if_neg c]
def eE (p : Int × Int) (s : zS) : Prop := (s.1 34).toInt = p.1 ∧ (s.1 33).toInt = p.2
section PU
variable (t : List Int32) (T : List lxT) (L : List pSc) (C : List pOc)
def dclE (o : Nat) (x : pOc) : List Int := (if sAll t T C x.2.2.1 x.1 2 2 = true then [2] else []) ++ ((if sm t T C x.2.2.1 x.1 0 3 o = true then [3] else []) ++ ((if decide (pmr x.2.2.2 = 5 ∧ x.2.2.1 = 0) = true then [4] else []) ++ ((if sm t T C x.2.2.1 x.1 (9 - pmr x.2.2.2) (9 - pmr x.2.2.2) o = true then [5] else []) ++ (if decide (pmr x.2.2.2 = 5 ∧ ¬ x.2.2.1 = 0 ∧ srch t T L C x.2.2.1.toNat x.2.2.1 x.1 < 0) = true then [6] else []))))
/-- is one of the comprehensions from c outwards bound to what token i is spelled as -/
def tgB : Nat → Int → Nat → Bool
  | 0, _, _ => false
  | k + 1, c, i => if (0 :: sS L).getD c.toNat 0 = 4 then (eqT t T (((-1) :: L.map rLp).getD c.toNat 0).toNat i || tgB k ((0 :: sP L).getD c.toNat 0) i) else false
def wlE (x : pOc) : List Int := (if decide ((0 :: sS L).getD x.2.1.toNat 0 = 4 ∧ (0 :: sS L).getD x.2.2.1.toNat 0 = 2) = true then [8] else []) ++ ((if tgB t T L (L.length + 1) x.2.1 x.1 = true then [9] else []) ++ (if L.any (fun r => inS r (x.1 : Int)) = true then [10] else []))
def errs (o : Nat) (x : pOc) : List Int := (if (decide (pmr x.2.2.2 = 2) && sm t T C x.2.2.1 x.1 2 2 o) = true then [1] else []) ++ ((if decide (4 ≤ pmr x.2.2.2) = true then dclE t T L C o x else []) ++ (if decide (pmr x.2.2.2 = 3) = true then wlE t T L x else []))
end PU
section FE
variable (xs : Option (List Int32)) (d : Nat) {t : List Int32} {T : List lxT} {L : List pSc} {C : List pOc} {s : zS} {p : Int × Int}
theorem nR_E {F A : List Nat} {s1 : zS} (h : zE F A s s1) (f23 : F.contains 23 = false) (f31 : F.contains 31 = false) (f32 : F.contains 32 = false) (hA : A = []) (hN : nR T L C s) : nR T L C s1 := by
  subst hA
  obtain ⟨h1, h2, h3, h4, h5⟩ := hN
  exact ⟨mkR_E h f23 rfl rfl rfl rfl h1, wR_E h f31 rfl rfl rfl rfl rfl rfl rfl h2, rlR_E h rfl h3, by rw [h.1 32 f32]; exact h4, by rw [h.2 51 rfl]; exact h5⟩
theorem ct_175 (hE : eE p s) (a1 a2 : Int32) (i n : Int) (h1 : a1.toInt = i) (h2 : a2.toInt = n) (Q : zS → Prop) (hQ : ∀ s1, eE (nt p i n) s1 → zE [33, 34] [] s s1 → Q s1) : zWv xs d 175 0 [(0, .ref 32), (1, .int a1), (2, .int a2)] s Q := by
  obtain ⟨e1, e2⟩ := hE
  have yes : (p.1 = 0 ∨ i < p.2 ∨ (i = p.2 ∧ n < p.1)) → Q (zf (zf s 34 a2) 33 a1) := fun c => hQ _ (by unfold nt; rw [if_pos c]; exact ⟨h2, h1⟩) (zE_f (zE_f (zE_r s) rfl) rfl)
  have no : ¬ (p.1 = 0 ∨ i < p.2 ∨ (i = p.2 ∧ n < p.1)) → Q s := fun c => hQ s (by unfold nt; rw [if_neg c]; exact ⟨e1, e2⟩) (zE_r s)
  refine vc_175_0 xs d s a1 a2 Q ?_
  rw [e1, e2, h1, h2]
  exact ⟨fun h => yes (Or.inl h), fun h => ⟨fun g => yes (Or.inr (Or.inl g)), fun g => ⟨fun k => ⟨fun m => yes (Or.inr (Or.inr ⟨k, m⟩)), fun m => no (by omega)⟩, fun k => no (by omega)⟩⟩⟩
theorem n_step {b : Bool} {W : zS → Prop} (hE : eE p s) (a2 an : Int32) (i n : Int) (h2 : a2.toInt = i) (hn : an.toInt = n) (hW : ∀ s1, eE (nts p i (if b = true then [n] else [])) s1 → zE [33, 34] [] s s1 → W s1) : ((zb b).toInt = 0 → W s) ∧ (¬ (zb b).toInt = 0 → zWv xs d 175 0 [(0, .ref 32), (1, .int a2), (2, .int an)] s (fun s9 => W s9)) := by
  cases b with
  | false => exact ⟨fun _ => hW s hE (zE_r s), fun h => absurd rfl h⟩
  | true => exact ⟨fun h => absurd h (by decide), fun _ => ct_175 xs d hE a2 an i n h2 hn _ (fun s1 g1 g2 => hW s1 g1 g2)⟩
/-- declared -/
theorem ct_177 (hd : 7 ≤ d) (hN : nR T L C s) (hA : Ax T L C) (ht : tM t s) (hB : tkB t T) (hE : eE p s) {o : Nat} {x : pOc} (hx : C[o]? = some x) (a1 a2 a3 : Int32) (h1 : a1.toInt = o) (h2 : a2.toInt = (x.1 : Int)) (h3 : a3.toInt = x.2.2.1) (hr : pmr x.2.2.2 = 4 ∨ pmr x.2.2.2 = 5) (Q : zS → Prop) (hQ : ∀ s1, eE (nts p (x.1 : Int) (dclE t T L C o x)) s1 → zE [33, 34] [] s s1 → Q s1) : zWv xs d 177 0 [(0, .ref 32), (1, .int a1), (2, .int a2), (3, .int a3)] s Q := by
  obtain ⟨d, rfl⟩ : ∃ e, d = e + 1 := ⟨d - 1, by omega⟩
  have hm : x ∈ C := List.mem_of_getElem? hx
  have hi := (hA.tok x hm).1
  have hbx := ax_b hA hm
  have hol : o ≤ C.length := by
    by_cases h : o < C.length
    · omega
    · rw [List.getElem?_eq_none (by omega)] at hx; cases hx
  unfold dclE at hQ
  rw [nts_a, nts_a, nts_a, nts_a] at hQ
  refine vc_177_0 xs d s a1 a2 a3 Q (ct_173a xs d (by omega) hN hA ht hB hi x.2.2.1 2 2 a3 a2 2 2 h3 h2 rfl rfl _ (n_step xs d (W := fun s1 => zWv xs (d + 1) 177 21 [(0, .ref 32), (1, .int a1), (2, .int a2), (3, .int a3)] s1 Q) hE a2 2 _ 2 h2 rfl (fun s1 e1 z1 => ?_)))
  have hN1 := nR_E z1 rfl rfl rfl rfl hN
  have ht1 := tM_E z1 rfl rfl ht
  refine vc_177_21 xs d s1 a1 a2 a3 Q (ct_173 xs d (by omega) hN1 hA ht1 hB hi x.2.2.1 0 3 o hol a3 a2 0 3 a1 h3 h2 rfl rfl h1 _ (n_step xs d (W := fun s1 => zWv xs (d + 1) 177 39 [(0, .ref 32), (1, .int a1), (2, .int a2), (3, .int a3)] s1 Q) e1 a2 3 _ 3 h2 rfl (fun s2 e2 z2 => ?_)))
  have hN2 := nR_E z2 rfl rfl rfl rfl hN1
  have ht2 := tM_E z2 rfl rfl ht1
  obtain ⟨r1, r2⟩ := nR_rl hN2 hA hm
  have go3 : ∀ s3, eE (nts (nts (nts p (x.1 : Int) (if sAll t T C x.2.2.1 x.1 2 2 = true then [2] else [])) (x.1 : Int) (if sm t T C x.2.2.1 x.1 0 3 o = true then [3] else [])) (x.1 : Int) (if decide (pmr x.2.2.2 = 5 ∧ x.2.2.1 = 0) = true then [4] else [])) s3 → zE [33, 34] [] s2 s3 → zWv xs (d + 1) 177 59 [(0, .ref 32), (1, .int a1), (2, .int a2), (3, .int a3)] s3 Q := by
    intro s3 e3 z3
    have hN3 := nR_E z3 rfl rfl rfl rfl hN2
    have ht3 := tM_E z3 rfl rfl ht2
    obtain ⟨q1, q2⟩ := nR_rl hN3 hA hm
    refine vc_177_59 xs d s3 a1 a2 a3 Q ?_
    rw [h2]
    have e9 : ((9 : Int32)).toInt = 9 := rfl
    have hd9 : (9 - (zg (s3.2 38) (x.1 : Int))).toInt = 9 - pmr x.2.2.2 := by rw [ti_sub (by rw [q2, e9]; exact ⟨by omega, by omega⟩), q2, e9]
    refine ⟨q1, ct_173 xs d (by omega) hN3 hA ht3 hB hi x.2.2.1 _ _ o hol a3 a2 _ _ a1 h3 h2 hd9 hd9 h1 _ (n_step xs d (W := fun s1 => zWv xs (d + 1) 177 90 [(0, .ref 32), (2, .int a2), (3, .int a3)] s1 Q) e3 a2 5 _ 5 h2 rfl (fun s4 e4 z4 => ?_))⟩
    have hN4 := nR_E z4 rfl rfl rfl rfl hN3
    have ht4 := tM_E z4 rfl rfl ht3
    obtain ⟨y1, y2⟩ := nR_rl hN4 hA hm
    have zall := zE_t z1 (zE_t z2 (zE_t z3 z4))
    have fin : ∀ s5, (∀ b : Bool, decide (pmr x.2.2.2 = 5 ∧ ¬ x.2.2.1 = 0 ∧ srch t T L C x.2.2.1.toNat x.2.2.1 x.1 < 0) = b → eE (nts (nts (nts (nts (nts p (x.1 : Int) (if sAll t T C x.2.2.1 x.1 2 2 = true then [2] else [])) (x.1 : Int) (if sm t T C x.2.2.1 x.1 0 3 o = true then [3] else [])) (x.1 : Int) (if decide (pmr x.2.2.2 = 5 ∧ x.2.2.1 = 0) = true then [4] else [])) (x.1 : Int) (if sm t T C x.2.2.1 x.1 (9 - pmr x.2.2.2) (9 - pmr x.2.2.2) o = true then [5] else [])) (x.1 : Int) (if b = true then [6] else [])) s5) → zE [33, 34] [] s4 s5 → Q s5 := fun s5 h z => hQ s5 (h _ rfl) (zE_t zall z)
    refine vc_177_90 xs d s4 a2 a3 Q ?_
    rw [h2, y2, h3]
    refine ⟨y1, fun h5 => ⟨fun h0 => fin s4 (fun b hb => ?_) (zE_r s4), fun h0 => ct_174 xs d (by omega) hN4 hA ht4 hB hi a3 a2 (by omega) (by omega) h2 _ (fun v hv => ?_)⟩, fun h5 => fin s4 (fun b hb => ?_) (zE_r s4)⟩
    · rw [decide_eq_false (by omega)] at hb
      subst hb
      exact e4
    · rw [h3] at hv
      rw [hv]
      refine ⟨fun hneg => ct_175 xs d e4 a2 6 _ 6 h2 rfl _ (fun s5 e5 z5 => fin s5 (fun b hb => ?_) z5), fun hneg => fin s4 (fun b hb => ?_) (zE_r s4)⟩
      · rw [decide_eq_true ⟨h5, h0, hneg⟩] at hb
        subst hb
        exact e5
      · rw [decide_eq_false (by omega)] at hb
        subst hb
        exact e4
    · rw [decide_eq_false (by omega)] at hb
      subst hb
      exact e4
  refine vc_177_39 xs d s2 a1 a2 a3 Q ?_
  rw [h2, r2, h3]
  refine ⟨r1, fun h5 => ⟨fun h0 => ct_175 xs d e2 a2 4 _ 4 h2 rfl _ (fun s3 e3 z3 => go3 s3 ?_ z3), fun h0 => go3 s2 ?_ (zE_r s2)⟩, fun h5 => go3 s2 ?_ (zE_r s2)⟩
  · rw [decide_eq_true ⟨h5, h0⟩]
    exact e3
  · rw [decide_eq_false (by omega)]
    exact e2
  · rw [decide_eq_false (by omega)]
    exact e2
end FE
