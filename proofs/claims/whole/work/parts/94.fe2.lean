/-! The reference: findError, altogether. -/
section PU
variable (t : List Int32) (T : List lxT) (L : List pSc) (C : List pOc)
def feL : Nat → List pOc → Int × Int → Int × Int
  | _, [], p => p
  | o, x :: B, p => feL (o + 1) B (nts p (x.1 : Int) (errs t T L C o x))
def strT (a b : Nat) : List Nat := (rtT T a b).filter (fun (i : Nat) => decide (lcG gS L 1 0 (i : Int) ≠ 1))
def feR (is : List Nat) (p : Int × Int) : Int × Int := is.foldl (fun p (i : Nat) => nt p (i : Int) 7) p
def fErr : Int × Int := feR (strT T L 0 T.length) (feL t T L C 0 C (0, 0))
end PU
/-- the sort of the scope that holds a place -/
theorem lc_s : ∀ (W : List pSc) (A : List Int) (n c cs tk : Int), n = A.length → 0 ≤ c → c < (A.length : Int) → A.getD c.toNat 0 = cs → (A ++ sS W).getD (lcG gL W n c tk).toNat 0 = lcG gS W n cs tk := by
  intro W
  induction W with
  | nil =>
    intro A n c cs tk hn h0 h1 hc
    show (A ++ []).getD c.toNat 0 = cs
    rw [List.append_nil]; exact hc
  | cons r W ih =>
    intro A n c cs tk hn h0 h1 hc
    have e : A ++ sS (r :: W) = (A ++ [r.1]) ++ sS W := by
      unfold sS
      rw [List.map_cons, List.append_assoc]; rfl
    have hl : ((A ++ [r.1]).length : Int) = (A.length : Int) + 1 := by rw [List.length_append]; rfl
    show (A ++ sS (r :: W)).getD (lcG gL W (n + 1) (if cont r tk = true then n else c) tk).toNat 0 = lcG gS W (n + 1) (if cont r tk = true then r.1 else cs) tk
    rw [e]
    cases hct : cont r tk with
    | true =>
      rw [if_pos rfl, if_pos rfl]
      refine ih (A ++ [r.1]) (n + 1) n r.1 tk (by omega) (by omega) (by omega) ?_
      rw [getD_app, if_neg (by omega), show n.toNat - A.length = 0 by omega]; rfl
    | false =>
      rw [if_neg (by decide), if_neg (by decide)]
      refine ih (A ++ [r.1]) (n + 1) c cs tk (by omega) h0 (by omega) ?_
      rw [getD_app, if_pos (by omega)]; exact hc
section FE
variable (xs : Option (List Int32)) (d : Nat) {t : List Int32} {T : List lxT} {L : List pSc} {C : List pOc}
theorem ct_176r (hd : 2 ≤ d) (hA : Ax T L C) (Q : zS → Prop) : ∀ (n i : Nat) (s : zS) (a1 : Int32) (p : Int × Int), T.length - i = n → i ≤ T.length → a1.toInt = i → nR T L C s → eE p s → (∀ s1, eE (feR (strT T L i T.length) p) s1 → zE [33, 34] [] s s1 → Q s1) → zWv xs (d + 1) 176 100 [(0, .ref 32), (1, .int a1)] s Q := by
  intro n
  induction n with
  | zero =>
    intro i s a1 p hn hi h1 hN hE hQ
    have e : i = T.length := by omega
    subst e
    refine vc_176_100 xs d s a1 Q ⟨fun h => by rw [h1, hN.1.1] at h; omega, fun _ => hQ s ?_ (zE_r s)⟩
    unfold strT
    rw [rtT_0]
    exact hE
  | succ n ih =>
    intro i s a1 p hn hi h1 hN hE hQ
    have hl : T.length ≤ 420 := by have := hN.1.2.1.2.1; rw [List.length_map] at this; exact this
    obtain ⟨c1, _, _, c4, c5, _, _, c8⟩ := mk_c hN.1 (i := i) (by omega)
    have e1 : (a1 + 1).toInt = ((i + 1 : Nat) : Int) := ti_inc h1 (by omega)
    have hsp : strT T L i T.length = strT T L i (i + 1) ++ strT T L (i + 1) T.length := by
      unfold strT
      rw [rtT_a (b := i + 1) (by omega) (by omega), List.filter_append]
    have no : strT T L i (i + 1) = [] → zWv xs (d + 1) 176 100 [(0, .ref 32), (1, .int (a1 + 1))] s Q := fun he => ih (i + 1) s (a1 + 1) p (by omega) (by omega) e1 hN hE (fun s1 g1 g2 => hQ s1 (by rw [hsp, he]; exact g1) g2)
    have hne : ¬ tc T i = 28 → strT T L i (i + 1) = [] := fun h => by
      unfold strT
      rw [rtT_1, if_neg h]; rfl
    refine vc_176_100 xs d s a1 Q ⟨fun _ => ?_, fun h => by rw [h1, hN.1.1] at h; omega⟩
    rw [h1, c5]
    refine ⟨c1, fun hk => ⟨c4, fun hw => ?_, fun hw => no (hne (fun e => hw ?_))⟩, fun hk => no (hne (fun e => hk ?_))⟩
    · have h8 : tc T i ≠ 8 := fun e => by rw [e] at hk; exact absurd hk (by decide)
      rw [c8 h8] at hw
      have h28 : tc T i = 28 := kw_w h8 (by decide) (by decide) hk hw
      refine ct_166 xs d (by omega) hN.2.1 a1 _ (fun v hv => ?_)
      rw [h1] at hv
      have hlb : 0 ≤ v.toInt ∧ v.toInt < (L.length : Int) + 1 := by
        rw [hv]
        rcases lc_b L 1 0 (i : Int) with h | h
        · rw [h]; omega
        · omega
      obtain ⟨z1, z2⟩ := nR_s hN v hlb.1 hlb.2
      have es : (0 :: sS L).getD v.toInt.toNat 0 = lcG gS L 1 0 (i : Int) := by
        rw [hv]
        exact lc_s L [0] 1 0 0 (i : Int) rfl (Int.le_refl _) (by decide) rfl
      rw [z2, es]
      refine ⟨z1, fun hs => no ?_, fun hs => ct_175 xs d hE a1 7 _ 7 h1 rfl _ (fun s1 e2 z2 => ?_)⟩
      · unfold strT
        rw [rtT_1, if_pos h28, List.filter_cons_of_neg (by simpa using hs)]; rfl
      · refine ih (i + 1) s1 (a1 + 1) _ (by omega) (by omega) e1 (nR_E z2 rfl rfl rfl rfl hN) e2 (fun s2 g1 g2 => hQ s2 ?_ (zE_t z2 g2))
        have he : strT T L i (i + 1) = [i] := by
          unfold strT
          rw [rtT_1, if_pos h28, List.filter_cons_of_pos (by simpa using hs)]; rfl
        rw [hsp, he]
        exact g1
    · rw [c8 (by rw [e]; decide), e]; decide
    · rw [e]; decide
theorem ct_176o (hd : 7 ≤ d) (hA : Ax T L C) (hB : tkB t T) (Q : zS → Prop) : ∀ (B : List pOc) (o : Nat) (s : zS) (a1 : Int32) (p : Int × Int), C.drop o = B → a1.toInt = o → nR T L C s → tM t s → eE p s → (∀ s1, eE (feL t T L C o B p) s1 → zE [33, 34] [] s s1 → zWv xs (d + 1) 176 100 [(0, .ref 32), (1, .int 0)] s1 Q) → zWv xs (d + 1) 176 12 [(0, .ref 32), (1, .int a1)] s Q := by
  intro B
  induction B with
  | nil =>
    intro o s a1 p ho h1 hN ht hE hQ
    have := dr_0 ho
    have hcc := hN.2.2.2.1
    exact vc_176_12 xs d s a1 Q ⟨fun h => by omega, fun _ => hQ s hE (zE_r s)⟩
  | cons x B ih =>
    intro o s a1 p ho h1 hN ht hE hQ
    obtain ⟨hx, ho2, hol⟩ := dr_x ho
    have hcl : C.length ≤ 200 := by have := hN.2.2.2.2.2.1; rw [List.length_map] at this; exact this
    have hcc := hN.2.2.2.1
    have hm : x ∈ C := List.mem_of_getElem? hx
    have hi := (hA.tok x hm).1
    obtain ⟨n1, n2⟩ := nR_nm hN hx
    have e1 : (a1 + 1).toInt = ((o + 1 : Nat) : Int) := ti_inc h1 (by omega)
    have hrl := hA.rol x hm
    have hQ' : ∀ s1, eE (feL t T L C (o + 1) B (nts (nts (nts p (x.1 : Int) (if (decide (pmr x.2.2.2 = 2) && sm t T C x.2.2.1 x.1 2 2 o) = true then [1] else [])) (x.1 : Int) (if decide (4 ≤ pmr x.2.2.2) = true then dclE t T L C o x else [])) (x.1 : Int) (if decide (pmr x.2.2.2 = 3) = true then wlE t T L x else []))) s1 → zE [33, 34] [] s s1 → zWv xs (d + 1) 176 100 [(0, .ref 32), (1, .int 0)] s1 Q := by
      intro s1 g1 g2
      refine hQ s1 ?_ g2
      show eE (feL t T L C (o + 1) B (nts p (x.1 : Int) (errs t T L C o x))) s1
      unfold errs
      rw [nts_a, nts_a]
      exact g1
    clear hQ

    have t3 : ∀ (s' : zS) (v9 : Int32), v9.toInt = x.2.2.1 → eE (nts (nts p (x.1 : Int) (if (decide (pmr x.2.2.2 = 2) && sm t T C x.2.2.1 x.1 2 2 o) = true then [1] else [])) (x.1 : Int) (if decide (4 ≤ pmr x.2.2.2) = true then dclE t T L C o x else [])) s' → zE [33, 34] [] s s' → zX (s'.2 38) (zg (s.2 51) (o : Int)).toInt ∧ ((zg (s'.2 38) (zg (s.2 51) (o : Int)).toInt).toInt = 3 → (zWv xs d 178 0 [(0, .ref 32), (1, .int (zg (s.2 51) (o : Int))), (2, .int v9)] s' (fun s36 => zWv xs (d + 1) 176 12 [(0, .ref 32), (1, .int (a1 + 1))] s36 Q))) ∧ (¬ (zg (s'.2 38) (zg (s.2 51) (o : Int)).toInt).toInt = 3 → (zWv xs (d + 1) 176 12 [(0, .ref 32), (1, .int (a1 + 1))] s' Q)) := by
      intro s' v9 h9 e' z'
      have hN' := nR_E z' rfl rfl rfl rfl hN
      have ht' := tM_E z' rfl rfl ht
      obtain ⟨r1, r2⟩ := nR_rl hN' hA hm
      rw [n2, r2]
      refine ⟨r1, fun h3 => ct_178 xs d (by omega) hN' hA ht' hB e' hm _ v9 n2 h9 _ (fun s2 e2 z2 => ?_), fun h3 => ?_⟩
      · refine ih (o + 1) s2 (a1 + 1) _ ho2 e1 (nR_E z2 rfl rfl rfl rfl hN') (tM_E z2 rfl rfl ht') e2 (fun s3 g1 g2 => hQ' s3 ?_ (zE_t z' (zE_t z2 g2)))
        rw [decide_eq_true h3]
        exact g1
      · refine ih (o + 1) s' (a1 + 1) _ ho2 e1 hN' ht' e' (fun s3 g1 g2 => hQ' s3 ?_ (zE_t z' g2))
        rw [decide_eq_false h3]
        exact g1
    have t2 : ∀ (s' : zS) (v9 : Int32), v9.toInt = x.2.2.1 → eE (nts p (x.1 : Int) (if (decide (pmr x.2.2.2 = 2) && sm t T C x.2.2.1 x.1 2 2 o) = true then [1] else [])) s' → zE [33, 34] [] s s' → zWi xs d 172 0 [(0, .ref 32), (1, .int a1)] s' (fun v25 s23 => (v25.toInt = 0 → (zX (s23.2 38) (zg (s.2 51) (o : Int)).toInt ∧ ((zg (s23.2 38) (zg (s.2 51) (o : Int)).toInt).toInt = 3 → (zWv xs d 178 0 [(0, .ref 32), (1, .int (zg (s.2 51) (o : Int))), (2, .int v9)] s23 (fun s36 => zWv xs (d + 1) 176 12 [(0, .ref 32), (1, .int (a1 + 1))] s36 Q))) ∧ (¬ (zg (s23.2 38) (zg (s.2 51) (o : Int)).toInt).toInt = 3 → (zWv xs (d + 1) 176 12 [(0, .ref 32), (1, .int (a1 + 1))] s23 Q)))) ∧ (¬ v25.toInt = 0 → (zWv xs d 177 0 [(0, .ref 32), (1, .int a1), (2, .int (zg (s.2 51) (o : Int))), (3, .int v9)] s23 (fun s40 => zX (s40.2 38) (zg (s.2 51) (o : Int)).toInt ∧ ((zg (s40.2 38) (zg (s.2 51) (o : Int)).toInt).toInt = 3 → (zWv xs d 178 0 [(0, .ref 32), (1, .int (zg (s.2 51) (o : Int))), (2, .int v9)] s40 (fun s48 => zWv xs (d + 1) 176 12 [(0, .ref 32), (1, .int (a1 + 1))] s48 Q))) ∧ (¬ (zg (s40.2 38) (zg (s.2 51) (o : Int)).toInt).toInt = 3 → (zWv xs (d + 1) 176 12 [(0, .ref 32), (1, .int (a1 + 1))] s40 Q)))))) := by
      intro s' v9 h9 e' z'
      have hN' := nR_E z' rfl rfl rfl rfl hN
      have ht' := tM_E z' rfl rfl ht
      refine ct_172 xs d hN' hA hx a1 h1 _ ?_
      by_cases h4 : 4 ≤ pmr x.2.2.2
      · rw [decide_eq_true h4]
        have hr45 : pmr x.2.2.2 = 4 ∨ pmr x.2.2.2 = 5 := by
          rcases hrl with h | h | h | h | h | h | h <;> rw [h] at h4 ⊢ <;> revert h4 <;> decide
        refine ⟨fun h => absurd h (by decide), fun _ => ct_177 xs d (by omega) hN' hA ht' hB e' hx a1 _ v9 h1 n2 h9 hr45 _ (fun s2 e2 z2 => ?_)⟩
        refine t3 s2 v9 h9 ?_ (zE_t z' z2)
        rw [decide_eq_true h4]
        exact e2
      · rw [decide_eq_false h4]
        refine ⟨fun _ => t3 s' v9 h9 ?_ z', fun h => absurd rfl h⟩
        rw [decide_eq_false h4]
        exact e'
    refine vc_176_12 xs d s a1 Q ⟨fun _ => ?_, fun h => by omega⟩
    rw [h1]
    refine ⟨n1, ct_168 xs d (by omega) hN hA hx a1 h1 _ (fun v hv => ?_)⟩
    obtain ⟨r1, r2⟩ := nR_rl hN hA hm
    have r1' := r1
    have r2' := r2
    rw [← n2] at r1' r2'
    rw [r2']
    refine ⟨r1', fun h2 => ct_173 xs d (by omega) hN hA ht hB hi x.2.2.1 2 2 o (by omega) v _ 2 2 a1 hv n2 rfl rfl h1 _ ?_, fun h2 => t2 s v hv ?_ (zE_r s)⟩
    · cases hs : sm t T C x.2.2.1 x.1 2 2 o with
      | false =>
        refine ⟨fun _ => t2 s v hv ?_ (zE_r s), fun h => absurd rfl h⟩
        rw [hs, Bool.and_false]
        exact hE
      | true =>
        refine ⟨fun h => absurd h (by decide), fun _ => ct_175 xs d hE _ 1 _ 1 n2 rfl _ (fun s1 e2 z2 => t2 s1 v hv ?_ z2)⟩
        rw [hs, decide_eq_true h2]
        exact e2
    · rw [decide_eq_false h2]
      exact hE
/-- findError -/
theorem ct_176 (hd : 8 ≤ d) {s : zS} (hN : nR T L C s) (hA : Ax T L C) (ht : tM t s) (hB : tkB t T) (Q : zS → Prop) (hQ : ∀ s1, eE (fErr t T L C) s1 → zE [33, 34] [] s s1 → Q s1) : zWv xs d 176 0 [(0, .ref 32)] s Q := by
  obtain ⟨d, rfl⟩ : ∃ e, d = e + 1 := ⟨d - 1, by omega⟩
  have hE0 : zE [33, 34] [] s (zf (zf s 34 0) 33 0) := zE_f (zE_f (zE_r s) rfl) rfl
  refine vc_176_0 xs d s Q (ct_176o xs d (by omega) hA hB Q C 0 _ 0 (0, 0) List.drop_zero rfl (nR_E hE0 rfl rfl rfl rfl hN) (tM_E hE0 rfl rfl ht) ⟨rfl, rfl⟩ (fun s1 e1 z1 => ?_))
  have hN1 := nR_E (zE_t hE0 z1) rfl rfl rfl rfl hN
  exact ct_176r xs d (by omega) hA Q _ 0 s1 0 _ rfl (Nat.zero_le _) rfl hN1 e1 (fun s2 g1 g2 => hQ s2 g1 (zE_t hE0 (zE_t z1 g2)))
end FE
