/-! The reference's parse(). -/
def mN0 (T : List lxT) : mM := ([], [(0, 0, 0, -1, 0, (T.length : Int), -1, -1, -1)], [])
theorem ct_153 (xs : Option (List Int32)) (d : Nat) (hd : 6 ≤ d) {T : List lxT} {pl : Nat → Int} (hT : tkW T pl) (hl : T.length ≤ 272) (hpl : ∀ i, pl i ≤ 201) (hp0 : 0 ≤ pl 0) {s : zS} (hm : mR T s) (hL : mL s) (Q : zS → Prop) (k : Nat) (hF : pF (pp T k 13 (0, 0, 0, 0) 0 0 (0, 0, 1, 0))) (hQ : ∀ s1, (∀ e, pp T k 13 (0, 0, 0, 0) 0 0 (0, 0, 1, 0) = .inl e → mFl T e s1) → (∀ st o, pp T k 13 (0, 0, 0, 0) 0 0 (0, 0, 1, 0) = .inr (st, o) → mI T 0 st (mMo (mN0 T) o) [] s1) → mE s s1 → Q s1) : zWv xs d 153 0 [(0, .ref 32)] s Q := by
  obtain ⟨d, rfl⟩ : ∃ e, d = e + 5 := ⟨d - 5, by omega⟩
  obtain ⟨l38, l40, l41, l42, l43, l44, l45, l46, l47, l48, l49, l50⟩ := hL
  refine vc_153_0 xs (d + 4) s Q ?_
  have hI0 : mI T 0 (0, 0, 1, 0) ([], [], []) [] (zf (zf (zf (zf (zf (zf (zf s 24 0) 25 0) 26 0) 28 0) 30 0) 31 0) 27 0) := by
    refine ⟨hm.1, ⟨rfl, rfl, rfl, rfl⟩, ⟨rfl, zP_nil l42, zP_nil l43⟩, ⟨rfl, zP_nil l44, zP_nil l45, zP_nil l46, zP_nil l47, zP_nil l48, zP_nil l49, zP_nil l50⟩, hm.2, ⟨rfl, zP_nil l40, zP_nil l41⟩⟩
  have hE0 : mE s (zf (zf (zf (zf (zf (zf (zf s 24 0) 25 0) 26 0) 28 0) 30 0) 31 0) 27 0) := zE_f (zE_f (zE_f (zE_f (zE_f (zE_f (zE_f (zE_r s) rfl) rfl) rfl) rfl) rfl) rfl) rfl
  refine ct_151 xs (d + 4) hI0 (by decide) 0 (-1) 0 (-1) rfl (by decide) (by decide) (by decide) _ (fun v s1 q0 q1 q2 => ?_)
  have hv : v.toInt = 0 := q0
  obtain ⟨k1, k2, k3, k4, k5, k6⟩ := q1
  have k4' : wR ([] ++ ((0, 0, 0, -1, 0, 0, -1, -1, -1) : pSc) :: []) s1 := k4
  obtain ⟨z1, z2, z3, z4, z5⟩ := wR_X (i := v.toInt) k4' (by omega) (by rw [hv]; decide)
  refine ⟨z2, ?_⟩
  have hE1 : zE [] [47] s1 (za s1 47 (zu (s1.2 47) v.toInt (s1.1 23))) := zE_a (zE_r s1) rfl
  have hI1 : mI T 0 (0, 0, 1, 0) (mN0 T) [] (za s1 47 (zu (s1.2 47) v.toInt (s1.1 23))) := by
    refine ⟨mkR_E hE1 rfl rfl rfl rfl rfl k1, k2, eR_E hE1 rfl rfl rfl k3, ?_, rlR_E hE1 rfl k5, gR_E hE1 rfl rfl rfl k6⟩
    obtain ⟨w0, w1, w2, w3, w4, w5, w6, w7⟩ := k4'
    have h23 : (s1.1 23).toInt = (T.length : Int) := k1.1
    have w4' := zP_mid (l := []) (i := v.toInt) (v := s1.1 23) w4 hv
    rw [h23] at w4'
    exact ⟨w0, w1, w2, w3, w4', w5, w6, w7⟩
  refine ct_145 xs (d + 4) hI1 (by decide) 1 0 _ (fun s2 y1 y2 => ?_)
  have hE2 : mE s s2 := mE_t hE0 (mE_t q2 (mE_t (zE_m hE1 (fun k _ => rfl) (fun k hk => by simp at hk ⊢; omega)) y2))
  refine e1 xs d hT hl hpl (Q := Q) k _ 0 _ (mN0 T) s2 hF ⟨y1, ⟨?_, ?_, fun o ho => absurd ho List.not_mem_nil, Nat.zero_lt_one⟩, hT.1, by decide⟩ (mZ_mk (fun e hr s3 v1 v2 => hQ s3 (fun e2 hr2 => ?_) (fun st o hr2 => ?_) (mE_t hE2 v2)) (fun st o hr s3 v1 v2 => m_end xs (d + 3) v1 (hQ s3 (fun e2 hr2 => ?_) (fun st2 o2 hr2 => ?_) (mE_t hE2 v2))))
  · show ((0 : Nat) : Int) + 0 ≤ 3 * ((0 : Nat) : Int); omega
  · show 7 * ((1 : Nat) : Int) ≤ pl 0 + 7 + 0; omega
  · rw [hr] at hr2; cases hr2; exact v1
  · rw [hr] at hr2; cases hr2
  · rw [hr] at hr2; cases hr2
  · rw [hr] at hr2; cases hr2; exact v1
