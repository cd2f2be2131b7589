theorem am_nc {α : Type} {p : Nat → α → Prop} {a : α} {l : List α} {k : Nat} (h : p k a) (hl : ∀ (i : Nat) (b : α), l[i]? = some b → p (k + 1 + i) b) : ∀ (i : Nat) (b : α), (a :: l)[i]? = some b → p (k + i) b := by
  intro i b hb
  cases i with
  | zero =>
    cases hb
    exact h
  | succ i =>
    have h2 := hl i b hb
    rwa [show k + 1 + i = k + (i + 1) by omega] at h2
theorem am_nn {α : Type} {p : Nat → α → Prop} {k : Nat} : ∀ (i : Nat) (b : α), ([] : List α)[i]? = some b → p (k + i) b := fun i b hb => by simp at hb
def am_pk (j : Nat) (N : am_M) : Prop := ∀ k, am_K[j]? = some k → j ≠ 0 → am_ki am_GG N k
def am_pm (xs : Option (List Int32)) (j : Nat) (M : am_M) : Prop := (∀ q ∈ M.2.2.2.2, am_ok (am_CX xs) am_GG M q) ∧ (j ≠ 0 → am_mc am_GG M)
def am_pc1 (xs : Option (List Int32)) (j : Nat) (q : vw_C) : Prop := am_co (am_CX xs) am_GG j q
set_option maxRecDepth 100000 in
set_option maxHeartbeats 4000000 in
theorem am_kall : ∀ (mi k : Nat) (N : am_M), am_P[mi]? = some N → am_K[mi]? = some k → mi ≠ 0 → am_ki am_GG N k := by
  have H : ∀ (i : Nat) (N : am_M), am_P[i]? = some N → am_pk (0 + i) N := by
    unfold am_P
    refine am_nc (p := am_pk) (k := 0) (fun k _ h => absurd rfl h) ?_
    refine am_nc (p := am_pk) (k := 1) (fun k hk _ => by cases (show some 2 = some k from hk); exact ki_1) ?_
    refine am_nc (p := am_pk) (k := 2) (fun k hk _ => by cases (show some 0 = some k from hk); exact ki_2) ?_
    refine am_nc (p := am_pk) (k := 3) (fun k hk _ => by cases (show some 0 = some k from hk); exact ki_3) ?_
    refine am_nc (p := am_pk) (k := 4) (fun k hk _ => by cases (show some 0 = some k from hk); exact ki_4) ?_
    refine am_nc (p := am_pk) (k := 5) (fun k hk _ => by cases (show some 0 = some k from hk); exact ki_5) ?_
    refine am_nc (p := am_pk) (k := 6) (fun k hk _ => by cases (show some 0 = some k from hk); exact ki_6) ?_
    refine am_nc (p := am_pk) (k := 7) (fun k hk _ => by cases (show some 0 = some k from hk); exact ki_7) ?_
    refine am_nc (p := am_pk) (k := 8) (fun k hk _ => by cases (show some 0 = some k from hk); exact ki_8) ?_
    refine am_nc (p := am_pk) (k := 9) (fun k hk _ => by cases (show some 0 = some k from hk); exact ki_9) ?_
    refine am_nc (p := am_pk) (k := 10) (fun k hk _ => by cases (show some 0 = some k from hk); exact ki_10) ?_
    refine am_nc (p := am_pk) (k := 11) (fun k hk _ => by cases (show some 0 = some k from hk); exact ki_11) ?_
    refine am_nc (p := am_pk) (k := 12) (fun k hk _ => by cases (show some 1 = some k from hk); exact ki_12) ?_
    refine am_nc (p := am_pk) (k := 13) (fun k hk _ => by cases (show some 0 = some k from hk); exact ki_13) ?_
    refine am_nc (p := am_pk) (k := 14) (fun k hk _ => by cases (show some 0 = some k from hk); exact ki_14) ?_
    refine am_nc (p := am_pk) (k := 15) (fun k hk _ => by cases (show some 0 = some k from hk); exact ki_15) ?_
    refine am_nc (p := am_pk) (k := 16) (fun k hk _ => by cases (show some 0 = some k from hk); exact ki_16) ?_
    refine am_nc (p := am_pk) (k := 17) (fun k hk _ => by cases (show some 0 = some k from hk); exact ki_17) ?_
    refine am_nc (p := am_pk) (k := 18) (fun k hk _ => by cases (show some 0 = some k from hk); exact ki_18) ?_
    refine am_nc (p := am_pk) (k := 19) (fun k hk _ => by cases (show some 1 = some k from hk); exact ki_19) ?_
    refine am_nc (p := am_pk) (k := 20) (fun k hk _ => by cases (show some 1 = some k from hk); exact ki_20) ?_
    refine am_nc (p := am_pk) (k := 21) (fun k hk _ => by cases (show some 1 = some k from hk); exact ki_21) ?_
    refine am_nc (p := am_pk) (k := 22) (fun k hk _ => by cases (show some 1 = some k from hk); exact ki_22) ?_
    refine am_nc (p := am_pk) (k := 23) (fun k hk _ => by cases (show some 2 = some k from hk); exact ki_23) ?_
    refine am_nc (p := am_pk) (k := 24) (fun k hk _ => by cases (show some 0 = some k from hk); exact ki_24) ?_
    refine am_nc (p := am_pk) (k := 25) (fun k hk _ => by cases (show some 0 = some k from hk); exact ki_25) ?_
    refine am_nc (p := am_pk) (k := 26) (fun k hk _ => by cases (show some 0 = some k from hk); exact ki_26) ?_
    refine am_nc (p := am_pk) (k := 27) (fun k hk _ => by cases (show some 0 = some k from hk); exact ki_27) ?_
    refine am_nc (p := am_pk) (k := 28) (fun k hk _ => by cases (show some 2 = some k from hk); exact ki_28) ?_
    refine am_nc (p := am_pk) (k := 29) (fun k hk _ => by cases (show some 0 = some k from hk); exact ki_29) ?_
    refine am_nc (p := am_pk) (k := 30) (fun k hk _ => by cases (show some 0 = some k from hk); exact ki_30) ?_
    refine am_nc (p := am_pk) (k := 31) (fun k hk _ => by cases (show some 0 = some k from hk); exact ki_31) ?_
    refine am_nc (p := am_pk) (k := 32) (fun k hk _ => by cases (show some 0 = some k from hk); exact ki_32) ?_
    refine am_nc (p := am_pk) (k := 33) (fun k hk _ => by cases (show some 0 = some k from hk); exact ki_33) ?_
    refine am_nc (p := am_pk) (k := 34) (fun k hk _ => by cases (show some 0 = some k from hk); exact ki_34) ?_
    refine am_nc (p := am_pk) (k := 35) (fun k hk _ => by cases (show some 0 = some k from hk); exact ki_35) ?_
    refine am_nc (p := am_pk) (k := 36) (fun k hk _ => by cases (show some 0 = some k from hk); exact ki_36) ?_
    refine am_nc (p := am_pk) (k := 37) (fun k hk _ => by cases (show some 0 = some k from hk); exact ki_37) ?_
    refine am_nc (p := am_pk) (k := 38) (fun k hk _ => by cases (show some 0 = some k from hk); exact ki_38) ?_
    refine am_nc (p := am_pk) (k := 39) (fun k hk _ => by cases (show some 2 = some k from hk); exact ki_39) ?_
    refine am_nc (p := am_pk) (k := 40) (fun k hk _ => by cases (show some 0 = some k from hk); exact ki_40) ?_
    refine am_nc (p := am_pk) (k := 41) (fun k hk _ => by cases (show some 0 = some k from hk); exact ki_41) ?_
    refine am_nc (p := am_pk) (k := 42) (fun k hk _ => by cases (show some 0 = some k from hk); exact ki_42) ?_
    refine am_nc (p := am_pk) (k := 43) (fun k hk _ => by cases (show some 0 = some k from hk); exact ki_43) ?_
    refine am_nc (p := am_pk) (k := 44) (fun k hk _ => by cases (show some 0 = some k from hk); exact ki_44) ?_
    refine am_nc (p := am_pk) (k := 45) (fun k hk _ => by cases (show some 0 = some k from hk); exact ki_45) ?_
    refine am_nc (p := am_pk) (k := 46) (fun k hk _ => by cases (show some 0 = some k from hk); exact ki_46) ?_
    refine am_nc (p := am_pk) (k := 47) (fun k hk _ => by cases (show some 0 = some k from hk); exact ki_47) ?_
    refine am_nc (p := am_pk) (k := 48) (fun k hk _ => by cases (show some 0 = some k from hk); exact ki_48) ?_
    refine am_nc (p := am_pk) (k := 49) (fun k hk _ => by cases (show some 0 = some k from hk); exact ki_49) ?_
    refine am_nc (p := am_pk) (k := 50) (fun k hk _ => by cases (show some 0 = some k from hk); exact ki_50) ?_
    refine am_nc (p := am_pk) (k := 51) (fun k hk _ => by cases (show some 0 = some k from hk); exact ki_51) ?_
    refine am_nc (p := am_pk) (k := 52) (fun k hk _ => by cases (show some 0 = some k from hk); exact ki_52) ?_
    refine am_nc (p := am_pk) (k := 53) (fun k hk _ => by cases (show some 0 = some k from hk); exact ki_53) ?_
    refine am_nc (p := am_pk) (k := 54) (fun k hk _ => by cases (show some 0 = some k from hk); exact ki_54) ?_
    refine am_nc (p := am_pk) (k := 55) (fun k hk _ => by cases (show some 0 = some k from hk); exact ki_55) ?_
    refine am_nc (p := am_pk) (k := 56) (fun k hk _ => by cases (show some 0 = some k from hk); exact ki_56) ?_
    refine am_nc (p := am_pk) (k := 57) (fun k hk _ => by cases (show some 0 = some k from hk); exact ki_57) ?_
    refine am_nc (p := am_pk) (k := 58) (fun k hk _ => by cases (show some 0 = some k from hk); exact ki_58) ?_
    refine am_nc (p := am_pk) (k := 59) (fun k hk _ => by cases (show some 0 = some k from hk); exact ki_59) ?_
    refine am_nc (p := am_pk) (k := 60) (fun k hk _ => by cases (show some 0 = some k from hk); exact ki_60) ?_
    refine am_nc (p := am_pk) (k := 61) (fun k hk _ => by cases (show some 0 = some k from hk); exact ki_61) ?_
    refine am_nc (p := am_pk) (k := 62) (fun k hk _ => by cases (show some 0 = some k from hk); exact ki_62) ?_
    refine am_nc (p := am_pk) (k := 63) (fun k hk _ => by cases (show some 0 = some k from hk); exact ki_63) ?_
    refine am_nc (p := am_pk) (k := 64) (fun k hk _ => by cases (show some 0 = some k from hk); exact ki_64) ?_
    refine am_nc (p := am_pk) (k := 65) (fun k hk _ => by cases (show some 0 = some k from hk); exact ki_65) ?_
    refine am_nc (p := am_pk) (k := 66) (fun k hk _ => by cases (show some 0 = some k from hk); exact ki_66) ?_
    refine am_nc (p := am_pk) (k := 67) (fun k hk _ => by cases (show some 0 = some k from hk); exact ki_67) ?_
    refine am_nc (p := am_pk) (k := 68) (fun k hk _ => by cases (show some 2 = some k from hk); exact ki_68) ?_
    refine am_nc (p := am_pk) (k := 69) (fun k hk _ => by cases (show some 0 = some k from hk); exact ki_69) ?_
    refine am_nc (p := am_pk) (k := 70) (fun k hk _ => by cases (show some 0 = some k from hk); exact ki_70) ?_
    refine am_nc (p := am_pk) (k := 71) (fun k hk _ => by cases (show some 0 = some k from hk); exact ki_71) ?_
    refine am_nc (p := am_pk) (k := 72) (fun k hk _ => by cases (show some 0 = some k from hk); exact ki_72) ?_
    refine am_nc (p := am_pk) (k := 73) (fun k hk _ => by cases (show some 0 = some k from hk); exact ki_73) ?_
    refine am_nc (p := am_pk) (k := 74) (fun k hk _ => by cases (show some 0 = some k from hk); exact ki_74) ?_
    refine am_nc (p := am_pk) (k := 75) (fun k hk _ => by cases (show some 0 = some k from hk); exact ki_75) ?_
    refine am_nc (p := am_pk) (k := 76) (fun k hk _ => by cases (show some 2 = some k from hk); exact ki_76) ?_
    refine am_nc (p := am_pk) (k := 77) (fun k hk _ => by cases (show some 0 = some k from hk); exact ki_77) ?_
    refine am_nc (p := am_pk) (k := 78) (fun k hk _ => by cases (show some 0 = some k from hk); exact ki_78) ?_
    refine am_nc (p := am_pk) (k := 79) (fun k hk _ => by cases (show some 0 = some k from hk); exact ki_79) ?_
    refine am_nc (p := am_pk) (k := 80) (fun k hk _ => by cases (show some 2 = some k from hk); exact ki_80) ?_
    refine am_nc (p := am_pk) (k := 81) (fun k hk _ => by cases (show some 1 = some k from hk); exact ki_81) ?_
    refine am_nc (p := am_pk) (k := 82) (fun k hk _ => by cases (show some 1 = some k from hk); exact ki_82) ?_
    refine am_nc (p := am_pk) (k := 83) (fun k hk _ => by cases (show some 1 = some k from hk); exact ki_83) ?_
    refine am_nc (p := am_pk) (k := 84) (fun k hk _ => by cases (show some 1 = some k from hk); exact ki_84) ?_
    refine am_nc (p := am_pk) (k := 85) (fun k hk _ => by cases (show some 0 = some k from hk); exact ki_85) ?_
    refine am_nc (p := am_pk) (k := 86) (fun k hk _ => by cases (show some 0 = some k from hk); exact ki_86) ?_
    refine am_nc (p := am_pk) (k := 87) (fun k hk _ => by cases (show some 0 = some k from hk); exact ki_87) ?_
    refine am_nc (p := am_pk) (k := 88) (fun k hk _ => by cases (show some 0 = some k from hk); exact ki_88) ?_
    refine am_nc (p := am_pk) (k := 89) (fun k hk _ => by cases (show some 0 = some k from hk); exact ki_89) ?_
    refine am_nc (p := am_pk) (k := 90) (fun k hk _ => by cases (show some 0 = some k from hk); exact ki_90) ?_
    refine am_nc (p := am_pk) (k := 91) (fun k hk _ => by cases (show some 0 = some k from hk); exact ki_91) ?_
    refine am_nc (p := am_pk) (k := 92) (fun k hk _ => by cases (show some 2 = some k from hk); exact ki_92) ?_
    refine am_nc (p := am_pk) (k := 93) (fun k hk _ => by cases (show some 1 = some k from hk); exact ki_93) ?_
    refine am_nc (p := am_pk) (k := 94) (fun k hk _ => by cases (show some 0 = some k from hk); exact ki_94) ?_
    refine am_nc (p := am_pk) (k := 95) (fun k hk _ => by cases (show some 0 = some k from hk); exact ki_95) ?_
    refine am_nc (p := am_pk) (k := 96) (fun k hk _ => by cases (show some 0 = some k from hk); exact ki_96) ?_
    refine am_nc (p := am_pk) (k := 97) (fun k hk _ => by cases (show some 0 = some k from hk); exact ki_97) ?_
    refine am_nc (p := am_pk) (k := 98) (fun k hk _ => by cases (show some 0 = some k from hk); exact ki_98) ?_
    refine am_nc (p := am_pk) (k := 99) (fun k hk _ => by cases (show some 0 = some k from hk); exact ki_99) ?_
    refine am_nc (p := am_pk) (k := 100) (fun k hk _ => by cases (show some 0 = some k from hk); exact ki_100) ?_
    refine am_nc (p := am_pk) (k := 101) (fun k hk _ => by cases (show some 0 = some k from hk); exact ki_101) ?_
    refine am_nc (p := am_pk) (k := 102) (fun k hk _ => by cases (show some 0 = some k from hk); exact ki_102) ?_
    refine am_nc (p := am_pk) (k := 103) (fun k hk _ => by cases (show some 0 = some k from hk); exact ki_103) ?_
    refine am_nc (p := am_pk) (k := 104) (fun k hk _ => by cases (show some 1 = some k from hk); exact ki_104) ?_
    refine am_nc (p := am_pk) (k := 105) (fun k hk _ => by cases (show some 0 = some k from hk); exact ki_105) ?_
    refine am_nc (p := am_pk) (k := 106) (fun k hk _ => by cases (show some 0 = some k from hk); exact ki_106) ?_
    refine am_nc (p := am_pk) (k := 107) (fun k hk _ => by cases (show some 0 = some k from hk); exact ki_107) ?_
    refine am_nc (p := am_pk) (k := 108) (fun k hk _ => by cases (show some 2 = some k from hk); exact ki_108) ?_
    refine am_nc (p := am_pk) (k := 109) (fun k hk _ => by cases (show some 0 = some k from hk); exact ki_109) ?_
    refine am_nc (p := am_pk) (k := 110) (fun k hk _ => by cases (show some 0 = some k from hk); exact ki_110) ?_
    refine am_nc (p := am_pk) (k := 111) (fun k hk _ => by cases (show some 0 = some k from hk); exact ki_111) ?_
    refine am_nc (p := am_pk) (k := 112) (fun k hk _ => by cases (show some 0 = some k from hk); exact ki_112) ?_
    refine am_nc (p := am_pk) (k := 113) (fun k hk _ => by cases (show some 0 = some k from hk); exact ki_113) ?_
    refine am_nc (p := am_pk) (k := 114) (fun k hk _ => by cases (show some 0 = some k from hk); exact ki_114) ?_
    refine am_nc (p := am_pk) (k := 115) (fun k hk _ => by cases (show some 0 = some k from hk); exact ki_115) ?_
    refine am_nc (p := am_pk) (k := 116) (fun k hk _ => by cases (show some 0 = some k from hk); exact ki_116) ?_
    refine am_nc (p := am_pk) (k := 117) (fun k hk _ => by cases (show some 0 = some k from hk); exact ki_117) ?_
    refine am_nc (p := am_pk) (k := 118) (fun k hk _ => by cases (show some 0 = some k from hk); exact ki_118) ?_
    refine am_nc (p := am_pk) (k := 119) (fun k hk _ => by cases (show some 0 = some k from hk); exact ki_119) ?_
    refine am_nc (p := am_pk) (k := 120) (fun k hk _ => by cases (show some 0 = some k from hk); exact ki_120) ?_
    refine am_nc (p := am_pk) (k := 121) (fun k hk _ => by cases (show some 0 = some k from hk); exact ki_121) ?_
    refine am_nc (p := am_pk) (k := 122) (fun k hk _ => by cases (show some 0 = some k from hk); exact ki_122) ?_
    refine am_nc (p := am_pk) (k := 123) (fun k hk _ => by cases (show some 0 = some k from hk); exact ki_123) ?_
    refine am_nc (p := am_pk) (k := 124) (fun k hk _ => by cases (show some 0 = some k from hk); exact ki_124) ?_
    refine am_nc (p := am_pk) (k := 125) (fun k hk _ => by cases (show some 0 = some k from hk); exact ki_125) ?_
    refine am_nc (p := am_pk) (k := 126) (fun k hk _ => by cases (show some 0 = some k from hk); exact ki_126) ?_
    refine am_nc (p := am_pk) (k := 127) (fun k hk _ => by cases (show some 0 = some k from hk); exact ki_127) ?_
    refine am_nc (p := am_pk) (k := 128) (fun k hk _ => by cases (show some 0 = some k from hk); exact ki_128) ?_
    refine am_nc (p := am_pk) (k := 129) (fun k hk _ => by cases (show some 0 = some k from hk); exact ki_129) ?_
    refine am_nc (p := am_pk) (k := 130) (fun k hk _ => by cases (show some 2 = some k from hk); exact ki_130) ?_
    refine am_nc (p := am_pk) (k := 131) (fun k hk _ => by cases (show some 1 = some k from hk); exact ki_131) ?_
    refine am_nc (p := am_pk) (k := 132) (fun k hk _ => by cases (show some 0 = some k from hk); exact ki_132) ?_
    refine am_nc (p := am_pk) (k := 133) (fun k hk _ => by cases (show some 0 = some k from hk); exact ki_133) ?_
    refine am_nc (p := am_pk) (k := 134) (fun k hk _ => by cases (show some 0 = some k from hk); exact ki_134) ?_
    refine am_nc (p := am_pk) (k := 135) (fun k hk _ => by cases (show some 0 = some k from hk); exact ki_135) ?_
    refine am_nc (p := am_pk) (k := 136) (fun k hk _ => by cases (show some 0 = some k from hk); exact ki_136) ?_
    refine am_nc (p := am_pk) (k := 137) (fun k hk _ => by cases (show some 1 = some k from hk); exact ki_137) ?_
    refine am_nc (p := am_pk) (k := 138) (fun k hk _ => by cases (show some 1 = some k from hk); exact ki_138) ?_
    refine am_nc (p := am_pk) (k := 139) (fun k hk _ => by cases (show some 1 = some k from hk); exact ki_139) ?_
    refine am_nc (p := am_pk) (k := 140) (fun k hk _ => by cases (show some 0 = some k from hk); exact ki_140) ?_
    refine am_nc (p := am_pk) (k := 141) (fun k hk _ => by cases (show some 0 = some k from hk); exact ki_141) ?_
    refine am_nc (p := am_pk) (k := 142) (fun k hk _ => by cases (show some 0 = some k from hk); exact ki_142) ?_
    refine am_nc (p := am_pk) (k := 143) (fun k hk _ => by cases (show some 0 = some k from hk); exact ki_143) ?_
    refine am_nc (p := am_pk) (k := 144) (fun k hk _ => by cases (show some 0 = some k from hk); exact ki_144) ?_
    refine am_nc (p := am_pk) (k := 145) (fun k hk _ => by cases (show some 0 = some k from hk); exact ki_145) ?_
    refine am_nc (p := am_pk) (k := 146) (fun k hk _ => by cases (show some 0 = some k from hk); exact ki_146) ?_
    refine am_nc (p := am_pk) (k := 147) (fun k hk _ => by cases (show some 0 = some k from hk); exact ki_147) ?_
    refine am_nc (p := am_pk) (k := 148) (fun k hk _ => by cases (show some 0 = some k from hk); exact ki_148) ?_
    refine am_nc (p := am_pk) (k := 149) (fun k hk _ => by cases (show some 0 = some k from hk); exact ki_149) ?_
    refine am_nc (p := am_pk) (k := 150) (fun k hk _ => by cases (show some 0 = some k from hk); exact ki_150) ?_
    refine am_nc (p := am_pk) (k := 151) (fun k hk _ => by cases (show some 0 = some k from hk); exact ki_151) ?_
    refine am_nc (p := am_pk) (k := 152) (fun k hk _ => by cases (show some 0 = some k from hk); exact ki_152) ?_
    refine am_nc (p := am_pk) (k := 153) (fun k hk _ => by cases (show some 0 = some k from hk); exact ki_153) ?_
    refine am_nc (p := am_pk) (k := 154) (fun k hk _ => by cases (show some 0 = some k from hk); exact ki_154) ?_
    refine am_nc (p := am_pk) (k := 155) (fun k hk _ => by cases (show some 0 = some k from hk); exact ki_155) ?_
    refine am_nc (p := am_pk) (k := 156) (fun k hk _ => by cases (show some 0 = some k from hk); exact ki_156) ?_
    refine am_nc (p := am_pk) (k := 157) (fun k hk _ => by cases (show some 0 = some k from hk); exact ki_157) ?_
    refine am_nc (p := am_pk) (k := 158) (fun k hk _ => by cases (show some 0 = some k from hk); exact ki_158) ?_
    refine am_nc (p := am_pk) (k := 159) (fun k hk _ => by cases (show some 0 = some k from hk); exact ki_159) ?_
    refine am_nc (p := am_pk) (k := 160) (fun k hk _ => by cases (show some 0 = some k from hk); exact ki_160) ?_
    refine am_nc (p := am_pk) (k := 161) (fun k hk _ => by cases (show some 0 = some k from hk); exact ki_161) ?_
    refine am_nc (p := am_pk) (k := 162) (fun k hk _ => by cases (show some 0 = some k from hk); exact ki_162) ?_
    refine am_nc (p := am_pk) (k := 163) (fun k hk _ => by cases (show some 0 = some k from hk); exact ki_163) ?_
    refine am_nc (p := am_pk) (k := 164) (fun k hk _ => by cases (show some 0 = some k from hk); exact ki_164) ?_
    refine am_nc (p := am_pk) (k := 165) (fun k hk _ => by cases (show some 0 = some k from hk); exact ki_165) ?_
    refine am_nc (p := am_pk) (k := 166) (fun k hk _ => by cases (show some 0 = some k from hk); exact ki_166) ?_
    refine am_nc (p := am_pk) (k := 167) (fun k hk _ => by cases (show some 0 = some k from hk); exact ki_167) ?_
    refine am_nc (p := am_pk) (k := 168) (fun k hk _ => by cases (show some 0 = some k from hk); exact ki_168) ?_
    refine am_nc (p := am_pk) (k := 169) (fun k hk _ => by cases (show some 0 = some k from hk); exact ki_169) ?_
    refine am_nc (p := am_pk) (k := 170) (fun k hk _ => by cases (show some 0 = some k from hk); exact ki_170) ?_
    refine am_nc (p := am_pk) (k := 171) (fun k hk _ => by cases (show some 0 = some k from hk); exact ki_171) ?_
    refine am_nc (p := am_pk) (k := 172) (fun k hk _ => by cases (show some 0 = some k from hk); exact ki_172) ?_
    refine am_nc (p := am_pk) (k := 173) (fun k hk _ => by cases (show some 0 = some k from hk); exact ki_173) ?_
    refine am_nc (p := am_pk) (k := 174) (fun k hk _ => by cases (show some 0 = some k from hk); exact ki_174) ?_
    refine am_nc (p := am_pk) (k := 175) (fun k hk _ => by cases (show some 0 = some k from hk); exact ki_175) ?_
    refine am_nc (p := am_pk) (k := 176) (fun k hk _ => by cases (show some 0 = some k from hk); exact ki_176) ?_
    refine am_nc (p := am_pk) (k := 177) (fun k hk _ => by cases (show some 0 = some k from hk); exact ki_177) ?_
    refine am_nc (p := am_pk) (k := 178) (fun k hk _ => by cases (show some 0 = some k from hk); exact ki_178) ?_
    refine am_nc (p := am_pk) (k := 179) (fun k hk _ => by cases (show some 0 = some k from hk); exact ki_179) ?_
    refine am_nc (p := am_pk) (k := 180) (fun k hk _ => by cases (show some 0 = some k from hk); exact ki_180) ?_
    refine am_nc (p := am_pk) (k := 181) (fun k hk _ => by cases (show some 0 = some k from hk); exact ki_181) ?_
    refine am_nc (p := am_pk) (k := 182) (fun k hk _ => by cases (show some 0 = some k from hk); exact ki_182) ?_
    refine am_nc (p := am_pk) (k := 183) (fun k hk _ => by cases (show some 0 = some k from hk); exact ki_183) ?_
    refine am_nc (p := am_pk) (k := 184) (fun k hk _ => by cases (show some 0 = some k from hk); exact ki_184) ?_
    refine am_nc (p := am_pk) (k := 185) (fun k hk _ => by cases (show some 0 = some k from hk); exact ki_185) ?_
    refine am_nc (p := am_pk) (k := 186) (fun k hk _ => by cases (show some 0 = some k from hk); exact ki_186) ?_
    refine am_nc (p := am_pk) (k := 187) (fun k hk _ => by cases (show some 0 = some k from hk); exact ki_187) ?_
    refine am_nc (p := am_pk) (k := 188) (fun k hk _ => by cases (show some 0 = some k from hk); exact ki_188) ?_
    refine am_nc (p := am_pk) (k := 189) (fun k hk _ => by cases (show some 0 = some k from hk); exact ki_189) ?_
    refine am_nc (p := am_pk) (k := 190) (fun k hk _ => by cases (show some 0 = some k from hk); exact ki_190) ?_
    refine am_nc (p := am_pk) (k := 191) (fun k hk _ => by cases (show some 0 = some k from hk); exact ki_191) ?_
    refine am_nc (p := am_pk) (k := 192) (fun k hk _ => by cases (show some 0 = some k from hk); exact ki_192) ?_
    refine am_nc (p := am_pk) (k := 193) (fun k hk _ => by cases (show some 0 = some k from hk); exact ki_193) ?_
    refine am_nc (p := am_pk) (k := 194) (fun k hk _ => by cases (show some 0 = some k from hk); exact ki_194) ?_
    refine am_nc (p := am_pk) (k := 195) (fun k hk _ => by cases (show some 0 = some k from hk); exact ki_195) ?_
    refine am_nc (p := am_pk) (k := 196) (fun k hk _ => by cases (show some 0 = some k from hk); exact ki_196) ?_
    refine am_nc (p := am_pk) (k := 197) (fun k hk _ => by cases (show some 0 = some k from hk); exact ki_197) ?_
    refine am_nc (p := am_pk) (k := 198) (fun k hk _ => by cases (show some 1 = some k from hk); exact ki_198) ?_
    refine am_nc (p := am_pk) (k := 199) (fun k hk _ => by cases (show some 0 = some k from hk); exact ki_199) ?_
    refine am_nc (p := am_pk) (k := 200) (fun k hk _ => by cases (show some 0 = some k from hk); exact ki_200) ?_
    refine am_nc (p := am_pk) (k := 201) (fun k hk _ => by cases (show some 0 = some k from hk); exact ki_201) ?_
    exact am_nn
  intro mi k N h1 h2 h3
  exact H mi N h1 k (by rw [Nat.zero_add]; exact h2) (by rw [Nat.zero_add]; exact h3)
set_option maxRecDepth 100000 in
set_option maxHeartbeats 4000000 in
theorem am_mall (xs : Option (List Int32)) : ∀ (mi : Nat) (M : am_M), am_P[mi]? = some M → (∀ q ∈ M.2.2.2.2, am_ok (am_CX xs) am_GG M q) ∧ (mi ≠ 0 → am_mc am_GG M) := by
  have H : ∀ (i : Nat) (M : am_M), am_P[i]? = some M → am_pm xs (0 + i) M := by
    unfold am_P
    refine am_nc (p := am_pm xs) (k := 0) ⟨am_tb_ok (T := tables_1) (K := am_K) (M := md_0) am_tall am_kall de_0 lb_0, fun h => absurd rfl h⟩ ?_
    refine am_nc (p := am_pm xs) (k := 1) ⟨am_tb_ok (T := tables_1) (K := am_K) (M := md_1) am_tall am_kall de_1 lb_1, fun _ => mc_1⟩ ?_
    refine am_nc (p := am_pm xs) (k := 2) ⟨am_tb_ok (T := tables_1) (K := am_K) (M := md_2) am_tall am_kall de_2 lb_2, fun _ => mc_2⟩ ?_
    refine am_nc (p := am_pm xs) (k := 3) ⟨am_tb_ok (T := tables_1) (K := am_K) (M := md_3) am_tall am_kall de_3 lb_3, fun _ => mc_3⟩ ?_
    refine am_nc (p := am_pm xs) (k := 4) ⟨am_tb_ok (T := tables_1) (K := am_K) (M := md_4) am_tall am_kall de_4 lb_4, fun _ => mc_4⟩ ?_
    refine am_nc (p := am_pm xs) (k := 5) ⟨am_tb_ok (T := tables_1) (K := am_K) (M := md_5) am_tall am_kall de_5 lb_5, fun _ => mc_5⟩ ?_
    refine am_nc (p := am_pm xs) (k := 6) ⟨am_tb_ok (T := tables_1) (K := am_K) (M := md_6) am_tall am_kall de_6 lb_6, fun _ => mc_6⟩ ?_
    refine am_nc (p := am_pm xs) (k := 7) ⟨am_tb_ok (T := tables_1) (K := am_K) (M := md_7) am_tall am_kall de_7 lb_7, fun _ => mc_7⟩ ?_
    refine am_nc (p := am_pm xs) (k := 8) ⟨am_tb_ok (T := tables_1) (K := am_K) (M := md_8) am_tall am_kall de_8 lb_8, fun _ => mc_8⟩ ?_
    refine am_nc (p := am_pm xs) (k := 9) ⟨am_tb_ok (T := tables_1) (K := am_K) (M := md_9) am_tall am_kall de_9 lb_9, fun _ => mc_9⟩ ?_
    refine am_nc (p := am_pm xs) (k := 10) ⟨am_tb_ok (T := tables_1) (K := am_K) (M := md_10) am_tall am_kall de_10 lb_10, fun _ => mc_10⟩ ?_
    refine am_nc (p := am_pm xs) (k := 11) ⟨am_tb_ok (T := tables_1) (K := am_K) (M := md_11) am_tall am_kall de_11 lb_11, fun _ => mc_11⟩ ?_
    refine am_nc (p := am_pm xs) (k := 12) ⟨am_tb_ok (T := tables_1) (K := am_K) (M := md_12) am_tall am_kall de_12 lb_12, fun _ => mc_12⟩ ?_
    refine am_nc (p := am_pm xs) (k := 13) ⟨am_tb_ok (T := tables_1) (K := am_K) (M := md_13) am_tall am_kall de_13 lb_13, fun _ => mc_13⟩ ?_
    refine am_nc (p := am_pm xs) (k := 14) ⟨am_tb_ok (T := tables_1) (K := am_K) (M := md_14) am_tall am_kall de_14 lb_14, fun _ => mc_14⟩ ?_
    refine am_nc (p := am_pm xs) (k := 15) ⟨am_tb_ok (T := tables_1) (K := am_K) (M := md_15) am_tall am_kall de_15 lb_15, fun _ => mc_15⟩ ?_
    refine am_nc (p := am_pm xs) (k := 16) ⟨am_tb_ok (T := tables_1) (K := am_K) (M := md_16) am_tall am_kall de_16 lb_16, fun _ => mc_16⟩ ?_
    refine am_nc (p := am_pm xs) (k := 17) ⟨am_tb_ok (T := tables_1) (K := am_K) (M := md_17) am_tall am_kall de_17 lb_17, fun _ => mc_17⟩ ?_
    refine am_nc (p := am_pm xs) (k := 18) ⟨am_tb_ok (T := tables_1) (K := am_K) (M := md_18) am_tall am_kall de_18 lb_18, fun _ => mc_18⟩ ?_
    refine am_nc (p := am_pm xs) (k := 19) ⟨am_tb_ok (T := tables_1) (K := am_K) (M := md_19) am_tall am_kall de_19 lb_19, fun _ => mc_19⟩ ?_
    refine am_nc (p := am_pm xs) (k := 20) ⟨am_tb_ok (T := tables_1) (K := am_K) (M := md_20) am_tall am_kall de_20 lb_20, fun _ => mc_20⟩ ?_
    refine am_nc (p := am_pm xs) (k := 21) ⟨am_tb_ok (T := tables_1) (K := am_K) (M := md_21) am_tall am_kall de_21 lb_21, fun _ => mc_21⟩ ?_
    refine am_nc (p := am_pm xs) (k := 22) ⟨am_tb_ok (T := tables_1) (K := am_K) (M := md_22) am_tall am_kall de_22 lb_22, fun _ => mc_22⟩ ?_
    refine am_nc (p := am_pm xs) (k := 23) ⟨am_tb_ok (T := tables_1) (K := am_K) (M := md_23) am_tall am_kall de_23 lb_23, fun _ => mc_23⟩ ?_
    refine am_nc (p := am_pm xs) (k := 24) ⟨am_tb_ok (T := tables_1) (K := am_K) (M := md_24) am_tall am_kall de_24 lb_24, fun _ => mc_24⟩ ?_
    refine am_nc (p := am_pm xs) (k := 25) ⟨am_tb_ok (T := tables_1) (K := am_K) (M := md_25) am_tall am_kall de_25 lb_25, fun _ => mc_25⟩ ?_
    refine am_nc (p := am_pm xs) (k := 26) ⟨am_tb_ok (T := tables_1) (K := am_K) (M := md_26) am_tall am_kall de_26 lb_26, fun _ => mc_26⟩ ?_
    refine am_nc (p := am_pm xs) (k := 27) ⟨am_tb_ok (T := tables_1) (K := am_K) (M := md_27) am_tall am_kall de_27 lb_27, fun _ => mc_27⟩ ?_
    refine am_nc (p := am_pm xs) (k := 28) ⟨am_tb_ok (T := tables_1) (K := am_K) (M := md_28) am_tall am_kall de_28 lb_28, fun _ => mc_28⟩ ?_
    refine am_nc (p := am_pm xs) (k := 29) ⟨am_tb_ok (T := tables_1) (K := am_K) (M := md_29) am_tall am_kall de_29 lb_29, fun _ => mc_29⟩ ?_
    refine am_nc (p := am_pm xs) (k := 30) ⟨am_tb_ok (T := tables_1) (K := am_K) (M := md_30) am_tall am_kall de_30 lb_30, fun _ => mc_30⟩ ?_
    refine am_nc (p := am_pm xs) (k := 31) ⟨am_tb_ok (T := tables_1) (K := am_K) (M := md_31) am_tall am_kall de_31 lb_31, fun _ => mc_31⟩ ?_
    refine am_nc (p := am_pm xs) (k := 32) ⟨am_tb_ok (T := tables_1) (K := am_K) (M := md_32) am_tall am_kall de_32 lb_32, fun _ => mc_32⟩ ?_
    refine am_nc (p := am_pm xs) (k := 33) ⟨am_tb_ok (T := tables_1) (K := am_K) (M := md_33) am_tall am_kall de_33 lb_33, fun _ => mc_33⟩ ?_
    refine am_nc (p := am_pm xs) (k := 34) ⟨am_tb_ok (T := tables_1) (K := am_K) (M := md_34) am_tall am_kall de_34 lb_34, fun _ => mc_34⟩ ?_
    refine am_nc (p := am_pm xs) (k := 35) ⟨am_tb_ok (T := tables_1) (K := am_K) (M := md_35) am_tall am_kall de_35 lb_35, fun _ => mc_35⟩ ?_
    refine am_nc (p := am_pm xs) (k := 36) ⟨am_tb_ok (T := tables_1) (K := am_K) (M := md_36) am_tall am_kall de_36 lb_36, fun _ => mc_36⟩ ?_
    refine am_nc (p := am_pm xs) (k := 37) ⟨am_tb_ok (T := tables_1) (K := am_K) (M := md_37) am_tall am_kall de_37 lb_37, fun _ => mc_37⟩ ?_
    refine am_nc (p := am_pm xs) (k := 38) ⟨am_tb_ok (T := tables_1) (K := am_K) (M := md_38) am_tall am_kall de_38 lb_38, fun _ => mc_38⟩ ?_
    refine am_nc (p := am_pm xs) (k := 39) ⟨am_tb_ok (T := tables_1) (K := am_K) (M := md_39) am_tall am_kall de_39 lb_39, fun _ => mc_39⟩ ?_
    refine am_nc (p := am_pm xs) (k := 40) ⟨am_tb_ok (T := tables_1) (K := am_K) (M := md_40) am_tall am_kall de_40 lb_40, fun _ => mc_40⟩ ?_
    refine am_nc (p := am_pm xs) (k := 41) ⟨am_tb_ok (T := tables_1) (K := am_K) (M := md_41) am_tall am_kall de_41 lb_41, fun _ => mc_41⟩ ?_
    refine am_nc (p := am_pm xs) (k := 42) ⟨am_tb_ok (T := tables_1) (K := am_K) (M := md_42) am_tall am_kall de_42 lb_42, fun _ => mc_42⟩ ?_
    refine am_nc (p := am_pm xs) (k := 43) ⟨am_tb_ok (T := tables_1) (K := am_K) (M := md_43) am_tall am_kall de_43 lb_43, fun _ => mc_43⟩ ?_
    refine am_nc (p := am_pm xs) (k := 44) ⟨am_tb_ok (T := tables_1) (K := am_K) (M := md_44) am_tall am_kall de_44 lb_44, fun _ => mc_44⟩ ?_
    refine am_nc (p := am_pm xs) (k := 45) ⟨am_tb_ok (T := tables_1) (K := am_K) (M := md_45) am_tall am_kall de_45 lb_45, fun _ => mc_45⟩ ?_
    refine am_nc (p := am_pm xs) (k := 46) ⟨am_tb_ok (T := tables_1) (K := am_K) (M := md_46) am_tall am_kall de_46 lb_46, fun _ => mc_46⟩ ?_
    refine am_nc (p := am_pm xs) (k := 47) ⟨am_tb_ok (T := tables_1) (K := am_K) (M := md_47) am_tall am_kall de_47 lb_47, fun _ => mc_47⟩ ?_
    refine am_nc (p := am_pm xs) (k := 48) ⟨am_tb_ok (T := tables_1) (K := am_K) (M := md_48) am_tall am_kall de_48 lb_48, fun _ => mc_48⟩ ?_
    refine am_nc (p := am_pm xs) (k := 49) ⟨am_tb_ok (T := tables_1) (K := am_K) (M := md_49) am_tall am_kall de_49 lb_49, fun _ => mc_49⟩ ?_
    refine am_nc (p := am_pm xs) (k := 50) ⟨am_tb_ok (T := tables_1) (K := am_K) (M := md_50) am_tall am_kall de_50 lb_50, fun _ => mc_50⟩ ?_
    refine am_nc (p := am_pm xs) (k := 51) ⟨am_tb_ok (T := tables_1) (K := am_K) (M := md_51) am_tall am_kall de_51 lb_51, fun _ => mc_51⟩ ?_
    refine am_nc (p := am_pm xs) (k := 52) ⟨am_tb_ok (T := tables_1) (K := am_K) (M := md_52) am_tall am_kall de_52 lb_52, fun _ => mc_52⟩ ?_
    refine am_nc (p := am_pm xs) (k := 53) ⟨am_tb_ok (T := tables_1) (K := am_K) (M := md_53) am_tall am_kall de_53 lb_53, fun _ => mc_53⟩ ?_
    refine am_nc (p := am_pm xs) (k := 54) ⟨am_tb_ok (T := tables_1) (K := am_K) (M := md_54) am_tall am_kall de_54 lb_54, fun _ => mc_54⟩ ?_
    refine am_nc (p := am_pm xs) (k := 55) ⟨am_tb_ok (T := tables_1) (K := am_K) (M := md_55) am_tall am_kall de_55 lb_55, fun _ => mc_55⟩ ?_
    refine am_nc (p := am_pm xs) (k := 56) ⟨am_tb_ok (T := tables_1) (K := am_K) (M := md_56) am_tall am_kall de_56 lb_56, fun _ => mc_56⟩ ?_
    refine am_nc (p := am_pm xs) (k := 57) ⟨am_tb_ok (T := tables_1) (K := am_K) (M := md_57) am_tall am_kall de_57 lb_57, fun _ => mc_57⟩ ?_
    refine am_nc (p := am_pm xs) (k := 58) ⟨am_tb_ok (T := tables_1) (K := am_K) (M := md_58) am_tall am_kall de_58 lb_58, fun _ => mc_58⟩ ?_
    refine am_nc (p := am_pm xs) (k := 59) ⟨am_tb_ok (T := tables_1) (K := am_K) (M := md_59) am_tall am_kall de_59 lb_59, fun _ => mc_59⟩ ?_
    refine am_nc (p := am_pm xs) (k := 60) ⟨am_tb_ok (T := tables_1) (K := am_K) (M := md_60) am_tall am_kall de_60 lb_60, fun _ => mc_60⟩ ?_
    refine am_nc (p := am_pm xs) (k := 61) ⟨am_tb_ok (T := tables_1) (K := am_K) (M := md_61) am_tall am_kall de_61 lb_61, fun _ => mc_61⟩ ?_
    refine am_nc (p := am_pm xs) (k := 62) ⟨am_tb_ok (T := tables_1) (K := am_K) (M := md_62) am_tall am_kall de_62 lb_62, fun _ => mc_62⟩ ?_
    refine am_nc (p := am_pm xs) (k := 63) ⟨am_tb_ok (T := tables_1) (K := am_K) (M := md_63) am_tall am_kall de_63 lb_63, fun _ => mc_63⟩ ?_
    refine am_nc (p := am_pm xs) (k := 64) ⟨am_tb_ok (T := tables_1) (K := am_K) (M := md_64) am_tall am_kall de_64 lb_64, fun _ => mc_64⟩ ?_
    refine am_nc (p := am_pm xs) (k := 65) ⟨am_tb_ok (T := tables_1) (K := am_K) (M := md_65) am_tall am_kall de_65 lb_65, fun _ => mc_65⟩ ?_
    refine am_nc (p := am_pm xs) (k := 66) ⟨am_tb_ok (T := tables_1) (K := am_K) (M := md_66) am_tall am_kall de_66 lb_66, fun _ => mc_66⟩ ?_
    refine am_nc (p := am_pm xs) (k := 67) ⟨am_tb_ok (T := tables_1) (K := am_K) (M := md_67) am_tall am_kall de_67 lb_67, fun _ => mc_67⟩ ?_
    refine am_nc (p := am_pm xs) (k := 68) ⟨am_tb_ok (T := tables_1) (K := am_K) (M := md_68) am_tall am_kall de_68 lb_68, fun _ => mc_68⟩ ?_
    refine am_nc (p := am_pm xs) (k := 69) ⟨am_tb_ok (T := tables_1) (K := am_K) (M := md_69) am_tall am_kall de_69 lb_69, fun _ => mc_69⟩ ?_
    refine am_nc (p := am_pm xs) (k := 70) ⟨am_tb_ok (T := tables_1) (K := am_K) (M := md_70) am_tall am_kall de_70 lb_70, fun _ => mc_70⟩ ?_
    refine am_nc (p := am_pm xs) (k := 71) ⟨am_tb_ok (T := tables_1) (K := am_K) (M := md_71) am_tall am_kall de_71 lb_71, fun _ => mc_71⟩ ?_
    refine am_nc (p := am_pm xs) (k := 72) ⟨am_tb_ok (T := tables_1) (K := am_K) (M := md_72) am_tall am_kall de_72 lb_72, fun _ => mc_72⟩ ?_
    refine am_nc (p := am_pm xs) (k := 73) ⟨am_tb_ok (T := tables_1) (K := am_K) (M := md_73) am_tall am_kall de_73 lb_73, fun _ => mc_73⟩ ?_
    refine am_nc (p := am_pm xs) (k := 74) ⟨am_tb_ok (T := tables_1) (K := am_K) (M := md_74) am_tall am_kall de_74 lb_74, fun _ => mc_74⟩ ?_
    refine am_nc (p := am_pm xs) (k := 75) ⟨am_tb_ok (T := tables_1) (K := am_K) (M := md_75) am_tall am_kall de_75 lb_75, fun _ => mc_75⟩ ?_
    refine am_nc (p := am_pm xs) (k := 76) ⟨am_tb_ok (T := tables_1) (K := am_K) (M := md_76) am_tall am_kall de_76 lb_76, fun _ => mc_76⟩ ?_
    refine am_nc (p := am_pm xs) (k := 77) ⟨am_tb_ok (T := tables_1) (K := am_K) (M := md_77) am_tall am_kall de_77 lb_77, fun _ => mc_77⟩ ?_
    refine am_nc (p := am_pm xs) (k := 78) ⟨am_tb_ok (T := tables_1) (K := am_K) (M := md_78) am_tall am_kall de_78 lb_78, fun _ => mc_78⟩ ?_
    refine am_nc (p := am_pm xs) (k := 79) ⟨am_tb_ok (T := tables_1) (K := am_K) (M := md_79) am_tall am_kall de_79 lb_79, fun _ => mc_79⟩ ?_
    refine am_nc (p := am_pm xs) (k := 80) ⟨am_tb_ok (T := tables_1) (K := am_K) (M := md_80) am_tall am_kall de_80 lb_80, fun _ => mc_80⟩ ?_
    refine am_nc (p := am_pm xs) (k := 81) ⟨am_tb_ok (T := tables_1) (K := am_K) (M := md_81) am_tall am_kall de_81 lb_81, fun _ => mc_81⟩ ?_
    refine am_nc (p := am_pm xs) (k := 82) ⟨am_tb_ok (T := tables_1) (K := am_K) (M := md_82) am_tall am_kall de_82 lb_82, fun _ => mc_82⟩ ?_
    refine am_nc (p := am_pm xs) (k := 83) ⟨am_tb_ok (T := tables_1) (K := am_K) (M := md_83) am_tall am_kall de_83 lb_83, fun _ => mc_83⟩ ?_
    refine am_nc (p := am_pm xs) (k := 84) ⟨am_tb_ok (T := tables_1) (K := am_K) (M := md_84) am_tall am_kall de_84 lb_84, fun _ => mc_84⟩ ?_
    refine am_nc (p := am_pm xs) (k := 85) ⟨am_tb_ok (T := tables_1) (K := am_K) (M := md_85) am_tall am_kall de_85 lb_85, fun _ => mc_85⟩ ?_
    refine am_nc (p := am_pm xs) (k := 86) ⟨am_tb_ok (T := tables_1) (K := am_K) (M := md_86) am_tall am_kall de_86 lb_86, fun _ => mc_86⟩ ?_
    refine am_nc (p := am_pm xs) (k := 87) ⟨am_tb_ok (T := tables_1) (K := am_K) (M := md_87) am_tall am_kall de_87 lb_87, fun _ => mc_87⟩ ?_
    refine am_nc (p := am_pm xs) (k := 88) ⟨am_tb_ok (T := tables_1) (K := am_K) (M := md_88) am_tall am_kall de_88 lb_88, fun _ => mc_88⟩ ?_
    refine am_nc (p := am_pm xs) (k := 89) ⟨am_tb_ok (T := tables_1) (K := am_K) (M := md_89) am_tall am_kall de_89 lb_89, fun _ => mc_89⟩ ?_
    refine am_nc (p := am_pm xs) (k := 90) ⟨am_tb_ok (T := tables_1) (K := am_K) (M := md_90) am_tall am_kall de_90 lb_90, fun _ => mc_90⟩ ?_
    refine am_nc (p := am_pm xs) (k := 91) ⟨am_tb_ok (T := tables_1) (K := am_K) (M := md_91) am_tall am_kall de_91 lb_91, fun _ => mc_91⟩ ?_
    refine am_nc (p := am_pm xs) (k := 92) ⟨am_tb_ok (T := tables_1) (K := am_K) (M := md_92) am_tall am_kall de_92 lb_92, fun _ => mc_92⟩ ?_
    refine am_nc (p := am_pm xs) (k := 93) ⟨am_tb_ok (T := tables_1) (K := am_K) (M := md_93) am_tall am_kall de_93 lb_93, fun _ => mc_93⟩ ?_
    refine am_nc (p := am_pm xs) (k := 94) ⟨am_tb_ok (T := tables_1) (K := am_K) (M := md_94) am_tall am_kall de_94 lb_94, fun _ => mc_94⟩ ?_
    refine am_nc (p := am_pm xs) (k := 95) ⟨am_tb_ok (T := tables_1) (K := am_K) (M := md_95) am_tall am_kall de_95 lb_95, fun _ => mc_95⟩ ?_
    refine am_nc (p := am_pm xs) (k := 96) ⟨am_tb_ok (T := tables_1) (K := am_K) (M := md_96) am_tall am_kall de_96 lb_96, fun _ => mc_96⟩ ?_
    refine am_nc (p := am_pm xs) (k := 97) ⟨am_tb_ok (T := tables_1) (K := am_K) (M := md_97) am_tall am_kall de_97 lb_97, fun _ => mc_97⟩ ?_
    refine am_nc (p := am_pm xs) (k := 98) ⟨am_tb_ok (T := tables_1) (K := am_K) (M := md_98) am_tall am_kall de_98 lb_98, fun _ => mc_98⟩ ?_
    refine am_nc (p := am_pm xs) (k := 99) ⟨am_tb_ok (T := tables_1) (K := am_K) (M := md_99) am_tall am_kall de_99 lb_99, fun _ => mc_99⟩ ?_
    refine am_nc (p := am_pm xs) (k := 100) ⟨am_tb_ok (T := tables_1) (K := am_K) (M := md_100) am_tall am_kall de_100 lb_100, fun _ => mc_100⟩ ?_
    refine am_nc (p := am_pm xs) (k := 101) ⟨am_tb_ok (T := tables_1) (K := am_K) (M := md_101) am_tall am_kall de_101 lb_101, fun _ => mc_101⟩ ?_
    refine am_nc (p := am_pm xs) (k := 102) ⟨am_tb_ok (T := tables_1) (K := am_K) (M := md_102) am_tall am_kall de_102 lb_102, fun _ => mc_102⟩ ?_
    refine am_nc (p := am_pm xs) (k := 103) ⟨am_tb_ok (T := tables_1) (K := am_K) (M := md_103) am_tall am_kall de_103 lb_103, fun _ => mc_103⟩ ?_
    refine am_nc (p := am_pm xs) (k := 104) ⟨am_tb_ok (T := tables_1) (K := am_K) (M := md_104) am_tall am_kall de_104 lb_104, fun _ => mc_104⟩ ?_
    refine am_nc (p := am_pm xs) (k := 105) ⟨am_tb_ok (T := tables_1) (K := am_K) (M := md_105) am_tall am_kall de_105 lb_105, fun _ => mc_105⟩ ?_
    refine am_nc (p := am_pm xs) (k := 106) ⟨am_tb_ok (T := tables_1) (K := am_K) (M := md_106) am_tall am_kall de_106 lb_106, fun _ => mc_106⟩ ?_
    refine am_nc (p := am_pm xs) (k := 107) ⟨am_tb_ok (T := tables_1) (K := am_K) (M := md_107) am_tall am_kall de_107 lb_107, fun _ => mc_107⟩ ?_
    refine am_nc (p := am_pm xs) (k := 108) ⟨am_tb_ok (T := tables_1) (K := am_K) (M := md_108) am_tall am_kall de_108 lb_108, fun _ => mc_108⟩ ?_
    refine am_nc (p := am_pm xs) (k := 109) ⟨am_tb_ok (T := tables_1) (K := am_K) (M := md_109) am_tall am_kall de_109 lb_109, fun _ => mc_109⟩ ?_
    refine am_nc (p := am_pm xs) (k := 110) ⟨am_tb_ok (T := tables_1) (K := am_K) (M := md_110) am_tall am_kall de_110 lb_110, fun _ => mc_110⟩ ?_
    refine am_nc (p := am_pm xs) (k := 111) ⟨am_tb_ok (T := tables_1) (K := am_K) (M := md_111) am_tall am_kall de_111 lb_111, fun _ => mc_111⟩ ?_
    refine am_nc (p := am_pm xs) (k := 112) ⟨am_tb_ok (T := tables_1) (K := am_K) (M := md_112) am_tall am_kall de_112 lb_112, fun _ => mc_112⟩ ?_
    refine am_nc (p := am_pm xs) (k := 113) ⟨am_tb_ok (T := tables_1) (K := am_K) (M := md_113) am_tall am_kall de_113 lb_113, fun _ => mc_113⟩ ?_
    refine am_nc (p := am_pm xs) (k := 114) ⟨am_tb_ok (T := tables_1) (K := am_K) (M := md_114) am_tall am_kall de_114 lb_114, fun _ => mc_114⟩ ?_
    refine am_nc (p := am_pm xs) (k := 115) ⟨am_tb_ok (T := tables_1) (K := am_K) (M := md_115) am_tall am_kall de_115 lb_115, fun _ => mc_115⟩ ?_
    refine am_nc (p := am_pm xs) (k := 116) ⟨am_tb_ok (T := tables_1) (K := am_K) (M := md_116) am_tall am_kall de_116 lb_116, fun _ => mc_116⟩ ?_
    refine am_nc (p := am_pm xs) (k := 117) ⟨am_tb_ok (T := tables_1) (K := am_K) (M := md_117) am_tall am_kall de_117 lb_117, fun _ => mc_117⟩ ?_
    refine am_nc (p := am_pm xs) (k := 118) ⟨am_tb_ok (T := tables_1) (K := am_K) (M := md_118) am_tall am_kall de_118 lb_118, fun _ => mc_118⟩ ?_
    refine am_nc (p := am_pm xs) (k := 119) ⟨am_tb_ok (T := tables_1) (K := am_K) (M := md_119) am_tall am_kall de_119 lb_119, fun _ => mc_119⟩ ?_
    refine am_nc (p := am_pm xs) (k := 120) ⟨am_tb_ok (T := tables_1) (K := am_K) (M := md_120) am_tall am_kall de_120 lb_120, fun _ => mc_120⟩ ?_
    refine am_nc (p := am_pm xs) (k := 121) ⟨am_tb_ok (T := tables_1) (K := am_K) (M := md_121) am_tall am_kall de_121 lb_121, fun _ => mc_121⟩ ?_
    refine am_nc (p := am_pm xs) (k := 122) ⟨am_tb_ok (T := tables_1) (K := am_K) (M := md_122) am_tall am_kall de_122 lb_122, fun _ => mc_122⟩ ?_
    refine am_nc (p := am_pm xs) (k := 123) ⟨am_tb_ok (T := tables_1) (K := am_K) (M := md_123) am_tall am_kall de_123 lb_123, fun _ => mc_123⟩ ?_
    refine am_nc (p := am_pm xs) (k := 124) ⟨am_tb_ok (T := tables_1) (K := am_K) (M := md_124) am_tall am_kall de_124 lb_124, fun _ => mc_124⟩ ?_
    refine am_nc (p := am_pm xs) (k := 125) ⟨am_tb_ok (T := tables_1) (K := am_K) (M := md_125) am_tall am_kall de_125 lb_125, fun _ => mc_125⟩ ?_
    refine am_nc (p := am_pm xs) (k := 126) ⟨am_tb_ok (T := tables_1) (K := am_K) (M := md_126) am_tall am_kall de_126 lb_126, fun _ => mc_126⟩ ?_
    refine am_nc (p := am_pm xs) (k := 127) ⟨am_tb_ok (T := tables_1) (K := am_K) (M := md_127) am_tall am_kall de_127 lb_127, fun _ => mc_127⟩ ?_
    refine am_nc (p := am_pm xs) (k := 128) ⟨am_tb_ok (T := tables_1) (K := am_K) (M := md_128) am_tall am_kall de_128 lb_128, fun _ => mc_128⟩ ?_
    refine am_nc (p := am_pm xs) (k := 129) ⟨am_tb_ok (T := tables_1) (K := am_K) (M := md_129) am_tall am_kall de_129 lb_129, fun _ => mc_129⟩ ?_
    refine am_nc (p := am_pm xs) (k := 130) ⟨am_tb_ok (T := tables_1) (K := am_K) (M := md_130) am_tall am_kall de_130 lb_130, fun _ => mc_130⟩ ?_
    refine am_nc (p := am_pm xs) (k := 131) ⟨am_tb_ok (T := tables_1) (K := am_K) (M := md_131) am_tall am_kall de_131 lb_131, fun _ => mc_131⟩ ?_
    refine am_nc (p := am_pm xs) (k := 132) ⟨am_tb_ok (T := tables_1) (K := am_K) (M := md_132) am_tall am_kall de_132 lb_132, fun _ => mc_132⟩ ?_
    refine am_nc (p := am_pm xs) (k := 133) ⟨am_tb_ok (T := tables_1) (K := am_K) (M := md_133) am_tall am_kall de_133 lb_133, fun _ => mc_133⟩ ?_
    refine am_nc (p := am_pm xs) (k := 134) ⟨am_tb_ok (T := tables_1) (K := am_K) (M := md_134) am_tall am_kall de_134 lb_134, fun _ => mc_134⟩ ?_
    refine am_nc (p := am_pm xs) (k := 135) ⟨am_tb_ok (T := tables_1) (K := am_K) (M := md_135) am_tall am_kall de_135 lb_135, fun _ => mc_135⟩ ?_
    refine am_nc (p := am_pm xs) (k := 136) ⟨am_tb_ok (T := tables_1) (K := am_K) (M := md_136) am_tall am_kall de_136 lb_136, fun _ => mc_136⟩ ?_
    refine am_nc (p := am_pm xs) (k := 137) ⟨am_tb_ok (T := tables_1) (K := am_K) (M := md_137) am_tall am_kall de_137 lb_137, fun _ => mc_137⟩ ?_
    refine am_nc (p := am_pm xs) (k := 138) ⟨am_tb_ok (T := tables_1) (K := am_K) (M := md_138) am_tall am_kall de_138 lb_138, fun _ => mc_138⟩ ?_
    refine am_nc (p := am_pm xs) (k := 139) ⟨am_tb_ok (T := tables_1) (K := am_K) (M := md_139) am_tall am_kall de_139 lb_139, fun _ => mc_139⟩ ?_
    refine am_nc (p := am_pm xs) (k := 140) ⟨am_tb_ok (T := tables_1) (K := am_K) (M := md_140) am_tall am_kall de_140 lb_140, fun _ => mc_140⟩ ?_
    refine am_nc (p := am_pm xs) (k := 141) ⟨am_tb_ok (T := tables_1) (K := am_K) (M := md_141) am_tall am_kall de_141 lb_141, fun _ => mc_141⟩ ?_
    refine am_nc (p := am_pm xs) (k := 142) ⟨am_tb_ok (T := tables_1) (K := am_K) (M := md_142) am_tall am_kall de_142 lb_142, fun _ => mc_142⟩ ?_
    refine am_nc (p := am_pm xs) (k := 143) ⟨am_tb_ok (T := tables_1) (K := am_K) (M := md_143) am_tall am_kall de_143 lb_143, fun _ => mc_143⟩ ?_
    refine am_nc (p := am_pm xs) (k := 144) ⟨am_tb_ok (T := tables_1) (K := am_K) (M := md_144) am_tall am_kall de_144 lb_144, fun _ => mc_144⟩ ?_
    refine am_nc (p := am_pm xs) (k := 145) ⟨am_tb_ok (T := tables_1) (K := am_K) (M := md_145) am_tall am_kall de_145 lb_145, fun _ => mc_145⟩ ?_
    refine am_nc (p := am_pm xs) (k := 146) ⟨am_tb_ok (T := tables_1) (K := am_K) (M := md_146) am_tall am_kall de_146 lb_146, fun _ => mc_146⟩ ?_
    refine am_nc (p := am_pm xs) (k := 147) ⟨am_tb_ok (T := tables_1) (K := am_K) (M := md_147) am_tall am_kall de_147 lb_147, fun _ => mc_147⟩ ?_
    refine am_nc (p := am_pm xs) (k := 148) ⟨am_tb_ok (T := tables_1) (K := am_K) (M := md_148) am_tall am_kall de_148 lb_148, fun _ => mc_148⟩ ?_
    refine am_nc (p := am_pm xs) (k := 149) ⟨am_tb_ok (T := tables_1) (K := am_K) (M := md_149) am_tall am_kall de_149 lb_149, fun _ => mc_149⟩ ?_
    refine am_nc (p := am_pm xs) (k := 150) ⟨am_tb_ok (T := tables_1) (K := am_K) (M := md_150) am_tall am_kall de_150 lb_150, fun _ => mc_150⟩ ?_
    refine am_nc (p := am_pm xs) (k := 151) ⟨am_tb_ok (T := tables_1) (K := am_K) (M := md_151) am_tall am_kall de_151 lb_151, fun _ => mc_151⟩ ?_
    refine am_nc (p := am_pm xs) (k := 152) ⟨am_tb_ok (T := tables_1) (K := am_K) (M := md_152) am_tall am_kall de_152 lb_152, fun _ => mc_152⟩ ?_
    refine am_nc (p := am_pm xs) (k := 153) ⟨am_tb_ok (T := tables_1) (K := am_K) (M := md_153) am_tall am_kall de_153 lb_153, fun _ => mc_153⟩ ?_
    refine am_nc (p := am_pm xs) (k := 154) ⟨am_tb_ok (T := tables_1) (K := am_K) (M := md_154) am_tall am_kall de_154 lb_154, fun _ => mc_154⟩ ?_
    refine am_nc (p := am_pm xs) (k := 155) ⟨am_tb_ok (T := tables_1) (K := am_K) (M := md_155) am_tall am_kall de_155 lb_155, fun _ => mc_155⟩ ?_
    refine am_nc (p := am_pm xs) (k := 156) ⟨am_tb_ok (T := tables_1) (K := am_K) (M := md_156) am_tall am_kall de_156 lb_156, fun _ => mc_156⟩ ?_
    refine am_nc (p := am_pm xs) (k := 157) ⟨am_tb_ok (T := tables_1) (K := am_K) (M := md_157) am_tall am_kall de_157 lb_157, fun _ => mc_157⟩ ?_
    refine am_nc (p := am_pm xs) (k := 158) ⟨am_tb_ok (T := tables_1) (K := am_K) (M := md_158) am_tall am_kall de_158 lb_158, fun _ => mc_158⟩ ?_
    refine am_nc (p := am_pm xs) (k := 159) ⟨am_tb_ok (T := tables_1) (K := am_K) (M := md_159) am_tall am_kall de_159 lb_159, fun _ => mc_159⟩ ?_
    refine am_nc (p := am_pm xs) (k := 160) ⟨am_tb_ok (T := tables_1) (K := am_K) (M := md_160) am_tall am_kall de_160 lb_160, fun _ => mc_160⟩ ?_
    refine am_nc (p := am_pm xs) (k := 161) ⟨am_tb_ok (T := tables_1) (K := am_K) (M := md_161) am_tall am_kall de_161 lb_161, fun _ => mc_161⟩ ?_
    refine am_nc (p := am_pm xs) (k := 162) ⟨am_tb_ok (T := tables_1) (K := am_K) (M := md_162) am_tall am_kall de_162 lb_162, fun _ => mc_162⟩ ?_
    refine am_nc (p := am_pm xs) (k := 163) ⟨am_tb_ok (T := tables_1) (K := am_K) (M := md_163) am_tall am_kall de_163 lb_163, fun _ => mc_163⟩ ?_
    refine am_nc (p := am_pm xs) (k := 164) ⟨am_tb_ok (T := tables_1) (K := am_K) (M := md_164) am_tall am_kall de_164 lb_164, fun _ => mc_164⟩ ?_
    refine am_nc (p := am_pm xs) (k := 165) ⟨am_tb_ok (T := tables_1) (K := am_K) (M := md_165) am_tall am_kall de_165 lb_165, fun _ => mc_165⟩ ?_
    refine am_nc (p := am_pm xs) (k := 166) ⟨am_tb_ok (T := tables_1) (K := am_K) (M := md_166) am_tall am_kall de_166 lb_166, fun _ => mc_166⟩ ?_
    refine am_nc (p := am_pm xs) (k := 167) ⟨am_tb_ok (T := tables_1) (K := am_K) (M := md_167) am_tall am_kall de_167 lb_167, fun _ => mc_167⟩ ?_
    refine am_nc (p := am_pm xs) (k := 168) ⟨am_tb_ok (T := tables_1) (K := am_K) (M := md_168) am_tall am_kall de_168 lb_168, fun _ => mc_168⟩ ?_
    refine am_nc (p := am_pm xs) (k := 169) ⟨am_tb_ok (T := tables_1) (K := am_K) (M := md_169) am_tall am_kall de_169 lb_169, fun _ => mc_169⟩ ?_
    refine am_nc (p := am_pm xs) (k := 170) ⟨am_tb_ok (T := tables_1) (K := am_K) (M := md_170) am_tall am_kall de_170 lb_170, fun _ => mc_170⟩ ?_
    refine am_nc (p := am_pm xs) (k := 171) ⟨am_tb_ok (T := tables_1) (K := am_K) (M := md_171) am_tall am_kall de_171 lb_171, fun _ => mc_171⟩ ?_
    refine am_nc (p := am_pm xs) (k := 172) ⟨am_tb_ok (T := tables_1) (K := am_K) (M := md_172) am_tall am_kall de_172 lb_172, fun _ => mc_172⟩ ?_
    refine am_nc (p := am_pm xs) (k := 173) ⟨am_tb_ok (T := tables_1) (K := am_K) (M := md_173) am_tall am_kall de_173 lb_173, fun _ => mc_173⟩ ?_
    refine am_nc (p := am_pm xs) (k := 174) ⟨am_tb_ok (T := tables_1) (K := am_K) (M := md_174) am_tall am_kall de_174 lb_174, fun _ => mc_174⟩ ?_
    refine am_nc (p := am_pm xs) (k := 175) ⟨am_tb_ok (T := tables_1) (K := am_K) (M := md_175) am_tall am_kall de_175 lb_175, fun _ => mc_175⟩ ?_
    refine am_nc (p := am_pm xs) (k := 176) ⟨am_tb_ok (T := tables_1) (K := am_K) (M := md_176) am_tall am_kall de_176 lb_176, fun _ => mc_176⟩ ?_
    refine am_nc (p := am_pm xs) (k := 177) ⟨am_tb_ok (T := tables_1) (K := am_K) (M := md_177) am_tall am_kall de_177 lb_177, fun _ => mc_177⟩ ?_
    refine am_nc (p := am_pm xs) (k := 178) ⟨am_tb_ok (T := tables_1) (K := am_K) (M := md_178) am_tall am_kall de_178 lb_178, fun _ => mc_178⟩ ?_
    refine am_nc (p := am_pm xs) (k := 179) ⟨am_tb_ok (T := tables_1) (K := am_K) (M := md_179) am_tall am_kall de_179 lb_179, fun _ => mc_179⟩ ?_
    refine am_nc (p := am_pm xs) (k := 180) ⟨am_tb_ok (T := tables_1) (K := am_K) (M := md_180) am_tall am_kall de_180 lb_180, fun _ => mc_180⟩ ?_
    refine am_nc (p := am_pm xs) (k := 181) ⟨am_tb_ok (T := tables_1) (K := am_K) (M := md_181) am_tall am_kall de_181 lb_181, fun _ => mc_181⟩ ?_
    refine am_nc (p := am_pm xs) (k := 182) ⟨am_tb_ok (T := tables_1) (K := am_K) (M := md_182) am_tall am_kall de_182 lb_182, fun _ => mc_182⟩ ?_
    refine am_nc (p := am_pm xs) (k := 183) ⟨am_tb_ok (T := tables_1) (K := am_K) (M := md_183) am_tall am_kall de_183 lb_183, fun _ => mc_183⟩ ?_
    refine am_nc (p := am_pm xs) (k := 184) ⟨am_tb_ok (T := tables_1) (K := am_K) (M := md_184) am_tall am_kall de_184 lb_184, fun _ => mc_184⟩ ?_
    refine am_nc (p := am_pm xs) (k := 185) ⟨am_tb_ok (T := tables_1) (K := am_K) (M := md_185) am_tall am_kall de_185 lb_185, fun _ => mc_185⟩ ?_
    refine am_nc (p := am_pm xs) (k := 186) ⟨am_tb_ok (T := tables_1) (K := am_K) (M := md_186) am_tall am_kall de_186 lb_186, fun _ => mc_186⟩ ?_
    refine am_nc (p := am_pm xs) (k := 187) ⟨am_tb_ok (T := tables_1) (K := am_K) (M := md_187) am_tall am_kall de_187 lb_187, fun _ => mc_187⟩ ?_
    refine am_nc (p := am_pm xs) (k := 188) ⟨am_tb_ok (T := tables_1) (K := am_K) (M := md_188) am_tall am_kall de_188 lb_188, fun _ => mc_188⟩ ?_
    refine am_nc (p := am_pm xs) (k := 189) ⟨am_tb_ok (T := tables_1) (K := am_K) (M := md_189) am_tall am_kall de_189 lb_189, fun _ => mc_189⟩ ?_
    refine am_nc (p := am_pm xs) (k := 190) ⟨am_tb_ok (T := tables_1) (K := am_K) (M := md_190) am_tall am_kall de_190 lb_190, fun _ => mc_190⟩ ?_
    refine am_nc (p := am_pm xs) (k := 191) ⟨am_tb_ok (T := tables_1) (K := am_K) (M := md_191) am_tall am_kall de_191 lb_191, fun _ => mc_191⟩ ?_
    refine am_nc (p := am_pm xs) (k := 192) ⟨am_tb_ok (T := tables_1) (K := am_K) (M := md_192) am_tall am_kall de_192 lb_192, fun _ => mc_192⟩ ?_
    refine am_nc (p := am_pm xs) (k := 193) ⟨am_tb_ok (T := tables_1) (K := am_K) (M := md_193) am_tall am_kall de_193 lb_193, fun _ => mc_193⟩ ?_
    refine am_nc (p := am_pm xs) (k := 194) ⟨am_tb_ok (T := tables_1) (K := am_K) (M := md_194) am_tall am_kall de_194 lb_194, fun _ => mc_194⟩ ?_
    refine am_nc (p := am_pm xs) (k := 195) ⟨am_tb_ok (T := tables_1) (K := am_K) (M := md_195) am_tall am_kall de_195 lb_195, fun _ => mc_195⟩ ?_
    refine am_nc (p := am_pm xs) (k := 196) ⟨am_tb_ok (T := tables_1) (K := am_K) (M := md_196) am_tall am_kall de_196 lb_196, fun _ => mc_196⟩ ?_
    refine am_nc (p := am_pm xs) (k := 197) ⟨am_tb_ok (T := tables_1) (K := am_K) (M := md_197) am_tall am_kall de_197 lb_197, fun _ => mc_197⟩ ?_
    refine am_nc (p := am_pm xs) (k := 198) ⟨am_tb_ok (T := tables_1) (K := am_K) (M := md_198) am_tall am_kall de_198 lb_198, fun _ => mc_198⟩ ?_
    refine am_nc (p := am_pm xs) (k := 199) ⟨am_tb_ok (T := tables_1) (K := am_K) (M := md_199) am_tall am_kall de_199 lb_199, fun _ => mc_199⟩ ?_
    refine am_nc (p := am_pm xs) (k := 200) ⟨am_tb_ok (T := tables_1) (K := am_K) (M := md_200) am_tall am_kall de_200 lb_200, fun _ => mc_200⟩ ?_
    refine am_nc (p := am_pm xs) (k := 201) ⟨am_tb_ok (T := tables_1) (K := am_K) (M := md_201) am_tall am_kall de_201 lb_201, fun _ => mc_201⟩ ?_
    exact am_nn
  intro mi M h
  have h2 := H mi M h
  rw [Nat.zero_add] at h2
  exact h2
set_option maxRecDepth 100000 in
theorem am_call (xs : Option (List Int32)) : ∀ (ci : Nat) (q : vw_C), am_cl[ci]? = some q → am_co (am_CX xs) am_GG ci q := by
  have H : ∀ (i : Nat) (q : vw_C), am_cl[i]? = some q → am_pc1 xs (0 + i) q := by
    unfold am_cl
    refine am_nc (p := am_pc1 xs) (k := 0) (cz_0 xs) ?_
    refine am_nc (p := am_pc1 xs) (k := 1) (cz_1 xs) ?_
    refine am_nc (p := am_pc1 xs) (k := 2) (cz_2 xs) ?_
    refine am_nc (p := am_pc1 xs) (k := 3) (cz_3 xs) ?_
    refine am_nc (p := am_pc1 xs) (k := 4) (cz_4 xs) ?_
    refine am_nc (p := am_pc1 xs) (k := 5) (cz_5 xs) ?_
    refine am_nc (p := am_pc1 xs) (k := 6) (cz_6 xs) ?_
    refine am_nc (p := am_pc1 xs) (k := 7) (cz_7 xs) ?_
    refine am_nc (p := am_pc1 xs) (k := 8) (cz_8 xs) ?_
    refine am_nc (p := am_pc1 xs) (k := 9) (cz_9 xs) ?_
    exact am_nn
  intro ci q h
  have h2 := H ci q h
  rw [Nat.zero_add] at h2
  exact h2
theorem am_okk (xs : Option (List Int32)) : am_OK (am_CX xs) am_GG := ⟨am_gog, am_call xs, am_mall xs⟩
