set_option maxRecDepth 100000 in
set_option maxHeartbeats 4000000 in
theorem px_chn (xs : Option (List Int32)) (p : Int32) (hp : p < 0) (Q : Option Value → List am_E → Prop) (hQ : Q (some (.int (-1))) hp_0) : am_W (am_CX xs) 19 111 0 [(0, .ref 2), (1, .int p)] [] hp_0 Q := by
  refine am_wn 3 (pc1 := 5) (lv1 := [(0, .ref 2), (1, .int p)]) (st1 := [.int p, .ref 3]) (h1 := hp_0) rfl ?_
  refine am_wc rfl rfl rfl ?_
  show am_W _ _ 85 0 [(0, .ref 3), (1, .int p)] [] hp_0 _
  refine am_wn 1 (pc1 := 1) (lv1 := [(0, .ref 3), (1, .int p)]) (st1 := [.int p]) (h1 := hp_0) rfl ?_
  refine am_wb1 rfl true (decide_eq_true hp) rfl ?_
  refine am_wn 1 (pc1 := 22) (lv1 := [(0, .ref 3), (1, .int p)]) (st1 := [.int (-1)]) (h1 := hp_0) rfl ?_
  refine am_wr rfl rfl rfl ?_
  show am_W _ _ 111 8 [(0, .ref 2), (1, .int p)] [.int (-1)] hp_0 _
  refine am_wr rfl rfl rfl ?_
  exact hQ
set_option maxRecDepth 100000 in
set_option maxHeartbeats 4000000 in
theorem px_chp (xs : Option (List Int32)) (p : Int32) (hp : ¬ p < 0) (Q : Option Value → List am_E → Prop) (hQ : Q (some (.int (-1))) hp_0) : am_W (am_CX xs) 19 111 0 [(0, .ref 2), (1, .int p)] [] hp_0 Q := by
  refine am_wn 3 (pc1 := 5) (lv1 := [(0, .ref 2), (1, .int p)]) (st1 := [.int p, .ref 3]) (h1 := hp_0) rfl ?_
  refine am_wc rfl rfl rfl ?_
  show am_W _ _ 85 0 [(0, .ref 3), (1, .int p)] [] hp_0 _
  refine am_wn 1 (pc1 := 1) (lv1 := [(0, .ref 3), (1, .int p)]) (st1 := [.int p]) (h1 := hp_0) rfl ?_
  refine am_wb1 rfl false (decide_eq_false hp) rfl ?_
  refine am_wn 3 (pc1 := 9) (lv1 := [(0, .ref 3), (1, .int p)]) (st1 := [.int 0, .int p]) (h1 := hp_0) rfl ?_
  refine am_wb2 rfl true (decide_eq_true (Int32.not_lt.mp hp)) rfl ?_
  refine am_wn 1 (pc1 := 22) (lv1 := [(0, .ref 3), (1, .int p)]) (st1 := [.int (-1)]) (h1 := hp_0) rfl ?_
  refine am_wr rfl rfl rfl ?_
  show am_W _ _ 111 8 [(0, .ref 2), (1, .int p)] [.int (-1)] hp_0 _
  refine am_wr rfl rfl rfl ?_
  exact hQ
theorem px_ch (xs : Option (List Int32)) (p : Int32) (Q : Option Value → List am_E → Prop) (hQ : Q (some (.int (-1))) hp_0) : am_W (am_CX xs) 19 111 0 [(0, .ref 2), (1, .int p)] [] hp_0 Q := by
  by_cases hp : p < 0
  · exact px_chn xs p hp Q hQ
  · exact px_chp xs p hp Q hQ
set_option maxRecDepth 100000 in
set_option maxHeartbeats 4000000 in
theorem pm_chn (xs : Option (List Int32)) (p : Int32) (hp : p < 0) (Q : Option Value → List am_E → Prop) (hQ : Q (some (.int (-1))) hp_0) : am_W (am_CX xs) 19 135 0 [(0, .ref 32), (1, .int p)] [] hp_0 Q := by
  refine am_wn 1 (pc1 := 1) (lv1 := [(0, .ref 32), (1, .int p)]) (st1 := [.int p]) (h1 := hp_0) rfl ?_
  refine am_wb1 rfl true (decide_eq_true hp) rfl ?_
  refine am_wn 1 (pc1 := 22) (lv1 := [(0, .ref 32), (1, .int p)]) (st1 := [.int (-1)]) (h1 := hp_0) rfl ?_
  refine am_wr rfl rfl rfl ?_
  exact hQ
set_option maxRecDepth 100000 in
set_option maxHeartbeats 4000000 in
theorem pm_chp (xs : Option (List Int32)) (p : Int32) (hp : ¬ p < 0) (Q : Option Value → List am_E → Prop) (hQ : Q (some (.int (-1))) hp_0) : am_W (am_CX xs) 19 135 0 [(0, .ref 32), (1, .int p)] [] hp_0 Q := by
  refine am_wn 1 (pc1 := 1) (lv1 := [(0, .ref 32), (1, .int p)]) (st1 := [.int p]) (h1 := hp_0) rfl ?_
  refine am_wb1 rfl false (decide_eq_false hp) rfl ?_
  refine am_wn 3 (pc1 := 9) (lv1 := [(0, .ref 32), (1, .int p)]) (st1 := [.int 0, .int p]) (h1 := hp_0) rfl ?_
  refine am_wb2 rfl true (decide_eq_true (Int32.not_lt.mp hp)) rfl ?_
  refine am_wn 1 (pc1 := 22) (lv1 := [(0, .ref 32), (1, .int p)]) (st1 := [.int (-1)]) (h1 := hp_0) rfl ?_
  refine am_wr rfl rfl rfl ?_
  exact hQ
theorem pm_ch (xs : Option (List Int32)) (p : Int32) (Q : Option Value → List am_E → Prop) (hQ : Q (some (.int (-1))) hp_0) : am_W (am_CX xs) 19 135 0 [(0, .ref 32), (1, .int p)] [] hp_0 Q := by
  by_cases hp : p < 0
  · exact pm_chn xs p hp Q hQ
  · exact pm_chp xs p hp Q hQ
set_option maxRecDepth 100000 in
set_option maxHeartbeats 4000000 in
theorem px_tokn (xs : Option (List Int32)) (p : Int32) (hp : p < 0) (Q : Option Value → List am_E → Prop) (hQ : Q (some (.int (-1))) hp_4) : am_W (am_CX xs) 19 113 0 [(0, .ref 2), (1, .int p)] [] hp_0 Q := by
  refine am_wn 1 (pc1 := 1) (lv1 := [(0, .ref 2), (1, .int p)]) (st1 := [.ref 2]) (h1 := hp_0) rfl ?_
  refine am_wc rfl rfl rfl ?_
  refine am_wx cl_0 ?_
  show am_W _ _ 113 4 [(0, .ref 2), (1, .int p)] [] hp_4 _
  refine am_wn 1 (pc1 := 5) (lv1 := [(0, .ref 2), (1, .int p)]) (st1 := [.int p]) (h1 := hp_4) rfl ?_
  refine am_wb1 rfl true (decide_eq_true hp) rfl ?_
  refine am_wn 1 (pc1 := 20) (lv1 := [(0, .ref 2), (1, .int p)]) (st1 := [.int (-1)]) (h1 := hp_4) rfl ?_
  refine am_wr rfl rfl rfl ?_
  exact hQ
set_option maxRecDepth 100000 in
set_option maxHeartbeats 4000000 in
theorem px_tokp (xs : Option (List Int32)) (p : Int32) (hp : ¬ p < 0) (hq : 1 ≤ p) (Q : Option Value → List am_E → Prop) (hQ : Q (some (.int (-1))) hp_4) : am_W (am_CX xs) 19 113 0 [(0, .ref 2), (1, .int p)] [] hp_0 Q := by
  refine am_wn 1 (pc1 := 1) (lv1 := [(0, .ref 2), (1, .int p)]) (st1 := [.ref 2]) (h1 := hp_0) rfl ?_
  refine am_wc rfl rfl rfl ?_
  refine am_wx cl_0 ?_
  show am_W _ _ 113 4 [(0, .ref 2), (1, .int p)] [] hp_4 _
  refine am_wn 1 (pc1 := 5) (lv1 := [(0, .ref 2), (1, .int p)]) (st1 := [.int p]) (h1 := hp_4) rfl ?_
  refine am_wb1 rfl false (decide_eq_false hp) rfl ?_
  refine am_wn 4 (pc1 := 16) (lv1 := [(0, .ref 2), (1, .int p)]) (st1 := [.int 1, .int p]) (h1 := hp_4) rfl ?_
  refine am_wb2 rfl false (decide_eq_false (Int32.not_lt.mpr hq)) rfl ?_
  refine am_wn 1 (pc1 := 20) (lv1 := [(0, .ref 2), (1, .int p)]) (st1 := [.int (-1)]) (h1 := hp_4) rfl ?_
  refine am_wr rfl rfl rfl ?_
  exact hQ
theorem px_tok (xs : Option (List Int32)) (p : Int32) (Q : Option Value → List am_E → Prop) (hQ : Q (some (.int (if p = 0 then 7 else -1))) hp_4) : am_W (am_CX xs) 19 113 0 [(0, .ref 2), (1, .int p)] [] hp_0 Q := by
  rcases pk_ix p (n := 1) (by decide) with hp | hq | ⟨k, hk, hp⟩
  · rw [if_neg (fun e => by subst e; exact absurd hp (by decide))] at hQ
    exact px_tokn xs p hp Q hQ
  · have hq : 1 ≤ p := hq
    have hp : ¬ p < 0 := fun z => absurd (Int32.lt_of_le_of_lt hq z) (by decide)
    rw [if_neg (fun e => by subst e; exact absurd hq (by decide))] at hQ
    exact px_tokp xs p hp hq Q hQ
  · obtain rfl : k = 0 := by omega
    have hp : p = 0 := hp
    subst hp
    rw [if_pos rfl] at hQ
    exact am_wx cl_1 hQ
set_option maxRecDepth 100000 in
set_option maxHeartbeats 4000000 in
theorem pm_tokn (xs : Option (List Int32)) (p : Int32) (hp : p < 0) (Q : Option Value → List am_E → Prop) (hQ : Q (some (.int (-1))) hp_5) : am_W (am_CX xs) 19 186 0 [(0, .ref 32), (1, .int p)] [] hp_4 Q := by
  refine am_wn 1 (pc1 := 1) (lv1 := [(0, .ref 32), (1, .int p)]) (st1 := [.ref 32]) (h1 := hp_4) rfl ?_
  refine am_wc rfl rfl rfl ?_
  refine am_wx cl_2 ?_
  show am_W _ _ 186 4 [(0, .ref 32), (1, .int p)] [] hp_5 _
  refine am_wn 1 (pc1 := 5) (lv1 := [(0, .ref 32), (1, .int p)]) (st1 := [.int p]) (h1 := hp_5) rfl ?_
  refine am_wb1 rfl true (decide_eq_true hp) rfl ?_
  refine am_wn 2 (pc1 := 47) (lv1 := [(0, .ref 32), (1, .int p)]) (st1 := [.int (-1)]) (h1 := hp_5) rfl ?_
  refine am_wr rfl rfl rfl ?_
  exact hQ
set_option maxRecDepth 100000 in
set_option maxHeartbeats 4000000 in
theorem pm_tokp (xs : Option (List Int32)) (p : Int32) (hp : ¬ p < 0) (hq : 1 ≤ p) (Q : Option Value → List am_E → Prop) (hQ : Q (some (.int (-1))) hp_5) : am_W (am_CX xs) 19 186 0 [(0, .ref 32), (1, .int p)] [] hp_4 Q := by
  refine am_wn 1 (pc1 := 1) (lv1 := [(0, .ref 32), (1, .int p)]) (st1 := [.ref 32]) (h1 := hp_4) rfl ?_
  refine am_wc rfl rfl rfl ?_
  refine am_wx cl_2 ?_
  show am_W _ _ 186 4 [(0, .ref 32), (1, .int p)] [] hp_5 _
  refine am_wn 1 (pc1 := 5) (lv1 := [(0, .ref 32), (1, .int p)]) (st1 := [.int p]) (h1 := hp_5) rfl ?_
  refine am_wb1 rfl false (decide_eq_false hp) rfl ?_
  refine am_wn 3 (pc1 := 13) (lv1 := [(0, .ref 32), (1, .int p)]) (st1 := [.int 1, .int p]) (h1 := hp_5) rfl ?_
  refine am_wb2 rfl false (decide_eq_false (Int32.not_lt.mpr hq)) rfl ?_
  refine am_wn 2 (pc1 := 47) (lv1 := [(0, .ref 32), (1, .int p)]) (st1 := [.int (-1)]) (h1 := hp_5) rfl ?_
  refine am_wr rfl rfl rfl ?_
  exact hQ
theorem pm_tok (xs : Option (List Int32)) (p : Int32) (Q : Option Value → List am_E → Prop) (hQ : Q (some (.int (if p = 0 then 7 else -1))) hp_5) : am_W (am_CX xs) 19 186 0 [(0, .ref 32), (1, .int p)] [] hp_4 Q := by
  rcases pk_ix p (n := 1) (by decide) with hp | hq | ⟨k, hk, hp⟩
  · rw [if_neg (fun e => by subst e; exact absurd hp (by decide))] at hQ
    exact pm_tokn xs p hp Q hQ
  · have hq : 1 ≤ p := hq
    have hp : ¬ p < 0 := fun z => absurd (Int32.lt_of_le_of_lt hq z) (by decide)
    rw [if_neg (fun e => by subst e; exact absurd hq (by decide))] at hQ
    exact pm_tokp xs p hp hq Q hQ
  · obtain rfl : k = 0 := by omega
    have hp : p = 0 := hp
    subst hp
    rw [if_pos rfl] at hQ
    exact am_wx cl_3 hQ
set_option maxRecDepth 100000 in
set_option maxHeartbeats 4000000 in
theorem px_scon (xs : Option (List Int32)) (p : Int32) (hp : p < 0) (Q : Option Value → List am_E → Prop) (hQ : Q (some (.int (-1))) hp_4) : am_W (am_CX xs) 19 118 0 [(0, .ref 2), (1, .int p)] [] hp_0 Q := by
  refine am_wn 1 (pc1 := 1) (lv1 := [(0, .ref 2), (1, .int p)]) (st1 := [.ref 2]) (h1 := hp_0) rfl ?_
  refine am_wc rfl rfl rfl ?_
  refine am_wx cl_0 ?_
  show am_W _ _ 118 4 [(0, .ref 2), (1, .int p)] [] hp_4 _
  refine am_wn 1 (pc1 := 5) (lv1 := [(0, .ref 2), (1, .int p)]) (st1 := [.ref 2]) (h1 := hp_4) rfl ?_
  refine am_wc rfl rfl rfl ?_
  refine am_wx cl_4 ?_
  show am_W _ _ 118 8 [(0, .ref 2), (1, .int p)] [.int 1] hp_4 _
  refine am_wn 2 (pc1 := 12) (lv1 := [(0, .ref 2), (1, .int p)]) (st1 := [.int p]) (h1 := hp_4) rfl ?_
  refine am_wb1 rfl true (decide_eq_true hp) rfl ?_
  refine am_wn 1 (pc1 := 27) (lv1 := [(0, .ref 2), (1, .int p)]) (st1 := [.int (-1)]) (h1 := hp_4) rfl ?_
  refine am_wr rfl rfl rfl ?_
  exact hQ
set_option maxRecDepth 100000 in
set_option maxHeartbeats 4000000 in
theorem px_scop (xs : Option (List Int32)) (p : Int32) (hp : ¬ p < 0) (hq : 1 ≤ p) (Q : Option Value → List am_E → Prop) (hQ : Q (some (.int (-1))) hp_4) : am_W (am_CX xs) 19 118 0 [(0, .ref 2), (1, .int p)] [] hp_0 Q := by
  refine am_wn 1 (pc1 := 1) (lv1 := [(0, .ref 2), (1, .int p)]) (st1 := [.ref 2]) (h1 := hp_0) rfl ?_
  refine am_wc rfl rfl rfl ?_
  refine am_wx cl_0 ?_
  show am_W _ _ 118 4 [(0, .ref 2), (1, .int p)] [] hp_4 _
  refine am_wn 1 (pc1 := 5) (lv1 := [(0, .ref 2), (1, .int p)]) (st1 := [.ref 2]) (h1 := hp_4) rfl ?_
  refine am_wc rfl rfl rfl ?_
  refine am_wx cl_4 ?_
  show am_W _ _ 118 8 [(0, .ref 2), (1, .int p)] [.int 1] hp_4 _
  refine am_wn 2 (pc1 := 12) (lv1 := [(0, .ref 2), (1, .int p)]) (st1 := [.int p]) (h1 := hp_4) rfl ?_
  refine am_wb1 rfl false (decide_eq_false hp) rfl ?_
  refine am_wn 4 (pc1 := 23) (lv1 := [(0, .ref 2), (1, .int p)]) (st1 := [.int 1, .int p]) (h1 := hp_4) rfl ?_
  refine am_wb2 rfl false (decide_eq_false (Int32.not_lt.mpr hq)) rfl ?_
  refine am_wn 1 (pc1 := 27) (lv1 := [(0, .ref 2), (1, .int p)]) (st1 := [.int (-1)]) (h1 := hp_4) rfl ?_
  refine am_wr rfl rfl rfl ?_
  exact hQ
theorem px_sco (xs : Option (List Int32)) (p : Int32) (Q : Option Value → List am_E → Prop) (hQ : Q (some (.int (if p = 0 then 0 else -1))) hp_4) : am_W (am_CX xs) 19 118 0 [(0, .ref 2), (1, .int p)] [] hp_0 Q := by
  rcases pk_ix p (n := 1) (by decide) with hp | hq | ⟨k, hk, hp⟩
  · rw [if_neg (fun e => by subst e; exact absurd hp (by decide))] at hQ
    exact px_scon xs p hp Q hQ
  · have hq : 1 ≤ p := hq
    have hp : ¬ p < 0 := fun z => absurd (Int32.lt_of_le_of_lt hq z) (by decide)
    rw [if_neg (fun e => by subst e; exact absurd hq (by decide))] at hQ
    exact px_scop xs p hp hq Q hQ
  · obtain rfl : k = 0 := by omega
    have hp : p = 0 := hp
    subst hp
    rw [if_pos rfl] at hQ
    exact am_wx cl_5 hQ
set_option maxRecDepth 100000 in
set_option maxHeartbeats 4000000 in
theorem pm_scon (xs : Option (List Int32)) (p : Int32) (hp : p < 0) (Q : Option Value → List am_E → Prop) (hQ : Q (some (.int (-1))) hp_5) : am_W (am_CX xs) 19 192 0 [(0, .ref 32), (1, .int p)] [] hp_4 Q := by
  refine am_wn 1 (pc1 := 1) (lv1 := [(0, .ref 32), (1, .int p)]) (st1 := [.ref 32]) (h1 := hp_4) rfl ?_
  refine am_wc rfl rfl rfl ?_
  refine am_wx cl_2 ?_
  show am_W _ _ 192 4 [(0, .ref 32), (1, .int p)] [] hp_5 _
  refine am_wn 4 (pc1 := 12) (lv1 := [(0, .ref 32), (1, .int p)]) (st1 := [.int p]) (h1 := hp_5) rfl ?_
  refine am_wb1 rfl true (decide_eq_true hp) rfl ?_
  refine am_wn 2 (pc1 := 42) (lv1 := [(0, .ref 32), (1, .int p)]) (st1 := [.int (-1)]) (h1 := hp_5) rfl ?_
  refine am_wr rfl rfl rfl ?_
  exact hQ
set_option maxRecDepth 100000 in
set_option maxHeartbeats 4000000 in
theorem pm_scop (xs : Option (List Int32)) (p : Int32) (hp : ¬ p < 0) (hq : 1 ≤ p) (Q : Option Value → List am_E → Prop) (hQ : Q (some (.int (-1))) hp_5) : am_W (am_CX xs) 19 192 0 [(0, .ref 32), (1, .int p)] [] hp_4 Q := by
  refine am_wn 1 (pc1 := 1) (lv1 := [(0, .ref 32), (1, .int p)]) (st1 := [.ref 32]) (h1 := hp_4) rfl ?_
  refine am_wc rfl rfl rfl ?_
  refine am_wx cl_2 ?_
  show am_W _ _ 192 4 [(0, .ref 32), (1, .int p)] [] hp_5 _
  refine am_wn 4 (pc1 := 12) (lv1 := [(0, .ref 32), (1, .int p)]) (st1 := [.int p]) (h1 := hp_5) rfl ?_
  refine am_wb1 rfl false (decide_eq_false hp) rfl ?_
  refine am_wn 3 (pc1 := 20) (lv1 := [(0, .ref 32), (1, .int p)]) (st1 := [.int 1, .int p]) (h1 := hp_5) rfl ?_
  refine am_wb2 rfl false (decide_eq_false (Int32.not_lt.mpr hq)) rfl ?_
  refine am_wn 2 (pc1 := 42) (lv1 := [(0, .ref 32), (1, .int p)]) (st1 := [.int (-1)]) (h1 := hp_5) rfl ?_
  refine am_wr rfl rfl rfl ?_
  exact hQ
theorem pm_sco (xs : Option (List Int32)) (p : Int32) (Q : Option Value → List am_E → Prop) (hQ : Q (some (.int (if p = 0 then 0 else -1))) hp_5) : am_W (am_CX xs) 19 192 0 [(0, .ref 32), (1, .int p)] [] hp_4 Q := by
  rcases pk_ix p (n := 1) (by decide) with hp | hq | ⟨k, hk, hp⟩
  · rw [if_neg (fun e => by subst e; exact absurd hp (by decide))] at hQ
    exact pm_scon xs p hp Q hQ
  · have hq : 1 ≤ p := hq
    have hp : ¬ p < 0 := fun z => absurd (Int32.lt_of_le_of_lt hq z) (by decide)
    rw [if_neg (fun e => by subst e; exact absurd hq (by decide))] at hQ
    exact pm_scop xs p hp hq Q hQ
  · obtain rfl : k = 0 := by omega
    have hp : p = 0 := hp
    subst hp
    rw [if_pos rfl] at hQ
    exact am_wx cl_6 hQ
set_option maxRecDepth 100000 in
set_option maxHeartbeats 4000000 in
theorem px_namn (xs : Option (List Int32)) (p : Int32) (hp : p < 0) (Q : Option Value → List am_E → Prop) (hQ : Q (some (.int (-1))) hp_4) : am_W (am_CX xs) 19 120 0 [(0, .ref 2), (1, .int p)] [] hp_0 Q := by
  refine am_wn 1 (pc1 := 1) (lv1 := [(0, .ref 2), (1, .int p)]) (st1 := [.ref 2]) (h1 := hp_0) rfl ?_
  refine am_wc rfl rfl rfl ?_
  refine am_wx cl_0 ?_
  show am_W _ _ 120 4 [(0, .ref 2), (1, .int p)] [] hp_4 _
  refine am_wn 1 (pc1 := 5) (lv1 := [(0, .ref 2), (1, .int p)]) (st1 := [.ref 2]) (h1 := hp_4) rfl ?_
  refine am_wc rfl rfl rfl ?_
  refine am_wx cl_4 ?_
  show am_W _ _ 120 8 [(0, .ref 2), (1, .int p)] [.int 1] hp_4 _
  refine am_wn 2 (pc1 := 12) (lv1 := [(0, .ref 2), (1, .int p)]) (st1 := [.int p]) (h1 := hp_4) rfl ?_
  refine am_wb1 rfl true (decide_eq_true hp) rfl ?_
  refine am_wn 1 (pc1 := 27) (lv1 := [(0, .ref 2), (1, .int p)]) (st1 := [.int (-1)]) (h1 := hp_4) rfl ?_
  refine am_wr rfl rfl rfl ?_
  exact hQ
set_option maxRecDepth 100000 in
set_option maxHeartbeats 4000000 in
theorem px_namp (xs : Option (List Int32)) (p : Int32) (hp : ¬ p < 0) (Q : Option Value → List am_E → Prop) (hQ : Q (some (.int (-1))) hp_4) : am_W (am_CX xs) 19 120 0 [(0, .ref 2), (1, .int p)] [] hp_0 Q := by
  refine am_wn 1 (pc1 := 1) (lv1 := [(0, .ref 2), (1, .int p)]) (st1 := [.ref 2]) (h1 := hp_0) rfl ?_
  refine am_wc rfl rfl rfl ?_
  refine am_wx cl_0 ?_
  show am_W _ _ 120 4 [(0, .ref 2), (1, .int p)] [] hp_4 _
  refine am_wn 1 (pc1 := 5) (lv1 := [(0, .ref 2), (1, .int p)]) (st1 := [.ref 2]) (h1 := hp_4) rfl ?_
  refine am_wc rfl rfl rfl ?_
  refine am_wx cl_4 ?_
  show am_W _ _ 120 8 [(0, .ref 2), (1, .int p)] [.int 1] hp_4 _
  refine am_wn 2 (pc1 := 12) (lv1 := [(0, .ref 2), (1, .int p)]) (st1 := [.int p]) (h1 := hp_4) rfl ?_
  refine am_wb1 rfl false (decide_eq_false hp) rfl ?_
  refine am_wn 4 (pc1 := 23) (lv1 := [(0, .ref 2), (1, .int p)]) (st1 := [.int 0, .int p]) (h1 := hp_4) rfl ?_
  refine am_wb2 rfl false (decide_eq_false hp) rfl ?_
  refine am_wn 1 (pc1 := 27) (lv1 := [(0, .ref 2), (1, .int p)]) (st1 := [.int (-1)]) (h1 := hp_4) rfl ?_
  refine am_wr rfl rfl rfl ?_
  exact hQ
theorem px_nam (xs : Option (List Int32)) (p : Int32) (Q : Option Value → List am_E → Prop) (hQ : Q (some (.int (-1))) hp_4) : am_W (am_CX xs) 19 120 0 [(0, .ref 2), (1, .int p)] [] hp_0 Q := by
  by_cases hp : p < 0
  · exact px_namn xs p hp Q hQ
  · exact px_namp xs p hp Q hQ
set_option maxRecDepth 100000 in
set_option maxHeartbeats 4000000 in
theorem pm_namn (xs : Option (List Int32)) (p : Int32) (hp : p < 0) (Q : Option Value → List am_E → Prop) (hQ : Q (some (.int (-1))) hp_5) : am_W (am_CX xs) 19 194 0 [(0, .ref 32), (1, .int p)] [] hp_4 Q := by
  refine am_wn 1 (pc1 := 1) (lv1 := [(0, .ref 32), (1, .int p)]) (st1 := [.ref 32]) (h1 := hp_4) rfl ?_
  refine am_wc rfl rfl rfl ?_
  refine am_wx cl_2 ?_
  show am_W _ _ 194 4 [(0, .ref 32), (1, .int p)] [] hp_5 _
  refine am_wn 4 (pc1 := 12) (lv1 := [(0, .ref 32), (1, .int p)]) (st1 := [.int p]) (h1 := hp_5) rfl ?_
  refine am_wb1 rfl true (decide_eq_true hp) rfl ?_
  refine am_wn 2 (pc1 := 38) (lv1 := [(0, .ref 32), (1, .int p)]) (st1 := [.int (-1)]) (h1 := hp_5) rfl ?_
  refine am_wr rfl rfl rfl ?_
  exact hQ
set_option maxRecDepth 100000 in
set_option maxHeartbeats 4000000 in
theorem pm_namp (xs : Option (List Int32)) (p : Int32) (hp : ¬ p < 0) (Q : Option Value → List am_E → Prop) (hQ : Q (some (.int (-1))) hp_5) : am_W (am_CX xs) 19 194 0 [(0, .ref 32), (1, .int p)] [] hp_4 Q := by
  refine am_wn 1 (pc1 := 1) (lv1 := [(0, .ref 32), (1, .int p)]) (st1 := [.ref 32]) (h1 := hp_4) rfl ?_
  refine am_wc rfl rfl rfl ?_
  refine am_wx cl_2 ?_
  show am_W _ _ 194 4 [(0, .ref 32), (1, .int p)] [] hp_5 _
  refine am_wn 4 (pc1 := 12) (lv1 := [(0, .ref 32), (1, .int p)]) (st1 := [.int p]) (h1 := hp_5) rfl ?_
  refine am_wb1 rfl false (decide_eq_false hp) rfl ?_
  refine am_wn 3 (pc1 := 20) (lv1 := [(0, .ref 32), (1, .int p)]) (st1 := [.int 0, .int p]) (h1 := hp_5) rfl ?_
  refine am_wb2 rfl false (decide_eq_false hp) rfl ?_
  refine am_wn 2 (pc1 := 38) (lv1 := [(0, .ref 32), (1, .int p)]) (st1 := [.int (-1)]) (h1 := hp_5) rfl ?_
  refine am_wr rfl rfl rfl ?_
  exact hQ
theorem pm_nam (xs : Option (List Int32)) (p : Int32) (Q : Option Value → List am_E → Prop) (hQ : Q (some (.int (-1))) hp_5) : am_W (am_CX xs) 19 194 0 [(0, .ref 32), (1, .int p)] [] hp_4 Q := by
  by_cases hp : p < 0
  · exact pm_namn xs p hp Q hQ
  · exact pm_namp xs p hp Q hQ
set_option maxRecDepth 100000 in
set_option maxHeartbeats 4000000 in
theorem px_ext (xs : Option (List Int32)) (p q : Int32) (Q : Option Value → List am_E → Prop) (hQ : Q (some (.int (-1))) hp_4) : am_W (am_CX xs) 19 116 0 [(0, .ref 2), (1, .int p), (2, .int q)] [] hp_0 Q := by
  refine am_wn 1 (pc1 := 1) (lv1 := [(0, .ref 2), (1, .int p), (2, .int q)]) (st1 := [.ref 2]) (h1 := hp_0) rfl ?_
  refine am_wc rfl rfl rfl ?_
  refine am_wx cl_0 ?_
  show am_W _ _ 116 4 [(0, .ref 2), (1, .int p), (2, .int q)] [] hp_4 _
  refine am_wn 1 (pc1 := 5) (lv1 := [(0, .ref 2), (1, .int p), (2, .int q)]) (st1 := [.ref 2]) (h1 := hp_4) rfl ?_
  refine am_wc rfl rfl rfl ?_
  refine am_wx cl_4 ?_
  show am_W _ _ 116 8 [(0, .ref 2), (1, .int p), (2, .int q)] [.int 1] hp_4 _
  refine am_wn 5 (pc1 := 17) (lv1 := [(0, .ref 2), (1, .int p), (2, .int q)]) (st1 := [.int q, .int p, .ref 10]) (h1 := hp_4) rfl ?_
  refine am_wc rfl rfl rfl ?_
  show am_W _ _ 25 0 [(0, .ref 10), (1, .int p), (2, .int q)] [] hp_4 _
  refine am_wn 7 (pc1 := 54) (lv1 := [(3, .int 0), (0, .ref 10), (1, .int p), (2, .int q)]) (st1 := [.int (-1)]) (h1 := hp_4) rfl ?_
  refine am_wr rfl rfl rfl ?_
  show am_W _ _ 116 20 [(0, .ref 2), (1, .int p), (2, .int q)] [.int (-1)] hp_4 _
  refine am_wn 1 (pc1 := 24) (lv1 := [(0, .ref 2), (1, .int p), (2, .int q)]) (st1 := [.int (-1)]) (h1 := hp_4) rfl ?_
  refine am_wr rfl rfl rfl ?_
  exact hQ
set_option maxRecDepth 100000 in
set_option maxHeartbeats 4000000 in
theorem pm_ext (xs : Option (List Int32)) (p q : Int32) (Q : Option Value → List am_E → Prop) (hQ : Q (some (.int (-1))) hp_5) : am_W (am_CX xs) 19 189 0 [(0, .ref 32), (1, .int p), (2, .int q)] [] hp_4 Q := by
  refine am_wn 1 (pc1 := 1) (lv1 := [(0, .ref 32), (1, .int p), (2, .int q)]) (st1 := [.ref 32]) (h1 := hp_4) rfl ?_
  refine am_wc rfl rfl rfl ?_
  refine am_wx cl_2 ?_
  show am_W _ _ 189 4 [(0, .ref 32), (1, .int p), (2, .int q)] [] hp_5 _
  refine am_wn 9 (pc1 := 85) (lv1 := [(4, .int 0), (3, .int (-1)), (0, .ref 32), (1, .int p), (2, .int q)]) (st1 := [.int (-1)]) (h1 := hp_5) rfl ?_
  refine am_wr rfl rfl rfl ?_
  exact hQ
set_option maxRecDepth 100000 in
set_option maxHeartbeats 4000000 in
theorem px_res (xs : Option (List Int32)) (p : Int32) (Q : Option Value → List am_E → Prop) (hQ : Q (some (.int (-1))) hp_4) : am_W (am_CX xs) 19 121 0 [(0, .ref 2), (1, .int p)] [] hp_0 Q := by
  refine am_wn 1 (pc1 := 1) (lv1 := [(0, .ref 2), (1, .int p)]) (st1 := [.ref 2]) (h1 := hp_0) rfl ?_
  refine am_wc rfl rfl rfl ?_
  refine am_wx cl_0 ?_
  show am_W _ _ 121 4 [(0, .ref 2), (1, .int p)] [] hp_4 _
  refine am_wn 2 (pc1 := 6) (lv1 := [(0, .ref 2), (1, .int p)]) (st1 := [.int p, .ref 2]) (h1 := hp_4) rfl ?_
  refine am_wc rfl rfl rfl ?_
  show am_W _ _ 129 0 [(0, .ref 2), (1, .int p)] [] hp_4 _
  refine am_wn 1 (pc1 := 1) (lv1 := [(0, .ref 2), (1, .int p)]) (st1 := [.ref 2]) (h1 := hp_4) rfl ?_
  refine am_wc rfl rfl rfl ?_
  refine am_wx cl_7 ?_
  show am_W _ _ 129 4 [(0, .ref 2), (1, .int p)] [.int 1] hp_4 _
  refine am_wn 4 (pc1 := 12) (lv1 := [(0, .ref 2), (1, .int p)]) (st1 := [.int p, .ref 17]) (h1 := hp_4) rfl ?_
  refine am_wc rfl rfl rfl ?_
  show am_W _ _ 30 0 [(0, .ref 17), (1, .int p)] [] hp_4 _
  refine am_wn 7 (pc1 := 39) (lv1 := [(2, .int 0), (0, .ref 17), (1, .int p)]) (st1 := [.int (-1)]) (h1 := hp_4) rfl ?_
  refine am_wr rfl rfl rfl ?_
  show am_W _ _ 129 15 [(0, .ref 2), (1, .int p)] [.int (-1)] hp_4 _
  refine am_wn 1 (pc1 := 19) (lv1 := [(0, .ref 2), (1, .int p)]) (st1 := [.int (-1)]) (h1 := hp_4) rfl ?_
  refine am_wr rfl rfl rfl ?_
  show am_W _ _ 121 9 [(0, .ref 2), (1, .int p)] [.int (-1)] hp_4 _
  refine am_wn 5 (pc1 := 26) (lv1 := [(2, .int (-1)), (0, .ref 2), (1, .int p)]) (st1 := [.int (-1)]) (h1 := hp_4) rfl ?_
  refine am_wr rfl rfl rfl ?_
  exact hQ
set_option maxRecDepth 100000 in
set_option maxHeartbeats 4000000 in
theorem pm_res (xs : Option (List Int32)) (p : Int32) (Q : Option Value → List am_E → Prop) (hQ : Q (some (.int (-1))) hp_5) : am_W (am_CX xs) 19 195 0 [(0, .ref 32), (1, .int p)] [] hp_4 Q := by
  refine am_wn 2 (pc1 := 2) (lv1 := [(0, .ref 32), (1, .int p)]) (st1 := [.int p, .ref 32]) (h1 := hp_4) rfl ?_
  refine am_wc rfl rfl rfl ?_
  show am_W _ _ 183 0 [(0, .ref 32), (1, .int p)] [] hp_4 _
  refine am_wn 1 (pc1 := 1) (lv1 := [(0, .ref 32), (1, .int p)]) (st1 := [.ref 32]) (h1 := hp_4) rfl ?_
  refine am_wc rfl rfl rfl ?_
  refine am_wx cl_8 ?_
  show am_W _ _ 183 4 [(0, .ref 32), (1, .int p)] [.int 1] hp_5 _
  refine am_wn 8 (pc1 := 58) (lv1 := [(3, .int 0), (2, .int 1), (0, .ref 32), (1, .int p)]) (st1 := [.int (-1)]) (h1 := hp_5) rfl ?_
  refine am_wr rfl rfl rfl ?_
  show am_W _ _ 195 5 [(0, .ref 32), (1, .int p)] [.int (-1)] hp_5 _
  refine am_wn 5 (pc1 := 19) (lv1 := [(2, .int (-1)), (0, .ref 32), (1, .int p)]) (st1 := [.int (-1)]) (h1 := hp_5) rfl ?_
  refine am_wr rfl rfl rfl ?_
  exact hQ
set_option maxRecDepth 100000 in
set_option maxHeartbeats 4000000 in
theorem px_def (xs : Option (List Int32)) (p : Int32) (Q : Option Value → List am_E → Prop) (hQ : Q (some (.int (-1))) hp_4) : am_W (am_CX xs) 19 122 0 [(0, .ref 2), (1, .int p)] [] hp_0 Q := by
  refine am_wn 1 (pc1 := 1) (lv1 := [(0, .ref 2), (1, .int p)]) (st1 := [.ref 2]) (h1 := hp_0) rfl ?_
  refine am_wc rfl rfl rfl ?_
  refine am_wx cl_0 ?_
  show am_W _ _ 122 4 [(0, .ref 2), (1, .int p)] [] hp_4 _
  refine am_wn 2 (pc1 := 6) (lv1 := [(0, .ref 2), (1, .int p)]) (st1 := [.int p, .ref 2]) (h1 := hp_4) rfl ?_
  refine am_wc rfl rfl rfl ?_
  show am_W _ _ 129 0 [(0, .ref 2), (1, .int p)] [] hp_4 _
  refine am_wn 1 (pc1 := 1) (lv1 := [(0, .ref 2), (1, .int p)]) (st1 := [.ref 2]) (h1 := hp_4) rfl ?_
  refine am_wc rfl rfl rfl ?_
  refine am_wx cl_7 ?_
  show am_W _ _ 129 4 [(0, .ref 2), (1, .int p)] [.int 1] hp_4 _
  refine am_wn 4 (pc1 := 12) (lv1 := [(0, .ref 2), (1, .int p)]) (st1 := [.int p, .ref 17]) (h1 := hp_4) rfl ?_
  refine am_wc rfl rfl rfl ?_
  show am_W _ _ 30 0 [(0, .ref 17), (1, .int p)] [] hp_4 _
  refine am_wn 7 (pc1 := 39) (lv1 := [(2, .int 0), (0, .ref 17), (1, .int p)]) (st1 := [.int (-1)]) (h1 := hp_4) rfl ?_
  refine am_wr rfl rfl rfl ?_
  show am_W _ _ 129 15 [(0, .ref 2), (1, .int p)] [.int (-1)] hp_4 _
  refine am_wn 1 (pc1 := 19) (lv1 := [(0, .ref 2), (1, .int p)]) (st1 := [.int (-1)]) (h1 := hp_4) rfl ?_
  refine am_wr rfl rfl rfl ?_
  show am_W _ _ 122 9 [(0, .ref 2), (1, .int p)] [.int (-1)] hp_4 _
  refine am_wn 4 (pc1 := 15) (lv1 := [(2, .int (-1)), (0, .ref 2), (1, .int p)]) (st1 := [.int (-1)]) (h1 := hp_4) rfl ?_
  refine am_wr rfl rfl rfl ?_
  exact hQ
set_option maxRecDepth 100000 in
set_option maxHeartbeats 4000000 in
theorem pm_def (xs : Option (List Int32)) (p : Int32) (Q : Option Value → List am_E → Prop) (hQ : Q (some (.int (-1))) hp_5) : am_W (am_CX xs) 19 196 0 [(0, .ref 32), (1, .int p)] [] hp_4 Q := by
  refine am_wn 2 (pc1 := 2) (lv1 := [(0, .ref 32), (1, .int p)]) (st1 := [.int p, .ref 32]) (h1 := hp_4) rfl ?_
  refine am_wc rfl rfl rfl ?_
  show am_W _ _ 183 0 [(0, .ref 32), (1, .int p)] [] hp_4 _
  refine am_wn 1 (pc1 := 1) (lv1 := [(0, .ref 32), (1, .int p)]) (st1 := [.ref 32]) (h1 := hp_4) rfl ?_
  refine am_wc rfl rfl rfl ?_
  refine am_wx cl_8 ?_
  show am_W _ _ 183 4 [(0, .ref 32), (1, .int p)] [.int 1] hp_5 _
  refine am_wn 8 (pc1 := 58) (lv1 := [(3, .int 0), (2, .int 1), (0, .ref 32), (1, .int p)]) (st1 := [.int (-1)]) (h1 := hp_5) rfl ?_
  refine am_wr rfl rfl rfl ?_
  show am_W _ _ 196 5 [(0, .ref 32), (1, .int p)] [.int (-1)] hp_5 _
  refine am_wn 8 (pc1 := 56) (lv1 := [(3, .int 0), (2, .int (-1)), (0, .ref 32), (1, .int p)]) (st1 := [.int (-1)]) (h1 := hp_5) rfl ?_
  refine am_wr rfl rfl rfl ?_
  exact hQ
set_option maxRecDepth 100000 in
set_option maxHeartbeats 4000000 in
theorem px_ref (xs : Option (List Int32)) (p q : Int32) (Q : Option Value → List am_E → Prop) (hQ : Q (some (.int (-1))) hp_4) : am_W (am_CX xs) 19 123 0 [(0, .ref 2), (1, .int p), (2, .int q)] [] hp_0 Q := by
  refine am_wn 1 (pc1 := 1) (lv1 := [(0, .ref 2), (1, .int p), (2, .int q)]) (st1 := [.ref 2]) (h1 := hp_0) rfl ?_
  refine am_wc rfl rfl rfl ?_
  refine am_wx cl_0 ?_
  show am_W _ _ 123 4 [(0, .ref 2), (1, .int p), (2, .int q)] [] hp_4 _
  refine am_wn 2 (pc1 := 6) (lv1 := [(0, .ref 2), (1, .int p), (2, .int q)]) (st1 := [.int p, .ref 2]) (h1 := hp_4) rfl ?_
  refine am_wc rfl rfl rfl ?_
  show am_W _ _ 129 0 [(0, .ref 2), (1, .int p)] [] hp_4 _
  refine am_wn 1 (pc1 := 1) (lv1 := [(0, .ref 2), (1, .int p)]) (st1 := [.ref 2]) (h1 := hp_4) rfl ?_
  refine am_wc rfl rfl rfl ?_
  refine am_wx cl_7 ?_
  show am_W _ _ 129 4 [(0, .ref 2), (1, .int p)] [.int 1] hp_4 _
  refine am_wn 4 (pc1 := 12) (lv1 := [(0, .ref 2), (1, .int p)]) (st1 := [.int p, .ref 17]) (h1 := hp_4) rfl ?_
  refine am_wc rfl rfl rfl ?_
  show am_W _ _ 30 0 [(0, .ref 17), (1, .int p)] [] hp_4 _
  refine am_wn 7 (pc1 := 39) (lv1 := [(2, .int 0), (0, .ref 17), (1, .int p)]) (st1 := [.int (-1)]) (h1 := hp_4) rfl ?_
  refine am_wr rfl rfl rfl ?_
  show am_W _ _ 129 15 [(0, .ref 2), (1, .int p)] [.int (-1)] hp_4 _
  refine am_wn 1 (pc1 := 19) (lv1 := [(0, .ref 2), (1, .int p)]) (st1 := [.int (-1)]) (h1 := hp_4) rfl ?_
  refine am_wr rfl rfl rfl ?_
  show am_W _ _ 123 9 [(0, .ref 2), (1, .int p), (2, .int q)] [.int (-1)] hp_4 _
  refine am_wn 4 (pc1 := 19) (lv1 := [(3, .int (-1)), (0, .ref 2), (1, .int p), (2, .int q)]) (st1 := [.int (-1)]) (h1 := hp_4) rfl ?_
  refine am_wr rfl rfl rfl ?_
  exact hQ
set_option maxRecDepth 100000 in
set_option maxHeartbeats 4000000 in
theorem pm_ref (xs : Option (List Int32)) (p q : Int32) (Q : Option Value → List am_E → Prop) (hQ : Q (some (.int (-1))) hp_5) : am_W (am_CX xs) 19 197 0 [(0, .ref 32), (1, .int p), (2, .int q)] [] hp_4 Q := by
  refine am_wn 2 (pc1 := 2) (lv1 := [(0, .ref 32), (1, .int p), (2, .int q)]) (st1 := [.int p, .ref 32]) (h1 := hp_4) rfl ?_
  refine am_wc rfl rfl rfl ?_
  show am_W _ _ 183 0 [(0, .ref 32), (1, .int p)] [] hp_4 _
  refine am_wn 1 (pc1 := 1) (lv1 := [(0, .ref 32), (1, .int p)]) (st1 := [.ref 32]) (h1 := hp_4) rfl ?_
  refine am_wc rfl rfl rfl ?_
  refine am_wx cl_8 ?_
  show am_W _ _ 183 4 [(0, .ref 32), (1, .int p)] [.int 1] hp_5 _
  refine am_wn 8 (pc1 := 58) (lv1 := [(3, .int 0), (2, .int 1), (0, .ref 32), (1, .int p)]) (st1 := [.int (-1)]) (h1 := hp_5) rfl ?_
  refine am_wr rfl rfl rfl ?_
  show am_W _ _ 197 5 [(0, .ref 32), (1, .int p), (2, .int q)] [.int (-1)] hp_5 _
  refine am_wn 10 (pc1 := 64) (lv1 := [(5, .int 0), (4, .int 0), (3, .int (-1)), (0, .ref 32), (1, .int p), (2, .int q)]) (st1 := [.int (-1)]) (h1 := hp_5) rfl ?_
  refine am_wr rfl rfl rfl ?_
  exact hQ
set_option maxRecDepth 100000 in
set_option maxHeartbeats 4000000 in
theorem px_ren (xs : Option (List Int32)) (p : Int32) (q : Int64) (Q : Option Value → List am_E → Prop) (hQ : Q (some (.int (-1))) hp_4) : am_W (am_CX xs) 19 124 0 [(0, .ref 2), (1, .int p), (2, .long q)] [] hp_0 Q := by
  refine am_wn 1 (pc1 := 1) (lv1 := [(0, .ref 2), (1, .int p), (2, .long q)]) (st1 := [.ref 2]) (h1 := hp_0) rfl ?_
  refine am_wc rfl rfl rfl ?_
  refine am_wx cl_0 ?_
  show am_W _ _ 124 4 [(0, .ref 2), (1, .int p), (2, .long q)] [] hp_4 _
  refine am_wn 2 (pc1 := 6) (lv1 := [(0, .ref 2), (1, .int p), (2, .long q)]) (st1 := [.int p, .ref 2]) (h1 := hp_4) rfl ?_
  refine am_wc rfl rfl rfl ?_
  show am_W _ _ 129 0 [(0, .ref 2), (1, .int p)] [] hp_4 _
  refine am_wn 1 (pc1 := 1) (lv1 := [(0, .ref 2), (1, .int p)]) (st1 := [.ref 2]) (h1 := hp_4) rfl ?_
  refine am_wc rfl rfl rfl ?_
  refine am_wx cl_7 ?_
  show am_W _ _ 129 4 [(0, .ref 2), (1, .int p)] [.int 1] hp_4 _
  refine am_wn 4 (pc1 := 12) (lv1 := [(0, .ref 2), (1, .int p)]) (st1 := [.int p, .ref 17]) (h1 := hp_4) rfl ?_
  refine am_wc rfl rfl rfl ?_
  show am_W _ _ 30 0 [(0, .ref 17), (1, .int p)] [] hp_4 _
  refine am_wn 7 (pc1 := 39) (lv1 := [(2, .int 0), (0, .ref 17), (1, .int p)]) (st1 := [.int (-1)]) (h1 := hp_4) rfl ?_
  refine am_wr rfl rfl rfl ?_
  show am_W _ _ 129 15 [(0, .ref 2), (1, .int p)] [.int (-1)] hp_4 _
  refine am_wn 1 (pc1 := 19) (lv1 := [(0, .ref 2), (1, .int p)]) (st1 := [.int (-1)]) (h1 := hp_4) rfl ?_
  refine am_wr rfl rfl rfl ?_
  show am_W _ _ 124 9 [(0, .ref 2), (1, .int p), (2, .long q)] [.int (-1)] hp_4 _
  refine am_wn 4 (pc1 := 24) (lv1 := [(4, .int (-1)), (0, .ref 2), (1, .int p), (2, .long q)]) (st1 := [.int (-1)]) (h1 := hp_4) rfl ?_
  refine am_wr rfl rfl rfl ?_
  exact hQ
