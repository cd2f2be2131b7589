def pbe (c dep : Int) : Int := if c = 40 ∨ c = 91 then dep + 1 else if c = 41 ∨ c = 93 then dep - 1 else dep
theorem pbe_1 {c dep : Int} (h : c = 40 ∨ c = 91) : pbe c dep = dep + 1 := if_pos h
theorem pbe_2 {c dep : Int} (h : ¬ (c = 40 ∨ c = 91)) (h1 : c = 41 ∨ c = 93) : pbe c dep = dep + (-1) := by
  unfold pbe
  rw [if_neg h, if_pos h1]
  rfl
theorem pbe_3 {c dep : Int} (h : ¬ (c = 40 ∨ c = 91)) (h1 : ¬ (c = 41 ∨ c = 93)) : pbe c dep = dep := by
  unfold pbe
  rw [if_neg h, if_neg h1]
theorem pb_grp {c dep : Int} {i : Nat} {a2 : Int32} {B : Bool} {F : Int → Bool} {W : Int32 → Prop} {P0 P1 : Prop} (h2 : a2.toInt = dep) (hd1 : -(i : Int) ≤ dep) (hd2 : dep ≤ i) (hi : i < 1000) (hp : B = (if pbe c dep < 0 then false else if pbe c dep = 0 ∧ c = 20 then true else F (pbe c dep))) (q0 : B = false → P0) (q1 : B = true → P1) (qr : ∀ (e : Int) (b2 : Int32), b2.toInt = e → -((i : Int) + 1) ≤ e → e ≤ (i : Int) + 1 → B = F e → W b2) : (c = 40 → (zR (dep + 1) ∧ ((dep + 1) < 0 → P0) ∧ (¬ (dep + 1) < 0 → (((dep + 1) = 0 → ((c = 20 → P1) ∧ (¬ c = 20 → W (a2 + 1)))) ∧ (¬ (dep + 1) = 0 → W (a2 + 1)))))) ∧ (¬ c = 40 → ((c = 91 → (zR (dep + 1) ∧ ((dep + 1) < 0 → P0) ∧ (¬ (dep + 1) < 0 → (((dep + 1) = 0 → ((c = 20 → P1) ∧ (¬ c = 20 → W (a2 + 1)))) ∧ (¬ (dep + 1) = 0 → W (a2 + 1)))))) ∧ (¬ c = 91 → ((c = 41 → (zR (dep + (-1)) ∧ ((dep + (-1)) < 0 → P0) ∧ (¬ (dep + (-1)) < 0 → (((dep + (-1)) = 0 → ((c = 20 → P1) ∧ (¬ c = 20 → W (a2 + (-1))))) ∧ (¬ (dep + (-1)) = 0 → W (a2 + (-1))))))) ∧ (¬ c = 41 → ((c = 93 → (zR (dep + (-1)) ∧ ((dep + (-1)) < 0 → P0) ∧ (¬ (dep + (-1)) < 0 → (((dep + (-1)) = 0 → ((c = 20 → P1) ∧ (¬ c = 20 → W (a2 + (-1))))) ∧ (¬ (dep + (-1)) = 0 → W (a2 + (-1))))))) ∧ (¬ c = 93 → ((dep < 0 → P0) ∧ (¬ dep < 0 → ((dep = 0 → ((c = 20 → P1) ∧ (¬ c = 20 → W a2))) ∧ (¬ dep = 0 → W a2))))))))))) := by
  have r1 : zR (dep + 1) := ⟨by omega, by omega⟩
  have r2 : zR (dep + (-1)) := ⟨by omega, by omega⟩
  have o1 : -((i : Int) + 1) ≤ dep + 1 ∧ dep + 1 ≤ (i : Int) + 1 := by omega
  have o2 : -((i : Int) + 1) ≤ dep + (-1) ∧ dep + (-1) ≤ (i : Int) + 1 := by omega
  have o3 : -((i : Int) + 1) ≤ dep ∧ dep ≤ (i : Int) + 1 := by omega
  have b1 : (a2 + 1).toInt = dep + 1 := ti_1 h2 (by omega) (by omega)
  have b2 : (a2 + (-1)).toInt = dep + (-1) := zm_1 h2 r2
  have grp : ∀ (e : Int) (b2 : Int32), b2.toInt = e → -((i : Int) + 1) ≤ e ∧ e ≤ (i : Int) + 1 → pbe c dep = e → ((e < 0 → P0) ∧ (¬ e < 0 → ((e = 0 → ((c = 20 → P1) ∧ (¬ c = 20 → W b2))) ∧ (¬ e = 0 → W b2)))) := by
    intro e b2 hb g hpe
    rw [hpe] at hp
    exact ⟨fun h => q0 (by rw [hp, if_pos h]), fun h => ⟨fun h0 => ⟨fun hc => q1 (by rw [hp, if_neg h, if_pos ⟨h0, hc⟩]), fun hc => qr e b2 hb g.1 g.2 (by rw [hp, if_neg h, if_neg (fun x => hc x.2)])⟩, fun h0 => qr e b2 hb g.1 g.2 (by rw [hp, if_neg h, if_neg (fun x => h0 x.1)])⟩⟩
  exact ⟨fun h => ⟨r1, grp (dep + 1) _ b1 o1 (pbe_1 (Or.inl h))⟩, fun n40 => ⟨fun h => ⟨r1, grp (dep + 1) _ b1 o1 (pbe_1 (Or.inr h))⟩, fun n91 => ⟨fun h => ⟨r2, grp (dep + (-1)) _ b2 o2 (pbe_2 (fun e => e.elim n40 n91) (Or.inl h))⟩, fun n41 => ⟨fun h => ⟨r2, grp (dep + (-1)) _ b2 o2 (pbe_2 (fun e => e.elim n40 n91) (Or.inr h))⟩, fun n93 => grp dep _ h2 o3 (pbe_3 (fun e => e.elim n40 n91) (fun e => e.elim n41 n93))⟩⟩⟩⟩
section PC
variable (xs : Option (List Int32)) (d : Nat) {T : List lxT} {pl : Nat → Int} {ctx : pC} {M : pM} {st : pS} {s : zS}
theorem ct_107l (hk : tkR T s) (Q : Int32 → zS → Prop) : ∀ (n i : Nat) (dep : Int) (a2 a3 : Int32), T.length - i = n → i ≤ T.length → a2.toInt = dep → a3.toInt = i → -(i : Int) ≤ dep → dep ≤ i → Q (zb (pbc (T.drop i) dep)) s → zWi xs d 107 6 [(0, .ref 5), (2, .int a2), (3, .int a3)] s Q := by
  have hl := tkR_len hk
  intro n
  induction n with
  | zero =>
    intro i dep a2 a3 hn hi h2 h3 hd1 hd2 hQ
    refine vc_107_6 xs d s a2 a3 Q ?_
    rw [h3, hk.1]
    refine ⟨fun h => by omega, fun _ => ?_⟩
    rw [List.drop_eq_nil_of_le (by omega)] at hQ
    exact hQ
  | succ n ih =>
    intro i dep a2 a3 hn hi h2 h3 hd1 hd2 hQ
    have hlt : i < T.length := by omega
    obtain ⟨c1, _, _, c4, _, _⟩ := tk_c hk hlt
    refine vc_107_6 xs d s a2 a3 Q ?_
    rw [h3, hk.1]
    refine ⟨fun _ => ⟨c1, ?_⟩, fun h => by omega⟩
    rw [c4, h2]
    have hp : pbc (T.drop i) dep = (if pbe (tc T i) dep < 0 then false else if pbe (tc T i) dep = 0 ∧ tc T i = 20 then true else pbc (T.drop (i + 1)) (pbe (tc T i) dep)) := by
      have et : (T[i]).1 = tc T i := by unfold tc; rw [List.getD_eq_getElem?_getD, List.getElem?_eq_getElem hlt]; rfl
      rw [List.drop_eq_getElem_cons hlt, pbc, et]
      rfl
    generalize tc T i = c at hp ⊢
    refine pb_grp (i := i) (B := pbc (T.drop i) dep) (F := fun e => pbc (T.drop (i + 1)) e) (W := fun b2 => zWi xs d 107 6 [(0, .ref 5), (2, .int b2), (3, .int (a3 + 1))] s Q) h2 hd1 hd2 (by omega) hp (fun e => ?_) (fun e => ?_) (fun e b2 hb g1 g2 he => ?_)
    · rw [e] at hQ; exact hQ
    · rw [e] at hQ; exact hQ
    · refine ih (i + 1) e b2 (a3 + 1) (by omega) (by omega) hb (ti_inc h3 (by omega)) (by omega) (by omega) ?_
      rw [he] at hQ
      exact hQ
theorem ct_107 (hk : tkR T s) (i : Nat) (hi : i < T.length) (a : Int32) (ha : a.toInt = i) (Q : Int32 → zS → Prop) (hQ : Q (zb (pbc (T.drop (i + 1)) 0)) s) : zWi xs d 107 0 [(0, .ref 5), (1, .int a)] s Q := by
  have hl := tkR_len hk
  exact vc_107_0 xs d s a Q (ct_107l xs d hk Q _ (i + 1) 0 0 (a + 1) rfl (by omega) rfl (ti_inc ha (by omega)) (by omega) (by omega) hQ)
end PC
