/-! The answers, and the class's calls. -/
theorem zi_e {v : Int32} {a : Int} (h : v.toInt = a) : v = zI a := by rw [← h]; exact zq_a v
section QA
variable (t : List Int32)
def qTokens : Int32 := zI ((lx t).length : Int)
def qToken (k : Int32) : Int32 := if k.toInt < 0 ∨ ¬ k.toInt < ((lx t).length : Int) then -1 else zI (lx_kd (tc (lx t) k.toInt.toNat)) + 16 * zI (tb (lx t) k.toInt.toNat) + 4096 * zI (te (lx t) k.toInt.toNat)
def erO (o : pO) : Int × Int := fErr t (lx t) o.2.2.1 o.2.2.2.2.1
def wA (r : pR) (f : pO → Int32) : Int32 := match r with
  | .inl _ => -1
  | .inr (_, o) => f o
def qCheck : Int32 := match pr t with
  | .inl e => zI e.1
  | .inr (_, o) => zI (erO t o).1
def qPlace : Int32 := match pr t with
  | .inl e => zI e.2
  | .inr (_, o) => zI (pE2 (lx t) (erO t o)).2
def qExtent (p m : Int32) : Int32 := wA (pr t) (fun o => zI (xAns (pdd o.1) p.toInt m.toInt (pdd o.1)))
def qScopes : Int32 := wA (pr t) (fun o => zI ((o.2.2.1.length : Int) + 1))
def qScope (k : Int32) : Int32 := wA (pr t) (fun o => if k.toInt < 0 ∨ ¬ k.toInt < (o.2.2.1.length : Int) + 1 then -1 else zI ((0 :: sS o.2.2.1).getD k.toInt.toNat 0) + 8 * zI ((0 :: sP o.2.2.1).getD k.toInt.toNat 0))
def qNames : Int32 := wA (pr t) (fun o => zI (o.2.2.2.2.1.length : Int))
def qName (k : Int32) : Int32 := wA (pr t) (fun o => if k.toInt < 0 ∨ ¬ k.toInt < (o.2.2.2.2.1.length : Int) then -1 else zI (tb (lx t) (tkA o.2.2.2.2.1 k.toInt.toNat)))
def atP (T : List lxT) (p : Int) (x : pOc) : Bool := decide (tb T x.1 ≤ p) && decide (p < te T x.1)
/-- the occurrence at p of a fine text -/
def fnd (o : pO) (p : Int) : Option pOc := if (erO t o).1 = 0 then o.2.2.2.2.1.find? (atP (lx t) p) else none
def wF (r : pR) (p : Int) (f : pO → pOc → Int32) : Int32 := wA r (fun o => match fnd t o p with
  | none => -1
  | some x => f o x)
def qResolve (p : Int32) : Int32 := wF t (pr t) p.toInt (fun o x => zI (rsv t (lx t) o.2.2.1 o.2.2.2.2.1 x))
def sV (T : List lxT) (L : List pSc) (C : List pOc) (x y : pOc) : Bool := eqT t T x.1 y.1 && decide (of0 t T L C x = of0 t T L C y)
def dfA (T : List lxT) (L : List pSc) (C : List pOc) (x : pOc) : List pOc → Int
  | [] => -1
  | y :: B => if (decide (1 ≤ pmr y.2.2.2 ∧ pmr y.2.2.2 ≤ 3) && sV t T L C x y) = true then tb T y.1 else dfA T L C x B
def rfA (T : List lxT) (L : List pSc) (C : List pOc) (x : pOc) (k : Int) : Int → List pOc → Int
  | _, [] => -1
  | n, y :: B => if sV t T L C x y = true then (if n = k then tb T y.1 else rfA T L C x k (n + 1) B) else rfA T L C x k n B
def qDef (p : Int32) : Int32 := wF t (pr t) p.toInt (fun o x => zI (dfA t (lx t) o.2.2.1 o.2.2.2.2.1 x o.2.2.2.2.1))
def qRef (p k : Int32) : Int32 := wF t (pr t) p.toInt (fun o x => zI (rfA t (lx t) o.2.2.1 o.2.2.2.2.1 x k.toInt 0 o.2.2.2.2.1))
end QA
def cI (t : List Int32) (s : zS) : Prop := tX t s ∧ cK s ∧ ((s.1 0).toInt = 0 → cF t s)
theorem rfA_n {t : List Int32} {T : List lxT} {L : List pSc} {C : List pOc} {x : pOc} {k : Int} (hk : k < 0) : ∀ (B : List pOc) (n : Int), 0 ≤ n → rfA t T L C x k n B = -1 := by
  intro B
  induction B with
  | nil => intro n _; rfl
  | cons y B ih =>
    intro n hn
    unfold rfA
    split
    · rw [if_neg (by omega)]; exact ih _ (by omega)
    · exact ih _ hn
section QC
variable (xs : Option (List Int32)) (d : Nat) {t : List Int32} {s : zS}
theorem c_go (hd : 132 ≤ d) (ht : tOk t) (hI : cI t s) (Q : zS → Prop) (hQ : ∀ s1, cI t s1 → cF t s1 → zE cEF cEA s s1 → Q s1) : zWv xs d 126 0 [(0, .ref 2)] s Q :=
  ct_126 xs d hd ht hI.1 hI.2.1 hI.2.2 Q (fun s1 k1 k2 _ k4 z => hQ s1 ⟨k1, k2, fun _ => k4⟩ k4 z)
theorem c_acc (ht : tOk t) (hF : cF t s) (Q : Int32 → zS → Prop) (h1 : ∀ e, pr t = .inl e → (s.1 14).toInt = e.1 → (s.1 15).toInt = e.2 → Q 0 s) (h2 : ∀ st o, pr t = .inr (st, o) → Acc t o → xR o.1 s → bnR t (lx t) o.2.2.1 o.2.2.2.2.1 s → Q 1 s) : zWi xs d 127 0 [(0, .ref 2)] s Q := by
  have hpF := pr_F ht
  cases hr : pr t with
  | inl e =>
    rw [hr] at hpF
    obtain ⟨a, b⟩ := hF.2.1 e hr
    exact vc_127_0 xs d s Q ⟨fun h => absurd (a.symm.trans h) hpF, fun _ => h1 e hr a b⟩
  | inr q =>
    obtain ⟨st, o⟩ := q
    obtain ⟨a, b, c⟩ := hF.2.2 st o hr
    exact vc_127_0 xs d s Q ⟨fun _ => h2 st o hr (pr_ok ht hr) b c, fun h => absurd a h⟩
theorem cq_110 (hI : cI t s) (Q : Int32 → zS → Prop) (hQ : Q (zI (t.length : Int)) s) : zWi xs d 110 0 [(0, .ref 2)] s Q := by
  refine vc_110_0 xs d s Q ?_
  rw [zi_e hI.1.1]
  exact hQ
theorem cq_111 (hd : 1 ≤ d) (hI : cI t s) (a : Int32) (Q : Int32 → zS → Prop) (hQ : Q (zI (lx_at t a.toInt)) s) : zWi xs d 111 0 [(0, .ref 2), (1, .int a)] s Q := by
  obtain ⟨d, rfl⟩ : ∃ e, d = e + 1 := ⟨d - 1, by omega⟩
  refine vc_111_0 xs d s a Q (ct_85 xs d s hI.1 a _ (fun v hv => ?_))
  rw [zi_e hv]
  exact hQ
theorem cq_112 (hd : 133 ≤ d) (ht : tOk t) (hI : cI t s) (Q : Int32 → zS → Prop) (hQ : ∀ s1, cI t s1 → zE cEF cEA s s1 → Q (qTokens t) s1) : zWi xs d 112 0 [(0, .ref 2)] s Q := by
  obtain ⟨d, rfl⟩ : ∃ e, d = e + 1 := ⟨d - 1, by omega⟩
  refine vc_112_0 xs d s Q (c_go xs d (by omega) ht hI _ (fun s1 g1 g2 z => ?_))
  rw [zi_e g2.1.1]
  exact hQ s1 g1 z
theorem cq_113 (hd : 134 ≤ d) (ht : tOk t) (hI : cI t s) (a : Int32) (Q : Int32 → zS → Prop) (hQ : ∀ s1, cI t s1 → zE cEF cEA s s1 → Q (qToken t a) s1) : zWi xs d 113 0 [(0, .ref 2), (1, .int a)] s Q := by
  obtain ⟨d, rfl⟩ : ∃ e, d = e + 2 := ⟨d - 2, by omega⟩
  refine vc_113_0 xs (d + 1) s a Q (c_go xs (d + 1) (by omega) ht hI _ (fun s1 g1 g2 z => ?_))
  have hQ1 := hQ s1 g1 z
  have hcnt : (s1.1 2).toInt = ((lx t).length : Int) := g2.1.1
  rw [hcnt]
  unfold qToken at hQ1
  refine ⟨fun h => ?_, fun h => ⟨fun h2 => ?_, fun h2 => ?_⟩⟩
  · rw [if_pos (Or.inl h)] at hQ1; exact hQ1
  · rw [if_neg (by omega)] at hQ1
    obtain ⟨c1, c2, c3, c4, c5, c6⟩ := tk_c g2.1 (i := a.toInt.toNat) (by omega)
    rw [show ((a.toInt.toNat : Nat) : Int) = a.toInt by omega] at c1 c2 c3 c4 c5 c6
    refine vc_97_0 xs d s1 a _ (vc_94_0 xs d s1 a _ ⟨fun h => by omega, fun _ => ⟨fun _ => ⟨c1, ?_⟩, fun h => by omega⟩⟩)
    rw [c4]
    have rest : ∀ v14 : Int32, v14.toInt = lx_kd (tc (lx t) a.toInt.toNat) → zWi xs (d + 1) 95 0 [(0, .ref 5), (1, .int a)] s1 (fun v17 s15 => zWi xs (d + 1) 96 0 [(0, .ref 5), (1, .int a)] s15 (fun v20 s18 => Q ((v14 + (16 * v17)) + (4096 * v20)) s18)) := by
      intro v14 h14
      refine vc_95_0 xs (d + 1) s1 a _ ⟨fun h => by omega, fun _ => ⟨fun _ => ⟨c2, vc_96_0 xs (d + 1) s1 a _ ⟨fun h => by omega, fun _ => ⟨fun _ => ⟨c3, ?_⟩, fun h => by omega⟩⟩⟩, fun h => by omega⟩⟩
      rw [zi_e h14, zi_e c5, zi_e c6]
      exact hQ1
    refine ⟨fun h8 => ⟨fun h29 => rest 3 ?_, fun h29 => rest 2 ?_⟩, fun h8 => rest _ ?_⟩
    · unfold lx_kd; rw [if_neg (by omega), if_neg (by omega)]; rfl
    · unfold lx_kd; rw [if_neg (by omega), if_pos (by omega)]; rfl
    · unfold lx_kd; rw [if_pos (by omega)]; exact c4
  · rw [if_pos (Or.inr h2)] at hQ1; exact hQ1
theorem cq_114 (hd : 133 ≤ d) (ht : tOk t) (hI : cI t s) (Q : Int32 → zS → Prop) (hQ : ∀ s1, cI t s1 → zE cEF cEA s s1 → Q (qCheck t) s1) : zWi xs d 114 0 [(0, .ref 2)] s Q := by
  obtain ⟨d, rfl⟩ : ∃ e, d = e + 1 := ⟨d - 1, by omega⟩
  refine vc_114_0 xs d s Q (c_go xs d (by omega) ht hI _ (fun s1 g1 g2 z => c_acc xs d ht g2 _ (fun e hr a b => ⟨fun _ => ?_, fun h => absurd rfl h⟩) (fun st o hr hc a b => ⟨fun h => absurd h (by decide), fun _ => ?_⟩)))
  · have := hQ s1 g1 z
    unfold qCheck at this
    rw [hr] at this
    rw [zi_e a]; exact this
  · have := hQ s1 g1 z
    unfold qCheck at this
    rw [hr] at this
    rw [zi_e b.2.2.1.1]; exact this
theorem cq_115 (hd : 133 ≤ d) (ht : tOk t) (hI : cI t s) (Q : Int32 → zS → Prop) (hQ : ∀ s1, cI t s1 → zE cEF cEA s s1 → Q (qPlace t) s1) : zWi xs d 115 0 [(0, .ref 2)] s Q := by
  obtain ⟨d, rfl⟩ : ∃ e, d = e + 1 := ⟨d - 1, by omega⟩
  refine vc_115_0 xs d s Q (c_go xs d (by omega) ht hI _ (fun s1 g1 g2 z => c_acc xs d ht g2 _ (fun e hr a b => ⟨fun _ => ?_, fun h => absurd rfl h⟩) (fun st o hr hc a b => ⟨fun h => absurd h (by decide), fun _ => ?_⟩)))
  · have := hQ s1 g1 z
    unfold qPlace at this
    rw [hr] at this
    rw [zi_e b]; exact this
  · have := hQ s1 g1 z
    unfold qPlace at this
    rw [hr] at this
    rw [zi_e b.2.2.1.2]; exact this
theorem wA_l {r : pR} {e : Int × Int} (h : r = .inl e) (f : pO → Int32) : wA r f = -1 := by rw [h]; rfl
theorem wA_r {r : pR} {st : pS} {o : pO} (h : r = .inr (st, o)) (f : pO → Int32) : wA r f = f o := by rw [h]; rfl
theorem cq_116 (hd : 133 ≤ d) (ht : tOk t) (hI : cI t s) (a1 a2 : Int32) (Q : Int32 → zS → Prop) (hQ : ∀ s1, cI t s1 → zE cEF cEA s s1 → Q (qExtent t a1 a2) s1) : zWi xs d 116 0 [(0, .ref 2), (1, .int a1), (2, .int a2)] s Q := by
  obtain ⟨d, rfl⟩ : ∃ e, d = e + 1 := ⟨d - 1, by omega⟩
  refine vc_116_0 xs d s a1 a2 Q (c_go xs d (by omega) ht hI _ (fun s1 g1 g2 z => c_acc xs d ht g2 _ (fun e hr a b => ⟨fun _ => ?_, fun h => absurd rfl h⟩) (fun st o hr hc a b => ⟨fun h => absurd h (by decide), fun _ => ?_⟩)))
  · have := hQ s1 g1 z
    unfold qExtent at this
    rw [wA_l hr] at this
    exact this
  · have := hQ s1 g1 z
    unfold qExtent at this
    rw [wA_r hr] at this
    obtain ⟨_, _, _, _, _, _, _, hsm, _, hxb⟩ := hc
    refine ct_25 xs d (by omega) a (fun e he => hxb e ((hsm e).mp ((pdd_mem _ _).mp he))) a1 a2 _ (fun v hv => ?_)
    rw [zi_e hv]; exact this
theorem cq_117 (hd : 133 ≤ d) (ht : tOk t) (hI : cI t s) (Q : Int32 → zS → Prop) (hQ : ∀ s1, cI t s1 → zE cEF cEA s s1 → Q (qScopes t) s1) : zWi xs d 117 0 [(0, .ref 2)] s Q := by
  obtain ⟨d, rfl⟩ : ∃ e, d = e + 1 := ⟨d - 1, by omega⟩
  refine vc_117_0 xs d s Q (c_go xs d (by omega) ht hI _ (fun s1 g1 g2 z => c_acc xs d ht g2 _ (fun e hr a b => ⟨fun _ => ?_, fun h => absurd rfl h⟩) (fun st o hr hc a b => ⟨fun h => absurd h (by decide), fun _ => ?_⟩)))
  · have := hQ s1 g1 z
    unfold qScopes at this
    rw [wA_l hr] at this
    exact this
  · have := hQ s1 g1 z
    unfold qScopes at this
    rw [wA_r hr] at this
    have h6 : (s1.1 6).toInt = (o.2.2.1.length : Int) + 1 := by
      rw [b.1.2.1.1, List.length_cons, sS_l]; omega
    rw [zi_e h6]; exact this
theorem cq_118 (hd : 134 ≤ d) (ht : tOk t) (hI : cI t s) (a : Int32) (Q : Int32 → zS → Prop) (hQ : ∀ s1, cI t s1 → zE cEF cEA s s1 → Q (qScope t a) s1) : zWi xs d 118 0 [(0, .ref 2), (1, .int a)] s Q := by
  obtain ⟨d, rfl⟩ : ∃ e, d = e + 1 := ⟨d - 1, by omega⟩
  refine vc_118_0 xs d s a Q (c_go xs d (by omega) ht hI _ (fun s1 g1 g2 z => c_acc xs d ht g2 _ (fun e hr k1 k2 => ⟨fun _ => ?_, fun h => absurd rfl h⟩) (fun st o hr hc k1 b => ⟨fun h => absurd h (by decide), fun _ => ?_⟩)))
  · have := hQ s1 g1 z
    unfold qScope at this
    rw [wA_l hr] at this
    exact this
  · have := hQ s1 g1 z
    unfold qScope at this
    rw [wA_r hr] at this
    have hsl : (0 :: sS o.2.2.1).length = o.2.2.1.length + 1 := by rw [List.length_cons, sS_l]
    have h6 : (s1.1 6).toInt = (o.2.2.1.length : Int) + 1 := by rw [b.1.2.1.1, hsl]; omega
    rw [h6]
    refine ⟨fun h => ?_, fun h => ⟨fun h2 => ?_, fun h2 => ?_⟩⟩
    · rw [if_pos (Or.inl h)] at this; exact this
    · rw [if_neg (by omega)] at this
      refine ct_71b xs d b.1.2.1 a (by omega) (by omega) _ (fun v hv => ct_72 xs d b.1.2.1 a (by omega) (by omega) _ (fun w hw => ?_))
      rw [zi_e hv, zi_e hw]; exact this
    · rw [if_pos (Or.inr h2)] at this; exact this
theorem cq_119 (hd : 133 ≤ d) (ht : tOk t) (hI : cI t s) (Q : Int32 → zS → Prop) (hQ : ∀ s1, cI t s1 → zE cEF cEA s s1 → Q (qNames t) s1) : zWi xs d 119 0 [(0, .ref 2)] s Q := by
  obtain ⟨d, rfl⟩ : ∃ e, d = e + 1 := ⟨d - 1, by omega⟩
  refine vc_119_0 xs d s Q (c_go xs d (by omega) ht hI _ (fun s1 g1 g2 z => c_acc xs d ht g2 _ (fun e hr a b => ⟨fun _ => ?_, fun h => absurd rfl h⟩) (fun st o hr hc a b => ⟨fun h => absurd h (by decide), fun _ => ?_⟩)))
  · have := hQ s1 g1 z
    unfold qNames at this
    rw [wA_l hr] at this
    exact this
  · have := hQ s1 g1 z
    unfold qNames at this
    rw [wA_r hr] at this
    rw [zi_e b.1.2.2.1.1]; exact this
theorem cq_120 (hd : 133 ≤ d) (ht : tOk t) (hI : cI t s) (a : Int32) (Q : Int32 → zS → Prop) (hQ : ∀ s1, cI t s1 → zE cEF cEA s s1 → Q (qName t a) s1) : zWi xs d 120 0 [(0, .ref 2), (1, .int a)] s Q := by
  obtain ⟨d, rfl⟩ : ∃ e, d = e + 1 := ⟨d - 1, by omega⟩
  refine vc_120_0 xs d s a Q (c_go xs d (by omega) ht hI _ (fun s1 g1 g2 z => c_acc xs d ht g2 _ (fun e hr k1 k2 => ⟨fun _ => ?_, fun h => absurd rfl h⟩) (fun st o hr hc k1 b => ⟨fun h => absurd h (by decide), fun _ => ?_⟩)))
  · have := hQ s1 g1 z
    unfold qName at this
    rw [wA_l hr] at this
    exact this
  · have := hQ s1 g1 z
    unfold qName at this
    rw [wA_r hr] at this
    rw [b.1.2.2.1.1]
    refine ⟨fun h => ?_, fun h => ⟨fun h2 => ?_, fun h2 => ?_⟩⟩
    · rw [if_pos (Or.inl h)] at this; exact this
    · rw [if_neg (by omega)] at this
      obtain ⟨x, hx⟩ := ge_x (C := o.2.2.2.2.1) (j := a.toInt.toNat) (by omega)
      obtain ⟨c1, _, _, _, _, c6, _⟩ := oR_g b.1.2.2.1 hx
      rw [show ((a.toInt.toNat : Nat) : Int) = a.toInt by omega] at c1 c6
      rw [tkA_x hx] at this
      rw [zi_e c6]; exact ⟨c1, this⟩
    · rw [if_pos (Or.inr h2)] at this; exact this
/-- Occurrences.find -/
theorem ct_30l {T : List lxT} {C : List pOc} (hO : oR T C s) (a1 : Int32) (Q : Int32 → zS → Prop) : ∀ (B : List pOc) (j : Nat) (a2 : Int32), C.drop j = B → a2.toInt = j → (∀ v : Int32, (v = -1 ∧ B.find? (atP T a1.toInt) = none) ∨ (∃ (i : Nat) (x : pOc), v.toInt = i ∧ C[i]? = some x ∧ B.find? (atP T a1.toInt) = some x) → Q v s) → zWi xs d 30 2 [(0, .ref 17), (1, .int a1), (2, .int a2)] s Q := by
  have hcl : C.length ≤ 100 := by have := hO.2.1.2.1; rw [List.length_map] at this; exact this
  have h7 : (s.1 7).toInt = (C.length : Int) := hO.1
  intro B
  induction B with
  | nil =>
    intro j a2 hdr h2 hQ
    have := dr_0 hdr
    exact vc_30_2 xs d s a1 a2 Q ⟨fun h => by omega, fun _ => hQ (-1) (Or.inl ⟨rfl, rfl⟩)⟩
  | cons x B ih =>
    intro j a2 hdr h2 hQ
    obtain ⟨hx, hd2, hlt⟩ := dr_x hdr
    obtain ⟨c1, c2, _, _, _, c6, c7, _⟩ := oR_g hO hx
    have e2 : (a2 + 1).toInt = ((j + 1 : Nat) : Int) := ti_inc h2 (by omega)
    have no : atP T a1.toInt x = false → zWi xs d 30 2 [(0, .ref 17), (1, .int a1), (2, .int (a2 + 1))] s Q := fun hn => ih (j + 1) (a2 + 1) hd2 e2 (fun v hv => hQ v (by rw [List.find?_cons_of_neg (by rw [hn]; decide)]; exact hv))
    refine vc_30_2 xs d s a1 a2 Q ⟨fun _ => ?_, fun h => by omega⟩
    rw [h2, c6, c7]
    refine ⟨c1, fun h => no ?_, fun h => ⟨c2, fun hh => hQ a2 (Or.inr ⟨j, x, h2, hx, ?_⟩), fun hh => no ?_⟩⟩
    · unfold atP; rw [decide_eq_false (show ¬ tb T x.1 ≤ a1.toInt by omega)]; rfl
    · rw [List.find?_cons_of_pos]
      unfold atP
      rw [decide_eq_true (show tb T x.1 ≤ a1.toInt by omega), decide_eq_true hh]; rfl
    · unfold atP; rw [decide_eq_false hh, Bool.and_false]
/-- settledAt: no occurrence of a fine text there, or this one -/
theorem ct_129 (hd : 2 ≤ d) (ht : tOk t) (hF : cF t s) (a1 : Int32) (Q : Int32 → zS → Prop) (h1 : (∀ f, wF t (pr t) a1.toInt f = -1) → Q (-1) s) (h2 : ∀ (st : pS) (o : pO) (i : Nat) (x : pOc) (v : Int32), pr t = .inr (st, o) → Acc t o → bnR t (lx t) o.2.2.1 o.2.2.2.2.1 s → (erO t o).1 = 0 → v.toInt = i → o.2.2.2.2.1[i]? = some x → (∀ f, wF t (pr t) a1.toInt f = f o x) → Q v s) : zWi xs d 129 0 [(0, .ref 2), (1, .int a1)] s Q := by
  obtain ⟨d, rfl⟩ : ∃ e, d = e + 2 := ⟨d - 2, by omega⟩
  refine vc_129_0 xs (d + 1) s a1 Q (vc_128_0 xs d s _ (c_acc xs d ht hF _ (fun e hr a b => ⟨fun _ => ⟨fun _ => h1 (fun f => ?_), fun h => absurd rfl h⟩, fun h => absurd rfl h⟩) (fun st o hr hc a b => ⟨fun h => absurd h (by decide), fun _ => ⟨fun h0 => ⟨fun h => absurd h (by decide), fun _ => ?_⟩, fun h0 => ⟨fun _ => h1 (fun f => ?_), fun h => absurd rfl h⟩⟩⟩)))
  · unfold wF; exact wA_l hr _
  · have he : (erO t o).1 = 0 := by rw [← h0]; exact b.2.2.1.1.symm
    refine vc_30_0 xs (d + 1) s a1 _ (ct_30l xs (d + 1) b.1.2.2.1 a1 _ o.2.2.2.2.1 0 0 List.drop_zero rfl (fun v hv => ?_))
    have hw : ∀ f, wF t (pr t) a1.toInt f = (match o.2.2.2.2.1.find? (atP (lx t) a1.toInt) with
      | none => -1
      | some x => f o x) := by
      intro f
      unfold wF
      rw [wA_r hr]
      unfold fnd
      rw [if_pos he]
    rcases hv with ⟨k1, k2⟩ | ⟨i, x, k1, k2, k3⟩
    · rw [k1]
      exact h1 (fun f => by rw [hw, k2])
    · exact h2 st o i x v hr hc b he k1 k2 (fun f => by rw [hw, k3])
  · unfold wF
    rw [wA_r hr]
    unfold fnd
    rw [if_neg (fun h => h0 (by rw [← h]; exact b.2.2.1.1))]
theorem cq_121 (hd : 134 ≤ d) (ht : tOk t) (hI : cI t s) (a : Int32) (Q : Int32 → zS → Prop) (hQ : ∀ s1, cI t s1 → zE cEF cEA s s1 → Q (qResolve t a) s1) : zWi xs d 121 0 [(0, .ref 2), (1, .int a)] s Q := by
  obtain ⟨d, rfl⟩ : ∃ e, d = e + 1 := ⟨d - 1, by omega⟩
  refine vc_121_0 xs d s a Q (c_go xs d (by omega) ht hI _ (fun s1 g1 g2 z => ct_129 xs d (by omega) ht g2 a _ (fun hn => ⟨fun _ => ?_, fun h => absurd (by decide) h⟩) (fun st o i x v hr hc b he hv hx hw => ⟨fun h => by omega, fun _ => ?_⟩)))
  · have := hQ s1 g1 z
    unfold qResolve at this
    rw [hn] at this
    exact this
  · have := hQ s1 g1 z
    unfold qResolve at this
    rw [hw] at this
    obtain ⟨k1, k2⟩ := b.2.2.2 he
    have hi := oi_l hx
    obtain ⟨_, _, _, c4, _, _, _, _, c9, _⟩ := oR_g b.1.2.2.1 hx
    obtain ⟨o1, o2⟩ := li_g k1 (j := i) (by rw [List.length_map]; exact hi)
    obtain ⟨n1, n2⟩ := li_g k2 (j := i) (by rw [List.length_map]; exact hi)
    rw [mp_g hx] at o2 n2
    have hm : x ∈ o.2.2.2.2.1 := List.mem_of_getElem? hx
    obtain ⟨hA, _, _, hL, _⟩ := hc
    have hL40 : (o.2.2.1.length : Int) + 1 ≤ 40 := by omega
    have hb := ax_b hA hm
    refine vc_38_0 xs d s1 v _ ?_
    rw [hv]
    refine ⟨n1, o1, c4, ?_⟩
    have hmb := mnt_b (t := t) hA hL40 hm
    have hof : 0 ≤ of0 t (lx t) o.2.2.1 o.2.2.2.2.1 x ∧ of0 t (lx t) o.2.2.1 o.2.2.2.2.1 x < 64 := by unfold of0; omega
    have hkd : 0 ≤ kd1 t (lx t) o.2.2.1 o.2.2.2.2.1 x ∧ kd1 t (lx t) o.2.2.1 o.2.2.2.2.1 x < 10 := by
      unfold kd1 kd0
      repeat' split
      all_goals omega
    rw [zi_e ((rs_sum n2 o2 c9 hkd hof (by omega)).trans (rsv_kd hA hL40 hm))]
    exact this
theorem ct_35v {T : List lxT} {L : List pSc} {C : List pOc} {S : List Int} (hS : spC t T C S s) (hO : zP 100 (C.map (of0 t T L C)) (s.2 23)) {i j : Nat} {x y : pOc} (hx : C[i]? = some x) (hy : C[j]? = some y) (a1 a2 : Int32) (h1 : a1.toInt = i) (h2 : a2.toInt = j) (Q : Int32 → zS → Prop) (hQ : Q (zb (sV t T L C x y)) s) : zWi xs d 35 0 [(0, .ref 17), (1, .int a1), (2, .int a2)] s Q :=
  ct_35 xs d hS hO hx hy (oi_l hx) (oi_l hy) a1 a2 h1 h2 Q hQ
theorem cq_122l {L : List pSc} {C : List pOc} {S : List Int} (hd : 1 ≤ d) (hO : oR (lx t) C s) (hA : Ax (lx t) L C) (hS : spC t (lx t) C S s) (hof : zP 100 (C.map (of0 t (lx t) L C)) (s.2 23)) {i : Nat} {x : pOc} (hx : C[i]? = some x) (a2 : Int32) (h2 : a2.toInt = i) (Q : Int32 → zS → Prop) : ∀ (B : List pOc) (j : Nat) (a3 : Int32), C.drop j = B → a3.toInt = j → Q (zI (dfA t (lx t) L C x B)) s → zWi xs (d + 1) 122 18 [(0, .ref 2), (2, .int a2), (3, .int a3)] s Q := by
  obtain ⟨d, rfl⟩ : ∃ e, d = e + 1 := ⟨d - 1, by omega⟩
  have hcl : C.length ≤ 100 := by have := hO.2.1.2.1; rw [List.length_map] at this; exact this
  have h7 : (s.1 7).toInt = (C.length : Int) := hO.1
  intro B
  induction B with
  | nil =>
    intro j a3 hdr h3 hQ
    have := dr_0 hdr
    exact vc_122_18 xs (d + 1) s a2 a3 Q ⟨fun h => by omega, fun _ => hQ⟩
  | cons y B ih =>
    intro j a3 hdr h3 hQ
    obtain ⟨hy, hd2, hlt⟩ := dr_x hdr
    obtain ⟨c1, _, _, _, _, c6, _⟩ := oR_g hO hy
    have hm : y ∈ C := List.mem_of_getElem? hy
    have e3 : (a3 + 1).toInt = ((j + 1 : Nat) : Int) := ti_inc h3 (by omega)
    have no : (decide (1 ≤ pmr y.2.2.2 ∧ pmr y.2.2.2 ≤ 3) && sV t (lx t) L C x y) = false → zWi xs (d + 2) 122 18 [(0, .ref 2), (2, .int a2), (3, .int (a3 + 1))] s Q := fun hn => ih (j + 1) (a3 + 1) hd2 e3 (by unfold dfA at hQ; rw [if_neg (by rw [hn]; decide)] at hQ; exact hQ)
    refine vc_122_18 xs (d + 1) s a2 a3 Q ⟨fun _ => vc_33_0 xs d s a3 _ (ct_32 xs d hO hy (hA.rol y hm) a3 2 h3 mk_2 _ ?_), fun h => by omega⟩
    cases hq : decide (1 ≤ pmr y.2.2.2 ∧ pmr y.2.2.2 ≤ 3) with
    | false => exact ⟨Or.inl rfl, fun _ => no (by rw [hq]; rfl), fun h => absurd rfl h⟩
    | true =>
      refine ⟨Or.inr rfl, fun h => absurd h (by decide), fun _ => ct_35v xs (d + 1) hS hof hx hy a2 a3 h2 h3 _ ?_⟩
      cases hv : sV t (lx t) L C x y with
      | false => exact ⟨fun _ => no (by rw [hv, Bool.and_false]), fun h => absurd rfl h⟩
      | true =>
        refine ⟨fun h => absurd h (by decide), fun _ => ?_⟩
        unfold dfA at hQ
        rw [if_pos (by rw [hq, hv]; rfl)] at hQ
        rw [h3, zi_e c6]
        exact ⟨c1, hQ⟩
theorem cq_122 (hd : 134 ≤ d) (ht : tOk t) (hI : cI t s) (a : Int32) (Q : Int32 → zS → Prop) (hQ : ∀ s1, cI t s1 → zE cEF cEA s s1 → Q (qDef t a) s1) : zWi xs d 122 0 [(0, .ref 2), (1, .int a)] s Q := by
  obtain ⟨d, rfl⟩ : ∃ e, d = e + 1 := ⟨d - 1, by omega⟩
  refine vc_122_0 xs d s a Q (c_go xs d (by omega) ht hI _ (fun s1 g1 g2 z => ct_129 xs d (by omega) ht g2 a _ (fun hn => ⟨fun _ => ?_, fun h => absurd (by decide) h⟩) (fun st o i x v hr hc b he hv hx hw => ⟨fun h => by omega, fun _ => ?_⟩)))
  · have := hQ s1 g1 z
    unfold qDef at this
    rw [hn] at this
    exact this
  · have := hQ s1 g1 z
    unfold qDef at this
    rw [hw] at this
    obtain ⟨S, hS⟩ := b.2.1
    exact cq_122l xs d (by omega) b.1.2.2.1 hc.1 hS (b.2.2.2 he).1 hx v hv Q o.2.2.2.2.1 0 0 List.drop_zero rfl this
theorem cq_123l {L : List pSc} {C : List pOc} {S : List Int} (hO : oR (lx t) C s) (hS : spC t (lx t) C S s) (hof : zP 100 (C.map (of0 t (lx t) L C)) (s.2 23)) {i : Nat} {x : pOc} (hx : C[i]? = some x) (a2 a3 : Int32) (h3 : a3.toInt = i) (Q : Int32 → zS → Prop) : ∀ (B : List pOc) (j : Nat) (a4 a5 : Int32), C.drop j = B → a5.toInt = j → 0 ≤ a4.toInt → a4.toInt ≤ j → Q (zI (rfA t (lx t) L C x a2.toInt a4.toInt B)) s → zWi xs (d + 1) 123 26 [(0, .ref 2), (2, .int a2), (3, .int a3), (4, .int a4), (5, .int a5)] s Q := by
  have hcl : C.length ≤ 100 := by have := hO.2.1.2.1; rw [List.length_map] at this; exact this
  have h7 : (s.1 7).toInt = (C.length : Int) := hO.1
  intro B
  induction B with
  | nil =>
    intro j a4 a5 hdr h5 h0 hle hQ
    have := dr_0 hdr
    exact vc_123_26 xs d s a2 a3 a4 a5 Q ⟨fun h => by omega, fun _ => hQ⟩
  | cons y B ih =>
    intro j a4 a5 hdr h5 h0 hle hQ
    obtain ⟨hy, hd2, hlt⟩ := dr_x hdr
    obtain ⟨c1, _, _, _, _, c6, _⟩ := oR_g hO hy
    have e5 : (a5 + 1).toInt = ((j + 1 : Nat) : Int) := ti_inc h5 (by omega)
    have e4 : (a4 + 1).toInt = a4.toInt + 1 := ti_1 rfl (by omega) (by omega)
    unfold rfA at hQ
    refine vc_123_26 xs d s a2 a3 a4 a5 Q ⟨fun _ => ct_35v xs d hS hof hx hy a3 a5 h3 h5 _ ?_, fun h => by omega⟩
    cases hv : sV t (lx t) L C x y with
    | false =>
      rw [hv, if_neg (by decide)] at hQ
      exact ⟨fun _ => ih (j + 1) a4 (a5 + 1) hd2 e5 h0 (by omega) hQ, fun h => absurd rfl h⟩
    | true =>
      rw [hv, if_pos rfl] at hQ
      refine ⟨fun h => absurd h (by decide), fun _ => ⟨fun hk => ?_, fun hk => ?_⟩⟩
      · rw [if_pos hk] at hQ
        rw [h5, zi_e c6]
        exact ⟨c1, hQ⟩
      · rw [if_neg hk] at hQ
        exact ih (j + 1) (a4 + 1) (a5 + 1) hd2 e5 (by omega) (by omega) (by rw [e4]; exact hQ)
theorem cq_123 (hd : 134 ≤ d) (ht : tOk t) (hI : cI t s) (a k : Int32) (Q : Int32 → zS → Prop) (hQ : ∀ s1, cI t s1 → zE cEF cEA s s1 → Q (qRef t a k) s1) : zWi xs d 123 0 [(0, .ref 2), (1, .int a), (2, .int k)] s Q := by
  obtain ⟨d, rfl⟩ : ∃ e, d = e + 1 := ⟨d - 1, by omega⟩
  refine vc_123_0 xs d s a k Q (c_go xs d (by omega) ht hI _ (fun s1 g1 g2 z => ct_129 xs d (by omega) ht g2 a _ (fun hn => ⟨fun _ => ?_, fun h => absurd (by decide) h⟩) (fun st o i x v hr hc b he hv hx hw => ⟨fun h => by omega, fun _ => ⟨fun hk => ?_, fun hk => ?_⟩⟩)))
  · have := hQ s1 g1 z
    unfold qRef at this
    rw [hn] at this
    exact this
  · have := hQ s1 g1 z
    unfold qRef at this
    rw [hw, rfA_n hk _ _ (Int.le_refl _)] at this
    exact this
  · have := hQ s1 g1 z
    unfold qRef at this
    rw [hw] at this
    obtain ⟨S, hS⟩ := b.2.1
    exact cq_123l xs d b.1.2.2.1 hS (b.2.2.2 he).1 hx k v hv Q o.2.2.2.2.1 0 0 0 List.drop_zero rfl (by decide) (by decide) this
end QC
