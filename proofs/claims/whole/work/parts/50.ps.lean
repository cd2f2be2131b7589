/-! The parser as a function. -/
def tc (T : List lxT) (i : Nat) : Int := (T.getD i (7, 0, 0)).1
def tb (T : List lxT) (i : Nat) : Int := (T.getD i (7, 0, 0)).2.1
def te (T : List lxT) (i : Nat) : Int := (T.getD i (7, 0, 0)).2.2
/-- a scope: sort, parent, target (an occurrence), first token, from, to, source from, source to, loop (a token) -/
abbrev pSc : Type := Int × Int × Int × Int × Int × Int × Int × Int × Int
/-- an occurrence: token, lies, belongs, roles -/
abbrev pOc : Type := Nat × Int × Int × Int
/-- what a piece gives: the class's extents, the reference's, the class's scopes, the reference's, occurrences, stray returns -/
abbrev pO : Type := List (Int × Int) × List (Int × Int) × List pSc × List pSc × List pOc × List Nat
/-- token, end of what was read, scopes so far, occurrences so far -/
abbrev pS : Type := Nat × Int × Nat × Nat
/-- a fault (code, place), or where it ended and what it gave -/
abbrev pR : Type := (Int × Int) ⊕ (pS × pO)
/-- scope, its sort, its owner, sources around -/
abbrev pC : Type := Int × Int × Int × Nat
def pO0 : pO := ([], [], [], [], [], [])
def pAp (a b : pO) : pO := (a.1 ++ b.1, a.2.1 ++ b.2.1, a.2.2.1 ++ b.2.2.1, a.2.2.2.1 ++ b.2.2.2.1, a.2.2.2.2.1 ++ b.2.2.2.2.1, a.2.2.2.2.2 ++ b.2.2.2.2.2)
def pOk (st : pS) : pR := .inr (st, pO0)
def pOut (o : pO) (st : pS) : pR := .inr (st, o)
def pBd (r : pR) (f : pS → pR) : pR := match r with
  | .inl e => .inl e
  | .inr (st, o) => (match f st with
    | .inl e => .inl e
    | .inr (st2, o2) => .inr (st2, pAp o o2))
def pWr (f : pS → pO → pO) (r : pR) : pR := match r with
  | .inl e => .inl e
  | .inr (st, o) => .inr (st, f st o)
def pX (b : Int) (st : pS) : pR := .inr (st, ([(b, st.2.1)], [(b, st.2.1)], [], [], [], []))
def pXm (b : Int) (st : pS) : pR := .inr (st, ([], [(b, st.2.1)], [], [], [], []))
def pAv (T : List lxT) (st : pS) : pS := (st.1 + 1, if tc T st.1 < 4 ∨ 8 < tc T st.1 then te T st.1 else st.2.1, st.2.2.1, st.2.2.2)
def pTk (T : List lxT) (code : Int) (st : pS) : pR := if tc T st.1 = code then pOk (pAv T st) else .inl (20, tb T st.1)
def pTd (T : List lxT) (code : Int) (nest : Nat) (st : pS) : pR := if tc T st.1 = code then (if 10 ≤ nest then .inl (21, tb T st.1) else pOk (pAv T st)) else .inl (20, tb T st.1)
def pNm (T : List lxT) (role : Int) (c b : Int) (st : pS) : pR := if tc T st.1 = 0 then .inr (((pAv T st).1, (pAv T st).2.1, st.2.2.1, st.2.2.2 + 1), ([], [], [], [], [(st.1, c, b, role)], [])) else .inl (20, tb T st.1)
/-- a new scope's number is taken -/
def pNw (st : pS) : pS := (st.1, st.2.1, st.2.2.1 + 1, st.2.2.2)
/-- does a comprehension begin: the tokens behind the bracket, the depth -/
def pbc : List lxT → Int → Bool
  | [], _ => false
  | x :: r, dp =>
    let e := if x.1 = 40 ∨ x.1 = 91 then dp + 1 else if x.1 = 41 ∨ x.1 = 93 then dp - 1 else dp
    if e < 0 then false else if e = 0 ∧ x.1 = 20 then true else pbc r e
/-- the scope of a def, a class, a lambda, put before those inside -/
def pSd (sort parent : Int) (first from1 : Nat) (st : pS) (o : pO) : pO := (o.1, o.2.1, (sort, parent, -1, (first : Int), (from1 : Int), (st.1 : Int), -1, (st.1 : Int), -1) :: o.2.2.1, (sort, parent, -1, (first : Int), (from1 : Int), (st.1 : Int), -1, (st.1 : Int), -1) :: o.2.2.2.1, o.2.2.2.2.1, o.2.2.2.2.2)
/-- a comprehension's head (up to for) and its tail -/
def pCm (T : List lxT) (c : Int) (first : Nat) (r : pR) (tail : pS → pR) (src : pS → pR) : pR := match r with
  | .inl e => .inl e
  | .inr (s3, o1) => (match tail s3 with
    | .inl e => .inl e
    | .inr (s5, o2) => (match src s5 with
      | .inl e => .inl e
      | .inr (s6, o3) => (match pTk T 93 s6 with
        | .inl e => .inl e
        | .inr (s7, _) =>
          .inr (s7, (o1.1 ++ o3.1, o1.2.1 ++ o3.2.1, (4, c, (s3.2.2.2 : Int), (first : Int), (first : Int) + 1, (s6.1 : Int), (s5.1 : Int), (s6.1 : Int), (s3.1 : Int)) :: (o1.2.2.1 ++ o3.2.2.1), o1.2.2.2.1 ++ (4, c, (s3.2.2.2 : Int), (first : Int), (first : Int) + 1, (s6.1 : Int), (s5.1 : Int), (s6.1 : Int), (s3.1 : Int)) :: o3.2.2.2.1, o1.2.2.2.2.1 ++ (o2.2.2.2.2.1 ++ o3.2.2.2.2.1), o1.2.2.2.2.2 ++ o3.2.2.2.2.2)))))
/-- 0 expr, 1 item, 2 more items, 3 an item without its calls, 4 calls, 5 a call, 6 more arguments, 7 names, 8 more names, 9 a line, 10 a statement, 11 a body, 12 a block's rest, 13 the file -/
def pp (T : List lxT) : Nat → Nat → pC → Nat → Int → pS → pR
  | 0, _, _, _, _, _ => .inl (0, 0)
  | k + 1, tag, ctx, nest, x, st => match tag with
    | 0 => if tc T st.1 = 25 then
        pBd (pTd T 25 nest st) (fun s1 => pBd (pWr (pSd 3 ctx.1 st.1 (st.1 + 1)) (pBd (if tc T (pNw s1).1 = 0 then pp T k 7 ((s1.2.2.1 : Int), 3, (s1.2.2.1 : Int), ctx.2.2.2) nest 18 (pNw s1) else pOk (pNw s1)) (fun s2 => pBd (pTk T 58 s2) (fun s3 => pp T k 0 ((s1.2.2.1 : Int), 3, (s1.2.2.1 : Int), ctx.2.2.2) (nest + 1) 0 s3)))) (fun s4 => pX (tb T st.1) s4))
      else pBd (pp T k 1 ctx nest 0 st) (fun s1 => pBd (pXm (tb T st.1) s1) (fun s2 => pBd (pp T k 2 ctx nest (tb T st.1) s2) (fun s3 => pXm (tb T st.1) s3)))
    | 1 => pBd (pp T k 3 ctx nest 0 st) (fun s1 => pBd (pX (tb T st.1) s1) (fun s2 => pp T k 4 ctx nest (tb T st.1) s2))
    | 2 => if tc T st.1 = 43 then pBd (pTk T 43 st) (fun s1 => pBd (pp T k 1 ctx nest 0 s1) (fun s2 => pBd (pX x s2) (fun s3 => pp T k 2 ctx nest x s3))) else pOk st
    | 3 => if tc T st.1 = 0 then pNm T 1 ctx.1 ctx.1 st
      else if tc T st.1 = 1 then pTk T 1 st
      else if tc T st.1 = 40 then pBd (pTd T 40 nest st) (fun s1 => pBd (if tc T s1.1 = 0 ∧ tc T (s1.1 + 1) = 128 then pBd (pNm T (if 0 < ctx.2.2.2 then 98 else 34) ctx.1 ctx.2.2.1 s1) (fun s2 => pTk T 128 s2) else pOk s1) (fun s3 => pBd (pp T k 0 ctx (nest + 1) 0 s3) (fun s4 => pTk T 41 s4)))
      else if tc T st.1 = 91 then
        (if pbc (T.drop (st.1 + 1)) 0 = true then
          pCm T ctx.1 st.1 (pBd (pTd T 91 nest (pNw st)) (fun s1 => pBd (pp T k 0 ((st.2.2.1 : Int), 4, ctx.2.2.1, ctx.2.2.2) (nest + 1) 0 s1) (fun s2 => pTk T 20 s2))) (fun s3 => pBd (pNm T 2 (st.2.2.1 : Int) (st.2.2.1 : Int) s3) (fun s4 => pTk T 24 s4)) (fun s5 => pp T k 0 (ctx.1, ctx.2.1, ctx.2.2.1, ctx.2.2.2 + 1) (nest + 1) 0 s5)
        else pBd (pTd T 91 nest st) (fun s1 => pBd (pp T k 0 ctx (nest + 1) 0 s1) (fun s2 => pTk T 93 s2)))
      else .inl (20, tb T st.1)
    | 4 => if tc T st.1 = 40 then pBd (pp T k 5 ctx nest 0 st) (fun s1 => pBd (pX x s1) (fun s2 => pp T k 4 ctx nest x s2)) else pOk st
    | 5 => pBd (pTd T 40 nest st) (fun s1 => if tc T s1.1 = 41 then pTk T 41 s1 else pBd (pp T k 0 ctx (nest + 1) 0 s1) (fun s2 => pBd (pp T k 6 ctx nest 0 s2) (fun s3 => pTk T 41 s3)))
    | 6 => if tc T st.1 = 44 then pBd (pTk T 44 st) (fun s1 => pBd (pp T k 0 ctx (nest + 1) 0 s1) (fun s2 => pp T k 6 ctx nest 0 s2)) else pOk st
    | 7 => pBd (pNm T x ctx.1 ctx.1 st) (fun s1 => pp T k 8 ctx nest x s1)
    | 8 => if tc T st.1 = 44 then pBd (pTk T 44 st) (fun s1 => pBd (pNm T x ctx.1 ctx.1 s1) (fun s2 => pp T k 8 ctx nest x s2)) else pOk st
    | 9 => pBd (if tc T st.1 = 27 then pTk T 27 st
        else if tc T st.1 = 21 then pBd (pTk T 21 st) (fun s1 => pp T k 7 ctx nest 4 s1)
        else if tc T st.1 = 26 then pBd (pTk T 26 st) (fun s1 => pp T k 7 ctx nest 8 s1)
        else if tc T st.1 = 18 then pBd (pTk T 18 st) (fun s1 => pNm T 2 ctx.1 ctx.1 s1)
        else if tc T st.1 = 23 then pBd (pTk T 23 st) (fun s1 => pNm T 2 ctx.1 ctx.1 s1)
        else if tc T st.1 = 28 then pBd (pOut ([], [], [], [], [], if ctx.2.1 = 1 then [] else [st.1]) st) (fun s0 => pBd (pTk T 28 s0) (fun s1 => if tc T s1.1 = 4 then pOk s1 else pp T k 0 ctx nest 0 s1))
        else if tc T st.1 = 0 ∧ tc T (st.1 + 1) = 61 then pBd (pNm T 2 ctx.1 ctx.1 st) (fun s1 => pBd (pTk T 61 s1) (fun s2 => pp T k 0 ctx nest 0 s2))
        else pp T k 0 ctx nest 0 st) (fun s1 => pTk T 4 s1)
    | 10 => pBd (if tc T st.1 = 17 then pBd (pTk T 17 st) (fun s1 => pBd (pNm T 2 ctx.1 ctx.1 s1) (fun s2 => pBd (pTk T 40 s2) (fun s3 => pWr (pSd 1 ctx.1 st.1 (st.1 + 2)) (pBd (if tc T (pNw s3).1 = 0 then pp T k 7 ((s3.2.2.1 : Int), 1, (s3.2.2.1 : Int), ctx.2.2.2) nest 18 (pNw s3) else pOk (pNw s3)) (fun s4 => pBd (pTk T 41 s4) (fun s5 => pp T k 11 ((s3.2.2.1 : Int), 1, (s3.2.2.1 : Int), ctx.2.2.2) nest 0 s5))))))
        else if tc T st.1 = 16 then pBd (pTk T 16 st) (fun s1 => pBd (pNm T 2 ctx.1 ctx.1 s1) (fun s2 => pWr (pSd 2 ctx.1 st.1 (st.1 + 2)) (pp T k 11 ((s2.2.2.1 : Int), 2, (s2.2.2.1 : Int), ctx.2.2.2) nest 0 (pNw s2))))
        else if tc T st.1 = 22 then pBd (pTk T 22 st) (fun s1 => pBd (pp T k 0 ctx nest 0 s1) (fun s2 => pBd (pp T k 11 ctx nest 0 s2) (fun s3 => if tc T s3.1 = 19 then pBd (pTk T 19 s3) (fun s4 => pp T k 11 ctx nest 0 s4) else pOk s3)))
        else if tc T st.1 = 29 then pBd (pTk T 29 st) (fun s1 => pBd (pp T k 0 ctx nest 0 s1) (fun s2 => pp T k 11 ctx nest 0 s2))
        else if tc T st.1 = 20 then pBd (pTk T 20 st) (fun s1 => pBd (pNm T 2 ctx.1 ctx.1 s1) (fun s2 => pBd (pTk T 24 s2) (fun s3 => pBd (pp T k 0 ctx nest 0 s3) (fun s4 => pp T k 11 ctx nest 0 s4))))
        else pp T k 9 ctx nest 0 st) (fun s1 => pX (tb T st.1) s1)
    | 11 => pBd (pTd T 58 nest st) (fun s1 => if tc T s1.1 = 4 then pBd (pTk T 4 s1) (fun s2 => pBd (pTk T 5 s2) (fun s3 => pBd (pp T k 10 ctx (nest + 1) 0 s3) (fun s4 => pp T k 12 ctx (nest + 1) 0 s4))) else pp T k 9 ctx (nest + 1) 0 s1)
    | 12 => if tc T st.1 = 6 then pTk T 6 st else pBd (pp T k 10 ctx nest 0 st) (fun s1 => pp T k 12 ctx nest 0 s1)
    | 13 => if tc T st.1 = 7 then pOk st else pBd (pp T k 10 ctx nest 0 st) (fun s1 => pp T k 13 ctx nest 0 s1)
    | _ => .inl (0, 0)
