/-! What texts are, for both sides: where a text can't go on, the orders that a law comes to, and its worth. -/
/-- the text's byte at a, or -1 behind its end -/
def tCh (B : Nat → Nat) (L a : Nat) : Int32 := if a < L then nI (B a) else -1
def tSkf (B : Nat → Nat) : Nat → Nat → Nat
  | 0, a => a
  | f + 1, a => if B a = 32 then tSkf B f (a + 1) else a
/-- the first place from a on that is no blank -/
def tSk (B : Nat → Nat) (L a : Nat) : Nat := tSkf B (L - a) a
def dig (x : Int32) : Prop := 48 ≤ x ∧ x ≤ 57
def digD (x : Int32) : Decidable (dig x) := (inferInstance : Decidable (48 ≤ x ∧ x ≤ 57))
abbrev PR : Type := Bool × Nat × List Int32 × ((Nat → Int32) → Int32)
def pOk (r : PR) : Bool := r.1
def pAt (r : PR) : Nat := r.2.1
def pCo (r : PR) : List Int32 := r.2.2.1
def pVa (r : PR) : (Nat → Int32) → Int32 := r.2.2.2
def pF (a : Nat) : PR := (false, a, [], fun _ => 0)
/-- digits, k at most: where they end, and the number -/
def tNum (B : Nat → Nat) (L : Nat) : Nat → Nat → Nat → Nat × Nat
  | 0, a, v => (a, v)
  | k + 1, a, v => if a < L ∧ 48 ≤ B a ∧ B a ≤ 57 then tNum B L k (a + 1) (v * 10 + (B a - 48)) else (a, v)
def lix (x : Int32) : Int32 := if x = 118 then 0 else if x = 100 then 1 else if x = 111 then 2 else if x = 104 then 3 else if x = 119 then 4 else if x = 116 then 5 else -1
def bnd (z : Int64) : Int32 := (if (if z < (1000000 : Int64) then z else (1000000 : Int64)) < (-1000000 : Int64) then (-1000000 : Int64) else (if z < (1000000 : Int64) then z else (1000000 : Int64))).toInt32
/-- two numbers by a sign -/
def rk (x v w : Int32) : Int32 :=
  if x = 43 then bnd (v.toInt64 + w.toInt64) else if x = 45 then bnd (v.toInt64 - w.toInt64) else if x = 42 then bnd (v.toInt64 * w.toInt64)
  else if x = 47 then bnd (if w.toInt64 = 0 then 0 else v.toInt64 / w.toInt64)
  else if x = 61 then (if v = w then 1 else 0) else if x = 60 then (if v < w then 1 else 0) else if x = 62 then (if w < v then 1 else 0)
  else if x = 38 then (if v = 0 then 0 else if w = 0 then 0 else 1) else (if v = 0 then (if w = 0 then 0 else 1) else 1)
def pAtom (B : Nat → Nat) (L : Nat) (inner : Option (Nat → PR)) (a0 : Nat) : PR :=
  if tSk B L a0 < L ∧ 48 ≤ B (tSk B L a0) ∧ B (tSk B L a0) ≤ 57 then
    if (tNum B L 4 (tSk B L a0) 0).1 < L ∧ 48 ≤ B (tNum B L 4 (tSk B L a0) 0).1 ∧ B (tNum B L 4 (tSk B L a0) 0).1 ≤ 57 then pF (tNum B L 4 (tSk B L a0) 0).1
    else (true, (tNum B L 4 (tSk B L a0) 0).1, [nI (tNum B L 4 (tSk B L a0) 0).2], fun _ => nI (tNum B L 4 (tSk B L a0) 0).2)
  else if ¬ lix (tCh B L (tSk B L a0)) = -1 then (true, tSk B L a0 + 1, [65536 ||| lix (tCh B L (tSk B L a0))], fun l => l (lix (tCh B L (tSk B L a0))).toNatClampNeg)
  else if tCh B L (tSk B L a0) = 91 then match inner with
    | none => pF (tSk B L a0)
    | some f => if pOk (f (tSk B L a0 + 1)) = true then
        (if tCh B L (tSk B L (pAt (f (tSk B L a0 + 1)))) = 93 then (true, tSk B L (pAt (f (tSk B L a0 + 1))) + 1, pCo (f (tSk B L a0 + 1)), pVa (f (tSk B L a0 + 1))) else pF (tSk B L (pAt (f (tSk B L a0 + 1)))))
      else pF (pAt (f (tSk B L a0 + 1)))
  else pF (tSk B L a0)
/-- a row of things by signs: r is what stands so far -/
def pRow (B : Nat → Nat) (L : Nat) (s : Int32 → Bool) (f : Nat → PR) : Nat → PR → PR
  | 0, r => r
  | F + 1, r => if s (tCh B L (tSk B L (pAt r))) = true then
      (if pOk (f (tSk B L (pAt r) + 1)) = true then pRow B L s f F (true, pAt (f (tSk B L (pAt r) + 1)), pCo r ++ pCo (f (tSk B L (pAt r) + 1)) ++ [131072 ||| tCh B L (tSk B L (pAt r))], fun l => rk (tCh B L (tSk B L (pAt r))) (pVa r l) (pVa (f (tSk B L (pAt r) + 1)) l))
       else pF (pAt (f (tSk B L (pAt r) + 1))))
    else (true, tSk B L (pAt r), pCo r, pVa r)
/-- a thing, then a row -/
def pGo (B : Nat → Nat) (L : Nat) (s : Int32 → Bool) (f : Nat → PR) (r : PR) : PR := if pOk r = true then pRow B L s f 240 r else r
def sMul (x : Int32) : Bool := decide (x = 42) || decide (x = 47)
def sAdd (x : Int32) : Bool := decide (x = 43) || decide (x = 45)
def sAnd (x : Int32) : Bool := decide (x = 38)
def sOr (x : Int32) : Bool := decide (x = 124)
def sRel (x : Int32) : Bool := decide (x = 61) || decide (x = 60) || decide (x = 62)
def pTerm (B : Nat → Nat) (L : Nat) (inner : Option (Nat → PR)) (a : Nat) : PR := pGo B L sMul (pAtom B L inner) (pAtom B L inner a)
def pSumO (B : Nat → Nat) (L : Nat) (inner : Option (Nat → PR)) (a : Nat) : PR := pGo B L sAdd (pTerm B L inner) (pTerm B L inner a)
def pSum (B : Nat → Nat) (L : Nat) : Nat → Nat → PR
  | 0 => pSumO B L none
  | D + 1 => pSumO B L (some (pSum B L D))
/-- what follows the first sum r of a comparison -/
def pRel (B : Nat → Nat) (L D : Nat) (r : PR) : PR := if pOk r = true then
    (if sRel (tCh B L (tSk B L (pAt r))) = true then
      (if pOk (pSum B L D (tSk B L (pAt r) + 1)) = true then (true, pAt (pSum B L D (tSk B L (pAt r) + 1)), pCo r ++ pCo (pSum B L D (tSk B L (pAt r) + 1)) ++ [131072 ||| tCh B L (tSk B L (pAt r))], fun l => rk (tCh B L (tSk B L (pAt r))) (pVa r l) (pVa (pSum B L D (tSk B L (pAt r) + 1)) l))
       else pF (pAt (pSum B L D (tSk B L (pAt r) + 1))))
    else pF (tSk B L (pAt r)))
  else r
def pTru (B : Nat → Nat) (L : Nat) (u : Nat → PR) (r : PR) : PR := pGo B L sAnd u r
def pCon (B : Nat → Nat) (L : Nat) (u : Nat → PR) (r : PR) : PR := pGo B L sOr (fun a => pTru B L u (u a)) (pTru B L u r)
def pUnit (B : Nat → Nat) (L : Nat) : Nat → Nat → PR
  | 0, a => if tCh B L (tSk B L a) = 33 ∨ tCh B L (tSk B L a) = 40 then pF (tSk B L a) else pRel B L 0 (pSum B L 0 (tSk B L a))
  | D + 1, a => if tCh B L (tSk B L a) = 33 then
        (if pOk (pUnit B L D (tSk B L a + 1)) = true then (true, pAt (pUnit B L D (tSk B L a + 1)), pCo (pUnit B L D (tSk B L a + 1)) ++ [131105], fun l => 1 - pVa (pUnit B L D (tSk B L a + 1)) l) else pF (pAt (pUnit B L D (tSk B L a + 1))))
      else if tCh B L (tSk B L a) = 40 then
        (if pOk (pCon B L (pUnit B L D) (pUnit B L D (tSk B L a + 1))) = true then
          (if tCh B L (tSk B L (pAt (pCon B L (pUnit B L D) (pUnit B L D (tSk B L a + 1))))) = 41 then (true, tSk B L (pAt (pCon B L (pUnit B L D) (pUnit B L D (tSk B L a + 1)))) + 1, pCo (pCon B L (pUnit B L D) (pUnit B L D (tSk B L a + 1))), pVa (pCon B L (pUnit B L D) (pUnit B L D (tSk B L a + 1)))) else pF (tSk B L (pAt (pCon B L (pUnit B L D) (pUnit B L D (tSk B L a + 1))))))
         else pF (pAt (pCon B L (pUnit B L D) (pUnit B L D (tSk B L a + 1)))))
      else pRel B L (D + 1) (pSum B L (D + 1) (tSk B L a))
/-- a clause: whether it goes, where it ends, its condition (if it has one), its sum -/
abbrev PC : Type := Bool × Nat × Option PR × PR
def cF (a : Nat) : PC := (false, a, none, pF a)
def pTail (B : Nat → Nat) (L : Nat) (r : PR) : PC := if pOk r = true then
    (if tCh B L (tSk B L (pAt r)) = 63 then (pOk (pSum B L 6 (tSk B L (pAt r) + 1)), pAt (pSum B L 6 (tSk B L (pAt r) + 1)), some r, pSum B L 6 (tSk B L (pAt r) + 1)) else cF (tSk B L (pAt r)))
  else cF (pAt r)
def pClz (B : Nat → Nat) (L b : Nat) : PC :=
  if tCh B L (tSk B L b) = 33 ∨ tCh B L (tSk B L b) = 40 then pTail B L (pCon B L (pUnit B L 6) (pUnit B L 6 (tSk B L b)))
  else if pOk (pSum B L 6 (tSk B L b)) = true then
    (if sRel (tCh B L (tSk B L (pAt (pSum B L 6 (tSk B L b))))) = true then pTail B L (pCon B L (pUnit B L 6) (pRel B L 6 (pSum B L 6 (tSk B L b))))
     else (true, tSk B L (pAt (pSum B L 6 (tSk B L b))), none, pSum B L 6 (tSk B L b)))
  else cF (pAt (pSum B L 6 (tSk B L b)))
def pCla (B : Nat → Nat) (L a : Nat) : PC :=
  if tCh B L (tSk B L a) = 121 then (if tCh B L (tSk B L (tSk B L a + 1)) = 58 then pClz B L (tSk B L (tSk B L a + 1) + 1) else cF (tSk B L (tSk B L a + 1))) else cF (tSk B L a)
/-- the orders of a clause that begins at place N -/
def cCo (k : PC) (N : Nat) : List Int32 := match k.2.2.1 with
  | none => pCo k.2.2.2 ++ [262144]
  | some r => pCo r ++ [196608 ||| nI (N + (pCo r).length + 1 + (pCo k.2.2.2).length + 1)] ++ pCo k.2.2.2 ++ [262144]
def cHas (k : PC) (l : Nat → Int32) : Prop := match k.2.2.1 with
  | none => True
  | some r => ¬ pVa r l = 0
def cLen (k : PC) : Nat := (cCo k 0).length
noncomputable def cWo (k : PC) (l : Nat → Int32) (w : Int32) : Int32 := @ite _ (cHas k l) (Classical.propDecidable _) (pVa k.2.2.2 l) w
/-- a law: clause by clause -/
noncomputable def pLaw (B : Nat → Nat) (L : Nat) : Nat → Nat → Nat → PR
  | 0, a, _ => pF a
  | F + 1, a, N => if (pCla B L a).1 = true then
      (if tCh B L (tSk B L (pCla B L a).2.1) = 59 then
        (pOk (pLaw B L F (tSk B L (pCla B L a).2.1 + 1) (N + cLen (pCla B L a))), pAt (pLaw B L F (tSk B L (pCla B L a).2.1 + 1) (N + cLen (pCla B L a))), cCo (pCla B L a) N ++ pCo (pLaw B L F (tSk B L (pCla B L a).2.1 + 1) (N + cLen (pCla B L a))), fun l => cWo (pCla B L a) l (pVa (pLaw B L F (tSk B L (pCla B L a).2.1 + 1) (N + cLen (pCla B L a))) l))
      else if tCh B L (tSk B L (pCla B L a).2.1) = -1 then (true, tSk B L (pCla B L a).2.1, cCo (pCla B L a) N, fun l => cWo (pCla B L a) l 0)
      else pF (tSk B L (pCla B L a).2.1))
    else pF (pCla B L a).2.1
