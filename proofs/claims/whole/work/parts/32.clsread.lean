/-! The class reads a law: clauses, the whole. -/
def pSk (B : Nat → Nat) (L : Nat) (r : PR) : PR := (pOk r, tSk B L (pAt r), pCo r, pVa r)
theorem pRel_sk {B : Nat → Nat} {L D : Nat} {r : PR} (hok : pOk r = true) : pRel B L D (pSk B L r) = pRel B L D r := by
  have e1 : pOk (pSk B L r) = pOk r := rfl
  have e2 : pAt (pSk B L r) = tSk B L (pAt r) := rfl
  have e3 : pCo (pSk B L r) = pCo r := rfl
  have e4 : pVa (pSk B L r) = pVa r := rfl
  unfold pRel
  rw [e1, e2, e3, e4, tSk_id, hok, if_pos rfl, if_pos rfl]
def bPs (D : Nat) : List Value := [.ref 46, .int (nI (6 - D)), .int 1, ajU]
/-- with the first sum read already -/
def bSpec (mi : Nat) (ps : List Value) (K : Nat) (B : Nat → Nat) (L : Nat) (p : PR → PR) : Prop :=
  ∀ (d : Nat) (h : ajH) (Q : Option Value → ajH → Prop) (r : PR) (cs : List Int32), K ≤ d → ajShp h → CT B L h → SC h → pOk r = true → pAt r ≤ L → cs.length + (pCo r).length ≤ pAt r → cs.length < pAt r → ajI h 2 2 = nI (pAt r) → CL h (cs ++ pCo r) →
    (∀ h', cPost cs (p r) h h' → Q (some (.int (flg (pOk (p r))))) h') → ajEv d mi 0 ps [] h Q
theorem S37b {B : Nat → Nat} {L : Nat} : bSpec 37 [.ref 46, .int (nI (6 - 6)), .int 1, ajU, ajU, ajU] 28 B L (pRel B L 6) := by
  intro d h Q r cs hd hs ct sc hok h1 h2 h3 ha hc H
  obtain ⟨d, rfl⟩ : ∃ e, d = e + 1 := ⟨d - 1, by omega⟩
  have c2 := ct.2.1
  have h6 := tSk_ge B L (pAt r)
  have h7 := tSk_le B h1
  refine W37_0 hs ?_
  refine W37_5 hs ?_
  rw [if_neg (by decide), if_neg (by decide), if_pos (by decide)]
  refine W37_43 hs ?_
  refine S19 hs ct ha h1 ?_
  intro s1
  refine ⟨_, rfl, ?_⟩
  rw [if_pos (by decide)]
  have f1 : FR h (ajSI h 2 2 (nI (tSk B L (pAt r)))) P3 := FR_SI h P3_22
  refine W37_84 s1 ?_
  rw [if_pos (by decide)]
  refine W37_135 s1 ?_
  rw [if_pos (by decide)]
  refine W37_147 s1 ?_
  refine S38 (r := pSk B L r) (S30D 6 (by omega)) (by omega) s1 (CT_P3 ct f1) (SC_P3 sc f1) hok h7 (by show cs.length + (pCo r).length ≤ tSk B L (pAt r); omega) rfl (CL_2 hc) ?_
  rw [pRel_sk hok]
  intro h3' p3 s3
  refine ⟨_, rfl, ?_⟩
  cases hu2 : pOk (pRel B L 6 r) with
  | false =>
    rw [if_neg (by decide)]
    rw [hu2] at H
    exact H h3' (cPost_pre f1 p3)
  | true =>
    rw [if_pos (by decide)]
    rw [hu2] at H
    refine W37_160 s3 ?_
    rw [if_pos (by decide)]
    exact H h3' (cPost_pre f1 p3)
theorem S36b {B : Nat → Nat} {L K : Nat} {q : PR → PR} {f : Nat → PR} (hA : bSpec 37 [.ref 46, .int (nI (6 - 6)), .int 1, ajU, ajU, ajU] K B L q) (hA2 : cSpec 37 (uPs 6) K B L f) (hK : 1 ≤ K) (hg : ∀ r a, pGd L a r → pGd L a (q r)) (hf : ∀ x, x ≤ L → pGd L x (f x)) : bSpec 36 (bPs 6) (K + 1) B L (fun r => pGo B L sAnd f (q r)) := by
  intro d h Q r cs hd hs ct sc hok h1 h2 h3 ha hc H
  obtain ⟨d, rfl⟩ : ∃ e, d = e + 1 := ⟨d - 1, by omega⟩
  have c2 := ct.2.1
  refine W36_0 hs ?_
  refine hA d _ _ r cs (by omega) hs ct sc hok h1 h2 h3 ha hc ?_
  intro h1' p1 s1
  refine ⟨_, rfl, ?_⟩
  unfold pGo at H
  dsimp only at H
  have hg := hg r cs.length ⟨h1, fun _ => ⟨h3, h2⟩⟩
  generalize q r = u at H p1 hg ⊢
  cases hu : pOk u with
  | false =>
    rw [hu, if_neg (by decide)] at H
    rw [if_neg (by decide)]
    rw [hu] at H
    exact H h1' p1
  | true =>
    rw [hu, if_pos rfl] at H
    rw [if_pos (by decide)]
    have q1 := p1.2.1 hu
    have g1 := hg.2 hu
    refine S36_13 hA2 hf hK 240 (d + 1) _ Q u cs 0 _ (by omega) s1 (CT_P3 ct p1.1) (SC_P3 sc p1.1) hu hg.1 (by omega) (by omega) (by omega) q1.1 q1.2 ?_
    intro h' p
    exact H h' (cPost_pre p1.1 p)
theorem S35b {B : Nat → Nat} {L K : Nat} {q : PR → PR} {f : Nat → PR} (hA : bSpec 36 (bPs 6) K B L q) (hA2 : cSpec 36 (tPs 6) K B L f) (hK : 1 ≤ K) (hg : ∀ r a, pGd L a r → pGd L a (q r)) (hf : ∀ x, x ≤ L → pGd L x (f x)) : bSpec 35 (bPs 6) (K + 1) B L (fun r => pGo B L sOr f (q r)) := by
  intro d h Q r cs hd hs ct sc hok h1 h2 h3 ha hc H
  obtain ⟨d, rfl⟩ : ∃ e, d = e + 1 := ⟨d - 1, by omega⟩
  have c2 := ct.2.1
  refine W35_0 hs ?_
  rw [if_pos (by decide)]
  refine hA d _ _ r cs (by omega) hs ct sc hok h1 h2 h3 ha hc ?_
  intro h1' p1 s1
  refine ⟨_, rfl, ?_⟩
  unfold pGo at H
  dsimp only at H
  have hg := hg r cs.length ⟨h1, fun _ => ⟨h3, h2⟩⟩
  generalize q r = u at H p1 hg ⊢
  cases hu : pOk u with
  | false =>
    rw [hu, if_neg (by decide)] at H
    rw [if_neg (by decide)]
    rw [hu] at H
    exact H h1' p1
  | true =>
    rw [hu, if_pos rfl] at H
    rw [if_pos (by decide)]
    have q1 := p1.2.1 hu
    have g1 := hg.2 hu
    refine S35_27 hA2 hf hK 240 (d + 1) _ Q u cs 0 _ (by omega) s1 (CT_P3 ct p1.1) (SC_P3 sc p1.1) hu hg.1 (by omega) (by omega) (by omega) q1.1 q1.2 ?_
    intro h' p
    exact H h' (cPost_pre p1.1 p)
theorem S35B {B : Nat → Nat} {L : Nat} : bSpec 35 (bPs 6) 30 B L (fun r => pCon B L (pUnit B L 6) (pRel B L 6 r)) := by
  have u := S37D (B := B) (L := L) 6 (by omega)
  have h1 : bSpec 37 [.ref 46, .int (nI (6 - 6)), .int 1, ajU, ajU, ajU] 28 B L (pRel B L 6) := S37b
  have h2 := S36b h1 u.1 (by omega) (fun r a g => pRel_gd g) (fun x hx => pUnit_gd 6 x hx)
  have h3 := S35b h2 (show cSpec 36 (tPs 6) 29 B L (fun a => pTru B L (pUnit B L 6) (pUnit B L 6 a)) from u.2.1) (by omega) (fun r a g => pTru_gd (fun y hy => pUnit_gd 6 y hy) (pRel_gd g)) (fun x hx => pTru_gd (fun y hy => pUnit_gd 6 y hy) (pUnit_gd 6 x hx))
  exact h3
theorem S35C {B : Nat → Nat} {L : Nat} : cSpec 35 (tPs 6) 30 B L (fun a => pCon B L (pUnit B L 6) (pUnit B L 6 a)) := (S37D 6 (by omega)).2.2
theorem S30C {B : Nat → Nat} {L : Nat} : cSpec 30 (aPs 6) 25 B L (pSum B L 6) := S30D 6 (by omega)
/-! clauses -/
def kGd (L a : Nat) (k : PC) : Prop := k.2.1 ≤ L ∧ (k.1 = true → a + 1 < k.2.1 ∧ a + cLen k ≤ k.2.1)
theorem cLen_eq (k : PC) (N : Nat) : (cCo k N).length = cLen k := by
  unfold cLen cCo
  obtain ⟨x1, x2, x3, x4⟩ := k
  cases x3 with
  | none => rfl
  | some r => dsimp only; rw [List.length_append, List.length_append, List.length_append, List.length_append, List.length_append, List.length_append]; rfl
theorem kGd_F {L a b : Nat} (h : b ≤ L) : kGd L a (cF b) := ⟨h, fun z => by (cases z)⟩
theorem kGd_mono {L a b : Nat} {k : PC} (h : a ≤ b) (g : kGd L b k) : kGd L a k := ⟨g.1, fun z => by have := g.2 z; omega⟩
theorem cLen_none {x : Bool} {y : Nat} {s : PR} : cLen (x, y, none, s) = (pCo s).length + 1 := by
  unfold cLen cCo; dsimp only; rw [List.length_append, List.length_singleton]
theorem cLen_some {x : Bool} {y : Nat} {r s : PR} : cLen (x, y, some r, s) = (pCo r).length + 1 + (pCo s).length + 1 := by
  unfold cLen cCo; dsimp only; rw [List.length_append, List.length_append, List.length_append, List.length_singleton, List.length_singleton]
theorem pTail_gd {B : Nat → Nat} {L a : Nat} {r : PR} (g : pGd L (a + 1) r) : kGd L a (pTail B L r) := by
  unfold pTail
  split
  · rename_i hok
    have g2 := g.2 hok
    have h6 := tSk_ge B L (pAt r)
    have h7 := tSk_le B g.1
    split
    · rename_i h63
      have hlt := tCh_lt h63 (by decide)
      have hg := pSum_gd (B := B) (L := L) 6 (tSk B L (pAt r) + 1) (by omega)
      refine ⟨hg.1, fun z => ?_⟩
      have g3 := hg.2 z
      refine ⟨?_, ?_⟩
      · show a + 1 < pAt (pSum B L 6 (tSk B L (pAt r) + 1))
        omega
      · show a + cLen (_, _, some r, pSum B L 6 (tSk B L (pAt r) + 1)) ≤ pAt (pSum B L 6 (tSk B L (pAt r) + 1))
        rw [cLen_some]
        omega
    · exact kGd_F h7
  · exact kGd_F g.1
theorem pClz_gd {B : Nat → Nat} {L a b : Nat} (h : b ≤ L) (hab : a + 1 ≤ b) : kGd L a (pClz B L b) := by
  have h6 := tSk_ge B L b
  have h7 := tSk_le B h
  have hg := pSum_gd (B := B) (L := L) 6 (tSk B L b) h7
  unfold pClz
  split
  · exact pTail_gd (pGd_mono (by omega) (pCon_gd (fun y hy => pUnit_gd 6 y hy) (pUnit_gd (B := B) 6 (tSk B L b) h7)))
  · split
    · rename_i hok
      have g2 := hg.2 hok
      have h8 := tSk_ge B L (pAt (pSum B L 6 (tSk B L b)))
      have h9 := tSk_le B hg.1
      split
      · exact pTail_gd (pGd_mono (by omega) (pCon_gd (fun y hy => pUnit_gd 6 y hy) (pRel_gd hg)))
      · refine ⟨h9, fun _ => ⟨?_, ?_⟩⟩
        · show a + 1 < tSk B L (pAt (pSum B L 6 (tSk B L b)))
          omega
        · show a + cLen (_, _, none, pSum B L 6 (tSk B L b)) ≤ tSk B L (pAt (pSum B L 6 (tSk B L b)))
          rw [cLen_none]
          omega
    · exact kGd_F hg.1
theorem pCla_gd {B : Nat → Nat} {L a : Nat} (h : a ≤ L) : kGd L a (pCla B L a) := by
  have h6 := tSk_ge B L a
  have h7 := tSk_le B h
  unfold pCla
  split
  · rename_i e1
    have l1 := tCh_lt e1 (by decide)
    have h8 := tSk_ge B L (tSk B L a + 1)
    have h9 := tSk_le B (show tSk B L a + 1 ≤ L by omega)
    split
    · rename_i e2
      have l2 := tCh_lt e2 (by decide)
      exact pClz_gd (by omega) (by omega)
    · exact kGd_F h9
  · exact kGd_F h7
def kPost (cs : List Int32) (k : PC) (h h' : ajH) : Prop := FR h h' P3 ∧ (k.1 = true → ajI h' 2 2 = nI k.2.1 ∧ CL h' (cs ++ cCo k cs.length)) ∧ (k.1 = false → ajI h' 2 3 = nI k.2.1)
theorem kPost_pre {cs : List Int32} {r : PC} {h h1 h' : ajH} (f : FR h h1 P3) (p : kPost cs r h1 h') : kPost cs r h h' := ⟨FR_trans f p.1, p.2⟩
theorem kPost_F {cs : List Int32} {a : Nat} {h h' : ajH} (p : cPost cs (pF a) h h') : kPost cs (cF a) h h' := ⟨p.1, fun z => by (cases z), fun _ => p.2.2 rfl⟩
theorem getD_mid (A C : List Int32) (x y : Int32) (i : Nat) : (A ++ y :: C).getD i 0 = if i = A.length then y else (A ++ x :: C).getD i 0 := by
  rw [List.getD_eq_getElem?_getD, List.getD_eq_getElem?_getD]
  by_cases h : i = A.length
  · subst h; rw [if_pos rfl]; simp
  · rw [if_neg h]
    by_cases h2 : i < A.length
    · rw [List.getElem?_append_left h2, List.getElem?_append_left h2]
    · rw [List.getElem?_append_right (by omega), List.getElem?_append_right (by omega)]
      obtain ⟨j, hj⟩ : ∃ j, i - A.length = j + 1 := ⟨i - A.length - 1, by omega⟩
      rw [hj, List.getElem?_cons_succ, List.getElem?_cons_succ]
theorem S39 {d : Nat} {h : ajH} {Q : Option Value → ajH → Prop} {A C : List Int32} (hs : ajShp h) (c : CL h (A ++ [196608] ++ C)) (hl : (A ++ [196608] ++ C).length ≤ 256) (H : ∀ h', FR h h' P3 → ajI h' 2 2 = ajI h 2 2 → CL h' (A ++ [196608 ||| nI (A ++ [196608] ++ C).length] ++ C) → Q none h') : ajEv d 39 0 [.ref 47, .int (nI A.length)] [] h Q := by
  have hlen : (A ++ [196608] ++ C).length = A.length + 1 + C.length := by rw [List.length_append, List.length_append, List.length_singleton]
  refine W39_0 hs (ajKc rfl) ?_
  rw [c.1, if_neg (by rw [sr_lt0 (by omega)]; exact fun z => z), if_neg (by rw [sr_le (by omega) (by omega)]; omega), sr_in (by omega), sr_N (by omega)]
  refine ⟨by omega, ?_⟩
  rintro _ rfl
  refine H _ (FR_SI h (P := P3) (Or.inr (Or.inr rfl))) rfl ⟨?_, ?_⟩
  · rw [ajI_SI, if_neg (by omega), c.1]
    congr 1
    rw [List.length_append, List.length_append, List.length_append, List.length_append]; rfl
  · intro i hi
    have e0 : ∀ y, (A ++ [y] ++ C).getD i 0 = if i = A.length then y else (A ++ [196608] ++ C).getD i 0 := by
      intro y
      rw [List.append_assoc, List.append_assoc, List.singleton_append, List.singleton_append]
      exact getD_mid A C 196608 y i
    rw [e0, ajI_SI]
    by_cases e : i = A.length
    · rw [if_pos ⟨rfl, e⟩, if_pos e]
    · rw [if_neg (by omega), if_neg e]
      have h1 := c.2 i (by rw [List.length_append, List.length_append, List.length_singleton] at hi ⊢; exact hi)
      exact h1
/-- a condition is read: what follows -/
theorem S29t {B : Nat → Nat} {L d : Nat} {h : ajH} {Q : Option Value → ajH → Prop} {r : PR} {cs : List Int32} {x : Int32} (hd : 31 ≤ d) (hs : ajShp h) (ct : CT B L h) (sc : SC h) (hg : pGd L cs.length r) (hx : x = flg (pOk r)) (hp : (pOk r = true → ajI h 2 2 = nI (pAt r) ∧ CL h (cs ++ pCo r)) ∧ (pOk r = false → ajI h 2 3 = nI (pAt r)))
    (H : ∀ h', kPost cs (pTail B L r) h h' → Q (some (.int (flg (pTail B L r).1))) h') : (if ¬ x = (0 : Int32) then ajEv d 27 0 [.ref 2, .int (63 : Int32)] [] h (fun r h3 => ajShp h3 → ∃ x4, r = some (.int x4) ∧ (if ¬ x4 = (0 : Int32) then ajEv d 33 0 [.ref 47, .int (196608 : Int32)] [] h3 (fun r h5 => ajShp h5 → r = none ∧ ajEv d 30 0 [.ref 46, .int (0 : Int32), ajU, ajU] [] h5 (fun r h6 => ajShp h6 → ∃ x7, r = some (.int x7) ∧ (if ¬ x7 = (0 : Int32) then ajEv d 33 0 [.ref 47, .int (262144 : Int32)] [] h6 (fun r h8 => ajShp h8 → r = none ∧ ajEv d 39 0 [.ref 47, .int (ajI h3 47 3)] [] h8 (fun r h9 => ajShp h9 → r = none ∧ Q (some (.int (1 : Int32))) h9)) else Q (some (.int (0 : Int32))) h6))) else ajEv d 22 0 [.ref 2] [] h3 (fun r h10 => ajShp h10 → ∃ x11, r = some (.int x11) ∧ ((x11 = 0 ∨ x11 = 1) ∧ Q (some (.int x11)) h10)))) else Q (some (.int (0 : Int32))) h) := by
  subst hx
  have c2 := ct.2.1
  obtain ⟨d, rfl⟩ : ∃ e, d = e + 1 := ⟨d - 1, by omega⟩
  unfold pTail at H
  cases hok : pOk r with
  | false =>
    rw [hok, if_neg (by decide)] at H
    rw [if_neg (by decide)]
    exact H h ⟨FR_refl _ _, fun z => by (cases z), fun _ => hp.2 hok⟩
  | true =>
    rw [hok, if_pos rfl] at H
    rw [if_pos (by decide)]
    have q1 := hp.1 hok
    have g1 := hg.2 hok
    have h6 := tSk_ge B L (pAt r)
    have h7 := tSk_le B hg.1
    refine S27 hs ct q1.1 hg.1 (by decide) ?_ ?_
    · intro e1 hlt s1
      refine ⟨_, rfl, ?_⟩
      rw [if_pos (by decide)]
      rw [if_pos e1] at H
      have f1 : FR h (ajSI h 2 2 (nI (tSk B L (pAt r) + 1))) P3 := FR_SI h P3_22
      have hS := pSum_gd (B := B) (L := L) 6 (tSk B L (pAt r) + 1) (by omega)
      refine S33 s1 (CL_2 q1.2) (by rw [List.length_append]; omega) ?_
      intro h2 f2 e2 e3 k2 s2
      refine ⟨rfl, ?_⟩
      have f12 := FR_trans f1 f2
      refine S30C (d + 1) _ _ (tSk B L (pAt r) + 1) _ (by omega) s2 (CT_P3 ct f12) (SC_P3 sc f12) e2 (by omega) k2 (by rw [List.length_append, List.length_append, List.length_singleton]; omega) ?_
      intro h3 p3 s3
      refine ⟨_, rfl, ?_⟩
      generalize pSum B L 6 (tSk B L (pAt r) + 1) = s at H p3 hS ⊢
      cases hsk : pOk s with
      | false =>
        rw [hsk] at H
        rw [if_neg (by decide)]
        exact H h3 ⟨FR_trans f12 p3.1, fun z => by (cases z), fun _ => p3.2.2 hsk⟩
      | true =>
        rw [hsk] at H
        rw [if_pos (by decide)]
        have q3 := p3.2.1 hsk
        have g3 := hS.2 hsk
        have g3L := hS.1
        refine S33 s3 q3.2 (by rw [List.length_append, List.length_append, List.length_append, List.length_singleton]; omega) ?_
        intro h4 f4 e4 e5 k4 s4
        refine ⟨rfl, ?_⟩
        have ej : ajI (ajSI h 2 2 (nI (tSk B L (pAt r) + 1))) 47 3 = nI (cs ++ pCo r).length := q1.2.1
        rw [ej]
        have k5 : CL h4 ((cs ++ pCo r) ++ [196608] ++ (pCo s ++ [262144])) := by rw [← List.append_assoc]; exact k4
        refine S39 s4 k5 (by rw [List.length_append, List.length_append, List.length_append, List.length_append, List.length_singleton, List.length_singleton]; omega) ?_
        intro h5 f5 e6 k6 s5
        refine ⟨rfl, ?_⟩
        refine H h5 ⟨FR_trans (FR_trans (FR_trans f12 p3.1) f4) f5, fun _ => ⟨e6.trans (e4.trans q3.1), ?_⟩, fun z => by (cases z)⟩
        have ec : cs ++ cCo (true, pAt s, some r, s) cs.length = (cs ++ pCo r) ++ [196608 ||| nI ((cs ++ pCo r) ++ [196608] ++ (pCo s ++ [262144])).length] ++ (pCo s ++ [262144]) := by
          have el : ((cs ++ pCo r) ++ [196608] ++ (pCo s ++ [262144])).length = cs.length + (pCo r).length + 1 + (pCo s).length + 1 := by
            rw [List.length_append, List.length_append, List.length_append, List.length_append, List.length_singleton, List.length_singleton]
            omega
          rw [el]
          unfold cCo
          dsimp only
          rw [List.append_assoc, List.append_assoc, List.append_assoc, List.append_assoc]
        rw [ec]
        exact k6
    · intro e1 s1
      refine ⟨_, rfl, ?_⟩
      rw [if_neg (by decide)]
      rw [if_neg e1] at H
      refine S22f (a := tSk B L (pAt r)) (cs := cs) s1 rfl ?_
      intro h4 p4 s4
      exact ⟨_, rfl, Or.inl rfl, H h4 (kPost_F (cPost_pre (FR_SI h P3_22) p4))⟩
theorem S29 {B : Nat → Nat} {L d a : Nat} {h : ajH} {Q : Option Value → ajH → Prop} {cs : List Int32} (hd : 32 ≤ d) (hs : ajShp h) (ct : CT B L h) (sc : SC h) (ha : ajI h 2 2 = nI a) (hl : a ≤ L) (hc : CL h cs) (hca : cs.length ≤ a)
    (H : ∀ h', kPost cs (pCla B L a) h h' → Q (some (.int (flg (pCla B L a).1))) h') : ajEv d 29 0 [.ref 46, ajU, ajU, ajU] [] h Q := by
  obtain ⟨d, rfl⟩ : ∃ e, d = e + 2 := ⟨d - 2, by omega⟩
  have c2 := ct.2.1
  have h6 := tSk_ge B L a
  have h7 := tSk_le B hl
  have hfail : ∀ (h1 : ajH) (b : Nat), ajShp h1 → FR h h1 P3 → ajI h1 2 2 = nI b → pCla B L a = cF b → ∀ u1 u2 u3 : Value, ajEv (d + 2) 29 24 [.ref 46, u1, u2, u3] [] h1 Q := by
    intro h1 b s1 f1 e1 e2 _ _ _
    rw [e2] at H
    refine W29_24 s1 ?_
    refine S22f (a := b) (cs := cs) s1 e1 ?_
    intro h4 p4 s4
    exact ⟨_, rfl, Or.inl rfl, H h4 (kPost_F (cPost_pre f1 p4))⟩
  refine W29_0 hs ?_
  unfold pCla at H hfail
  refine S27 hs ct ha hl (by decide) ?_ ?_
  · intro e1 l1 s1
    refine ⟨_, rfl, ?_⟩
    rw [if_neg (by decide)]
    rw [if_pos e1] at H hfail
    have f1 : FR h (ajSI h 2 2 (nI (tSk B L a + 1))) P3 := FR_SI h P3_22
    have h8 := tSk_ge B L (tSk B L a + 1)
    have h9 := tSk_le B (show tSk B L a + 1 ≤ L by omega)
    refine S27 (a := tSk B L a + 1) s1 (CT_P3 ct f1) rfl (by omega) (by decide) ?_ ?_
    · intro e2 l2 s2
      refine ⟨_, rfl, ?_⟩
      rw [if_pos (by decide)]
      rw [if_pos e2] at H
      have f2 : FR h (ajSI (ajSI h 2 2 (nI (tSk B L a + 1))) 2 2 (nI (tSk B L (tSk B L a + 1) + 1))) P3 := FR_trans f1 (FR_SI _ P3_22)
      have hca2 : cs.length + 1 ≤ tSk B L (tSk B L a + 1) + 1 := by omega
      have hlb : tSk B L (tSk B L a + 1) + 1 ≤ L := by omega
      have ct2 := CT_P3 ct f2
      have sc2 := SC_P3 sc f2
      have hc2 : CL (ajSI (ajSI h 2 2 (nI (tSk B L a + 1))) 2 2 (nI (tSk B L (tSk B L a + 1) + 1))) cs := CL_2 (CL_2 hc)
      have ha2 : ajI (ajSI (ajSI h 2 2 (nI (tSk B L a + 1))) 2 2 (nI (tSk B L (tSk B L a + 1) + 1))) 2 2 = nI (tSk B L (tSk B L a + 1) + 1) := rfl
      have H : ∀ h', kPost cs (pClz B L (tSk B L (tSk B L a + 1) + 1)) (ajSI (ajSI h 2 2 (nI (tSk B L a + 1))) 2 2 (nI (tSk B L (tSk B L a + 1) + 1))) h' → Q (some (.int (flg (pClz B L (tSk B L (tSk B L a + 1) + 1)).1))) h' := fun h' p => H h' (kPost_pre f2 p)
      generalize tSk B L (tSk B L a + 1) + 1 = b at *
      generalize ajSI (ajSI h 2 2 (nI (tSk B L a + 1))) 2 2 (nI b) = h2 at *
      clear hfail f1 f2
      have h10 := tSk_ge B L b
      have h11 := tSk_le B hlb
      refine S19 s2 ct2 ha2 hlb ?_
      intro s3
      refine ⟨_, rfl, ?_⟩
      have f3 : FR h2 (ajSI h2 2 2 (nI (tSk B L b))) P3 := FR_SI h2 P3_22
      have ct3 := CT_P3 ct2 f3
      have sc3 := SC_P3 sc2 f3
      have hc3 : CL (ajSI h2 2 2 (nI (tSk B L b))) cs := CL_2 hc2
      unfold pClz at H
      have hcond : (tCh B L (tSk B L b) = 33 ∨ tCh B L (tSk B L b) = 40) → ∀ u1 u2 u3 : Value, ajEv (d + 2) 29 57 [.ref 46, u1, u2, u3] [.int (0 : Int32)] (ajSI h2 2 2 (nI (tSk B L b))) Q := by
        intro e _ _ _
        rw [if_pos e] at H
        refine W29_57 s3 ?_
        rw [if_pos rfl]
        refine W29_96 s3 ?_
        have hg := pCon_gd (B := B) (L := L) (u := pUnit B L 6) (fun y hy => pUnit_gd 6 y hy) (pUnit_gd (B := B) 6 (tSk B L b) h11)
        refine S35C (d + 1) _ _ (tSk B L b) cs (by omega) s3 ct3 sc3 rfl h11 hc3 (by omega) ?_
        dsimp only
        intro h4 p4 s4
        refine ⟨_, rfl, ?_⟩
        exact S29t (by omega) s4 (CT_P3 ct3 p4.1) (SC_P3 sc3 p4.1) (pGd_mono (by omega) hg) rfl p4.2 (fun h' p => H h' (kPost_pre (FR_trans f3 p4.1) p))
      by_cases e3 : tCh B L (tSk B L b) = 33
      · rw [if_pos e3]; exact hcond (Or.inl e3) _ _ _
      · rw [if_neg e3]
        by_cases e4 : tCh B L (tSk B L b) = 40
        · rw [if_pos e4]; exact hcond (Or.inr e4) _ _ _
        · rw [if_neg e4]
          clear hcond
          rw [if_neg (by rintro (z | z); exact e3 z; exact e4 z)] at H
          refine W29_57 s3 ?_
          rw [if_neg (by decide)]
          have hg := pSum_gd (B := B) (L := L) 6 (tSk B L b) h11
          refine S30C (d + 1) _ _ (tSk B L b) cs (by omega) s3 ct3 sc3 rfl h11 hc3 (by omega) ?_
          intro h4 p4 s4
          refine ⟨_, rfl, ?_⟩
          generalize pSum B L 6 (tSk B L b) = s at H p4 hg ⊢
          have f4 := FR_trans f3 p4.1
          cases hok : pOk s with
          | false =>
            rw [hok, if_neg (by decide)] at H
            rw [if_neg (by decide)]
            exact H h4 ⟨f4, fun z => by (cases z), fun _ => p4.2.2 hok⟩
          | true =>
            rw [hok, if_pos rfl] at H
            rw [if_pos (by decide)]
            have q4 := p4.2.1 hok
            have g4 := hg.2 hok
            have h12 := tSk_ge B L (pAt s)
            have h13 := tSk_le B hg.1
            refine S19 s4 (CT_P3 ct2 f4) q4.1 hg.1 ?_
            intro s5
            refine ⟨_, rfl, ?_⟩
            refine S34 s5 ?_
            intro _
            refine ⟨_, rfl, ?_⟩
            have f5 : FR h2 (ajSI h4 2 2 (nI (tSk B L (pAt s)))) P3 := FR_trans f4 (FR_SI _ P3_22)
            cases hr : sRel (tCh B L (tSk B L (pAt s))) with
            | true =>
              rw [hr, if_pos rfl] at H
              rw [if_pos (by decide)]
              refine W29_96 s5 ?_
              have hg2 := pCon_gd (B := B) (L := L) (u := pUnit B L 6) (fun y hy => pUnit_gd 6 y hy) (pRel_gd (B := B) (D := 6) hg)
              refine S35B (d + 1) _ _ (pSk B L s) cs (by omega) s5 (CT_P3 ct2 f5) (SC_P3 sc2 f5) hok h13 (by show cs.length + (pCo s).length ≤ tSk B L (pAt s); omega) (by show cs.length < tSk B L (pAt s); omega) rfl (CL_2 q4.2) ?_
              dsimp only
              rw [pRel_sk hok]
              intro h6' p6 s6
              refine ⟨_, rfl, ?_⟩
              exact S29t (by omega) s6 (CT_P3 ct2 (FR_trans f5 p6.1)) (SC_P3 sc2 (FR_trans f5 p6.1)) (pGd_mono (by omega) hg2) rfl p6.2 (fun h' p => H h' (kPost_pre (FR_trans f5 p6.1) p))
            | false =>
              rw [hr, if_neg (by decide)] at H
              rw [if_neg (by decide)]
              refine S33 s5 (CL_2 q4.2) (by rw [List.length_append]; omega) ?_
              intro h6' f6 e6 e7 k6 s6
              refine ⟨rfl, ?_⟩
              refine H h6' ⟨FR_trans f5 f6, fun _ => ⟨e6, ?_⟩, fun z => by (cases z)⟩
              show CL h6' (cs ++ (pCo s ++ [262144]))
              rw [← List.append_assoc]
              exact k6
    · intro e2 s2
      refine ⟨_, rfl, ?_⟩
      rw [if_neg (by decide)]
      rw [if_neg e2] at hfail
      exact hfail _ (tSk B L (tSk B L a + 1)) s2 (FR_trans f1 (FR_SI _ P3_22)) rfl rfl _ _ _
  · intro e1 s1
    refine ⟨_, rfl, ?_⟩
    rw [if_pos rfl]
    rw [if_neg e1] at hfail
    exact hfail _ (tSk B L a) s1 (FR_SI h P3_22) rfl rfl _ _ _
theorem S28_19 {B : Nat → Nat} {L : Nat} : ∀ (F d : Nat) (h : ajH) (Q : Option Value → ajH → Prop) (a : Nat) (cs : List Int32) (i : Nat), 33 ≤ d → ajShp h → CT B L h → SC h → ajI h 2 2 = nI a → a ≤ L → CL h cs → cs.length ≤ a → 2 * i ≤ a → i + F = 240 →
    (∀ h', cPost cs (pLaw B L F a cs.length) h h' → Q (some (.int (flg (pOk (pLaw B L F a cs.length))))) h') → ajEv d 28 19 [.ref 46, .int 1, .int (nI i)] [] h Q := by
  intro F
  induction F with
  | zero => intro d h Q a cs i hd hs ct sc ha hl hc hca h2 h3 H; have := ct.2.1; omega
  | succ F ih =>
    intro d h Q a cs i hd hs ct sc ha hl hc hca h2 h3 H
    obtain ⟨d, rfl⟩ : ∃ e, d = e + 2 := ⟨d - 2, by omega⟩
    have c2 := ct.2.1
    refine W28_19 hs ?_
    rw [if_neg (by decide), if_neg (by rw [sl_240, sr_le (by omega) (by omega)]; omega)]
    have hg := pCla_gd (B := B) hl
    refine S29 (by omega) hs ct sc ha hl hc hca ?_
    intro h1 p1 s1
    refine ⟨_, rfl, ?_⟩
    unfold pLaw at H
    generalize pCla B L a = k at H p1 hg ⊢
    cases hk : k.1 with
    | false =>
      rw [hk, if_neg (by decide)] at H
      rw [if_neg (by decide)]
      exact H h1 ⟨p1.1, fun z => by (cases z), fun _ => p1.2.2 hk⟩
    | true =>
      rw [hk, if_pos rfl] at H
      rw [if_pos (by decide)]
      have q1 := p1.2.1 hk
      have g1 := hg.2 hk
      have h6 := tSk_ge B L k.2.1
      have h7 := tSk_le B hg.1
      refine S27 s1 (CT_P3 ct p1.1) q1.1 hg.1 (by decide) ?_ ?_
      · intro e1 l1 s2
        refine ⟨_, rfl, ?_⟩
        rw [if_pos e1] at H
        have f2 : FR h (ajSI h1 2 2 (nI (tSk B L k.2.1 + 1))) P3 := FR_trans p1.1 (FR_SI _ P3_22)
        rw [nI_1]
        refine ih (d + 2) _ Q (tSk B L k.2.1 + 1) (cs ++ cCo k cs.length) (i + 1) hd s2 (CT_P3 ct f2) (SC_P3 sc f2) rfl (by omega) (CL_2 q1.2) (by rw [List.length_append, cLen_eq]; omega) (by omega) (by omega) ?_
        rw [List.length_append, cLen_eq]
        intro h' p
        refine H h' ⟨FR_trans f2 p.1, fun z => ?_, p.2.2⟩
        have z2 := p.2.1 z
        refine ⟨z2.1, ?_⟩
        show CL h' (cs ++ (cCo k cs.length ++ _))
        rw [← List.append_assoc]
        exact z2.2
      · intro e1 s2
        refine ⟨_, rfl, ?_⟩
        rw [if_neg e1] at H
        have f2 : FR h (ajSI h1 2 2 (nI (tSk B L k.2.1))) P3 := FR_trans p1.1 (FR_SI _ P3_22)
        refine W28_19 s2 ?_
        rw [if_pos rfl]
        refine W28_55 s2 ?_
        refine S19 s2 (CT_P3 ct f2) rfl h7 ?_
        rw [tSk_id, ajSI_SI]
        intro s3
        refine ⟨_, rfl, ?_⟩
        by_cases e2 : tCh B L (tSk B L k.2.1) = -1
        · rw [if_pos e2] at H ⊢
          exact H _ ⟨f2, fun _ => ⟨rfl, CL_2 q1.2⟩, fun z => by (cases z)⟩
        · rw [if_neg e2] at H ⊢
          refine S22f (a := tSk B L k.2.1) (cs := cs) s3 rfl ?_
          intro h4 p4 s4
          refine ⟨_, rfl, ?_⟩
          rw [if_pos rfl]
          exact H h4 (cPost_pre f2 p4)
theorem S28 {B : Nat → Nat} {L d : Nat} {h : ajH} {Q : Option Value → ajH → Prop} (hd : 33 ≤ d) (hs : ajShp h) (ct : CT B L h) (sc : SC h)
    (H : ∀ h', cPost [] (pLaw B L 240 0 0) h h' → Q (some (.int (flg (pOk (pLaw B L 240 0 0))))) h') : ajEv d 28 0 [.ref 46, ajU, ajU] [] h Q := by
  obtain ⟨d, rfl⟩ : ∃ e, d = e + 1 := ⟨d - 1, by omega⟩
  refine W28_0 hs ?_
  rintro _ rfl
  refine W18_0 hs ?_
  rintro _ rfl _ rfl
  intro s2
  refine ⟨rfl, ?_⟩
  have f2 : FR h (ajSI (ajSI (ajSI h 47 3 0) 2 2 0) 2 3 (-1)) P3 := FR_trans (FR_trans (FR_SI h (P := P3) (Or.inr (Or.inl ⟨rfl, rfl⟩))) (FR_SI _ P3_22)) (FR_SI _ P3_23)
  refine S28_19 240 (d + 1) _ Q 0 [] 0 hd s2 (CT_P3 ct f2) (SC_P3 sc f2) rfl (Nat.zero_le _) ⟨rfl, fun i hi => by cases hi⟩ (Nat.le_refl _) (Nat.le_refl _) (by omega) ?_
  intro h' p
  exact H h' (cPost_pre f2 p)
