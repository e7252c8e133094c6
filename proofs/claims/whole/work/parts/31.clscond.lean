/-! The class reads a law: comparisons, units, truths, conditions (printed by wip/src/31gen.py). -/
def tPs (D : Nat) : List Value := [.ref 46, .int (nI (6 - D)), .int 0, ajU]
def uPs (D : Nat) : List Value := [.ref 46, .int (nI (6 - D)), .int 0, ajU, ajU, ajU]
theorem S36_13 {B : Nat → Nat} {L D K : Nat} {f : Nat → PR} (hA : cSpec 37 (uPs D) K B L f) (hf : ∀ x, x ≤ L → pGd L x (f x)) (hK : 1 ≤ K) : ∀ (F d : Nat) (h : ajH) (Q : Option Value → ajH → Prop) (r : PR) (cs : List Int32) (i : Nat) (u2 : Value), K + 1 ≤ d → ajShp h → CT B L h → SC h → pOk r = true → pAt r ≤ L → cs.length + (pCo r).length ≤ pAt r → L < pAt r + F → i + F = 240 → ajI h 2 2 = nI (pAt r) → CL h (cs ++ pCo r) →
    (∀ h', cPost cs (pRow B L sAnd f F r) h h' → Q (some (.int (flg (pOk (pRow B L sAnd f F r))))) h') → ajEv d 36 13 [.ref 46, .int (nI (6 - D)), u2, .int (nI i)] [] h Q := by
  intro F
  induction F with
  | zero => intro d h Q r cs i u2 _ _ _ _ _ h1 _ h2; omega
  | succ F ih =>
    intro d h Q r cs i u2 hd hs ct sc hok h1 h2 h3 h4 ha hc H
    obtain ⟨d, rfl⟩ : ∃ e, d = e + 2 := ⟨d - 2, by omega⟩
    have c2 := ct.2.1
    have h6 := tSk_ge B L (pAt r)
    have h7 := tSk_le B h1
    refine W36_13 hs ?_
    rw [if_neg (by rw [sl_240, sr_le (by omega) (by omega)]; omega)]
    refine S27 hs ct ha h1 (by decide) ?_ ?_
    · intro e1 hlt s1
      refine ⟨_, rfl, ?_⟩
      rw [if_neg (by decide)]
      have hsg : sAnd (tCh B L (tSk B L (pAt r))) = true := by rw [e1]; rfl
      have hg := hf (tSk B L (pAt r) + 1) (by omega)
      have f1 : FR h (ajSI h 2 2 (nI (tSk B L (pAt r) + 1))) P3 := FR_SI h P3_22
      refine hA (d + 1) _ _ (tSk B L (pAt r) + 1) (cs ++ pCo r) (by omega) s1 (CT_P3 ct f1) (SC_P3 sc f1) rfl (by omega) (CL_2 hc) (by rw [List.length_append]; omega) ?_
      intro h2' p2 s2
      refine ⟨_, rfl, ?_⟩
      cases hq : pOk (f (tSk B L (pAt r) + 1)) with
      | false =>
        rw [pRow_bad hsg hq] at H
        rw [if_neg (by decide)]
        exact H h2' ⟨FR_trans f1 p2.1, fun z => by (cases z), fun _ => p2.2.2 hq⟩
      | true =>
        rw [pRow_go hsg hq] at H
        rw [if_pos (by decide)]
        have q2 := p2.2.1 hq
        have g2 := hg.2 hq
        have g2L := hg.1
        refine S33 s2 q2.2 (by rw [List.length_append, List.length_append]; omega) ?_
        intro h3' f3 e2 e3 c3 s3
        refine ⟨rfl, ?_⟩
        have f13 := FR_trans (FR_trans f1 p2.1) f3
        rw [nI_1]
        have e4 : (131072 : Int32) ||| tCh B L (tSk B L (pAt r)) = 131110 := by rw [e1]; rfl
        refine ih (d + 2) h3' Q (true, pAt (f (tSk B L (pAt r) + 1)), pCo r ++ pCo (f (tSk B L (pAt r) + 1)) ++ [131072 ||| tCh B L (tSk B L (pAt r))], fun l => rk (tCh B L (tSk B L (pAt r))) (pVa r l) (pVa (f (tSk B L (pAt r) + 1)) l)) cs (i + 1) _ (by omega) s3 (CT_P3 ct f13) (SC_P3 sc f13) rfl hg.1 ?_ ?_ (by omega) (e2.trans q2.1) ?_ ?_
        · show cs.length + (pCo r ++ pCo (f (tSk B L (pAt r) + 1)) ++ [131072 ||| tCh B L (tSk B L (pAt r))]).length ≤ pAt (f (tSk B L (pAt r) + 1))
          rw [List.length_append, List.length_append, List.length_singleton]
          omega
        · show L < pAt (f (tSk B L (pAt r) + 1)) + F
          omega
        · show CL _ (cs ++ (pCo r ++ pCo (f (tSk B L (pAt r) + 1)) ++ [131072 ||| tCh B L (tSk B L (pAt r))]))
          rw [← List.append_assoc, ← List.append_assoc, e4]
          exact c3
        · intro h' p
          exact H h' (cPost_pre f13 p)
    · intro e1 s1
      refine ⟨_, rfl, ?_⟩
      rw [if_pos rfl]
      have hsg : sAnd (tCh B L (tSk B L (pAt r))) = false := by unfold sAnd; rw [decide_eq_false e1]
      rw [pRow_fail hsg] at H
      exact H _ ⟨FR_SI h P3_22, fun _ => ⟨rfl, CL_2 hc⟩, fun z => by (cases z)⟩

theorem S35_27 {B : Nat → Nat} {L D K : Nat} {f : Nat → PR} (hA : cSpec 36 (tPs D) K B L f) (hf : ∀ x, x ≤ L → pGd L x (f x)) (hK : 1 ≤ K) : ∀ (F d : Nat) (h : ajH) (Q : Option Value → ajH → Prop) (r : PR) (cs : List Int32) (i : Nat) (u2 : Value), K + 1 ≤ d → ajShp h → CT B L h → SC h → pOk r = true → pAt r ≤ L → cs.length + (pCo r).length ≤ pAt r → L < pAt r + F → i + F = 240 → ajI h 2 2 = nI (pAt r) → CL h (cs ++ pCo r) →
    (∀ h', cPost cs (pRow B L sOr f F r) h h' → Q (some (.int (flg (pOk (pRow B L sOr f F r))))) h') → ajEv d 35 27 [.ref 46, .int (nI (6 - D)), u2, .int (nI i)] [] h Q := by
  intro F
  induction F with
  | zero => intro d h Q r cs i u2 _ _ _ _ _ h1 _ h2; omega
  | succ F ih =>
    intro d h Q r cs i u2 hd hs ct sc hok h1 h2 h3 h4 ha hc H
    obtain ⟨d, rfl⟩ : ∃ e, d = e + 2 := ⟨d - 2, by omega⟩
    have c2 := ct.2.1
    have h6 := tSk_ge B L (pAt r)
    have h7 := tSk_le B h1
    refine W35_27 hs ?_
    rw [if_neg (by rw [sl_240, sr_le (by omega) (by omega)]; omega)]
    refine S27 hs ct ha h1 (by decide) ?_ ?_
    · intro e1 hlt s1
      refine ⟨_, rfl, ?_⟩
      rw [if_neg (by decide)]
      have hsg : sOr (tCh B L (tSk B L (pAt r))) = true := by rw [e1]; rfl
      have hg := hf (tSk B L (pAt r) + 1) (by omega)
      have f1 : FR h (ajSI h 2 2 (nI (tSk B L (pAt r) + 1))) P3 := FR_SI h P3_22
      refine hA (d + 1) _ _ (tSk B L (pAt r) + 1) (cs ++ pCo r) (by omega) s1 (CT_P3 ct f1) (SC_P3 sc f1) rfl (by omega) (CL_2 hc) (by rw [List.length_append]; omega) ?_
      intro h2' p2 s2
      refine ⟨_, rfl, ?_⟩
      cases hq : pOk (f (tSk B L (pAt r) + 1)) with
      | false =>
        rw [pRow_bad hsg hq] at H
        rw [if_neg (by decide)]
        exact H h2' ⟨FR_trans f1 p2.1, fun z => by (cases z), fun _ => p2.2.2 hq⟩
      | true =>
        rw [pRow_go hsg hq] at H
        rw [if_pos (by decide)]
        have q2 := p2.2.1 hq
        have g2 := hg.2 hq
        have g2L := hg.1
        refine S33 s2 q2.2 (by rw [List.length_append, List.length_append]; omega) ?_
        intro h3' f3 e2 e3 c3 s3
        refine ⟨rfl, ?_⟩
        have f13 := FR_trans (FR_trans f1 p2.1) f3
        rw [nI_1]
        have e4 : (131072 : Int32) ||| tCh B L (tSk B L (pAt r)) = 131196 := by rw [e1]; rfl
        refine ih (d + 2) h3' Q (true, pAt (f (tSk B L (pAt r) + 1)), pCo r ++ pCo (f (tSk B L (pAt r) + 1)) ++ [131072 ||| tCh B L (tSk B L (pAt r))], fun l => rk (tCh B L (tSk B L (pAt r))) (pVa r l) (pVa (f (tSk B L (pAt r) + 1)) l)) cs (i + 1) _ (by omega) s3 (CT_P3 ct f13) (SC_P3 sc f13) rfl hg.1 ?_ ?_ (by omega) (e2.trans q2.1) ?_ ?_
        · show cs.length + (pCo r ++ pCo (f (tSk B L (pAt r) + 1)) ++ [131072 ||| tCh B L (tSk B L (pAt r))]).length ≤ pAt (f (tSk B L (pAt r) + 1))
          rw [List.length_append, List.length_append, List.length_singleton]
          omega
        · show L < pAt (f (tSk B L (pAt r) + 1)) + F
          omega
        · show CL _ (cs ++ (pCo r ++ pCo (f (tSk B L (pAt r) + 1)) ++ [131072 ||| tCh B L (tSk B L (pAt r))]))
          rw [← List.append_assoc, ← List.append_assoc, e4]
          exact c3
        · intro h' p
          exact H h' (cPost_pre f13 p)
    · intro e1 s1
      refine ⟨_, rfl, ?_⟩
      rw [if_pos rfl]
      have hsg : sOr (tCh B L (tSk B L (pAt r))) = false := by unfold sOr; rw [decide_eq_false e1]
      rw [pRow_fail hsg] at H
      exact H _ ⟨FR_SI h P3_22, fun _ => ⟨rfl, CL_2 hc⟩, fun z => by (cases z)⟩

theorem S36 {B : Nat → Nat} {L D K : Nat} {f : Nat → PR} (hA : cSpec 37 (uPs D) K B L f) (hf : ∀ x, x ≤ L → pGd L x (f x)) (hK : 1 ≤ K) (hD : D ≤ 6) : cSpec 36 (tPs D) (K + 1) B L (fun a => pGo B L sAnd f (f a)) := by
  intro d h Q a cs hd hs ct sc ha hl hc hca H
  obtain ⟨d, rfl⟩ : ∃ e, d = e + 1 := ⟨d - 1, by omega⟩
  have c2 := ct.2.1
  have hg := hf a hl
  refine W36_0 hs ?_
  refine hA d _ _ a cs (by omega) hs ct sc ha hl hc hca ?_
  intro h1 p1 s1
  refine ⟨_, rfl, ?_⟩
  unfold pGo at H
  dsimp only at H
  generalize f a = r at H p1 hg ⊢
  cases hok : pOk r with
  | false =>
    rw [hok, if_neg (by decide)] at H
    rw [if_neg (by decide)]
    rw [hok] at H
    exact H h1 p1
  | true =>
    rw [hok, if_pos rfl] at H
    rw [if_pos (by decide)]
    have q1 := p1.2.1 hok
    have g1 := hg.2 hok
    refine S36_13 hA hf hK 240 (d + 1) _ Q r cs 0 _ (by omega) s1 (CT_P3 ct p1.1) (SC_P3 sc p1.1) hok hg.1 (by omega) (by omega) (by omega) q1.1 q1.2 ?_
    intro h' p
    exact H h' (cPost_pre p1.1 p)

theorem S35 {B : Nat → Nat} {L D K : Nat} {f : Nat → PR} (hA : cSpec 36 (tPs D) K B L f) (hf : ∀ x, x ≤ L → pGd L x (f x)) (hK : 1 ≤ K) (hD : D ≤ 6) : cSpec 35 (tPs D) (K + 1) B L (fun a => pGo B L sOr f (f a)) := by
  intro d h Q a cs hd hs ct sc ha hl hc hca H
  obtain ⟨d, rfl⟩ : ∃ e, d = e + 1 := ⟨d - 1, by omega⟩
  have c2 := ct.2.1
  have hg := hf a hl
  refine W35_0 hs ?_
  rw [if_pos (by rw [sl_6, sr_le (by omega) (by omega)]; omega)]
  refine hA d _ _ a cs (by omega) hs ct sc ha hl hc hca ?_
  intro h1 p1 s1
  refine ⟨_, rfl, ?_⟩
  unfold pGo at H
  dsimp only at H
  generalize f a = r at H p1 hg ⊢
  cases hok : pOk r with
  | false =>
    rw [hok, if_neg (by decide)] at H
    rw [if_neg (by decide)]
    rw [hok] at H
    exact H h1 p1
  | true =>
    rw [hok, if_pos rfl] at H
    rw [if_pos (by decide)]
    have q1 := p1.2.1 hok
    have g1 := hg.2 hok
    refine S35_27 hA hf hK 240 (d + 1) _ Q r cs 0 _ (by omega) s1 (CT_P3 ct p1.1) (SC_P3 sc p1.1) hok hg.1 (by omega) (by omega) (by omega) q1.1 q1.2 ?_
    intro h' p
    exact H h' (cPost_pre p1.1 p)

theorem S34 {d : Nat} {h : ajH} {Q : Option Value → ajH → Prop} {x : Int32} (hs : ajShp h) (H : Q (some (.int (flg (sRel x)))) h) : ajEv d 34 0 [.int x] [] h Q := by
  refine W34_0 hs ?_
  by_cases h1 : x = 61
  · subst h1; rw [if_pos rfl]; exact H
  · rw [if_neg h1]
    by_cases h2 : x = 60
    · subst h2; rw [if_pos rfl]; exact H
    · rw [if_neg h2]
      by_cases h3 : x = 62
      · subst h3; rw [if_neg (fun z => z rfl)]; exact H
      · rw [if_pos h3]
        unfold sRel at H
        rw [decide_eq_false h1, decide_eq_false h2, decide_eq_false h3] at H
        exact H
theorem S38 {B : Nat → Nat} {L D K : Nat} (hS : cSpec 30 (aPs D) K B L (pSum B L D)) {d : Nat} {h : ajH} {Q : Option Value → ajH → Prop} {r : PR} {cs : List Int32} (hd : K + 1 ≤ d) (hs : ajShp h) (ct : CT B L h) (sc : SC h) (hok : pOk r = true) (h1 : pAt r ≤ L) (h2 : cs.length + (pCo r).length ≤ pAt r) (ha : ajI h 2 2 = nI (pAt r)) (hc : CL h (cs ++ pCo r))
    (H : ∀ h', cPost cs (pRel B L D r) h h' → Q (some (.int (flg (pOk (pRel B L D r))))) h') : ajEv d 38 0 [.ref 46, .int (nI (6 - D)), ajU] [] h Q := by
  obtain ⟨d, rfl⟩ : ∃ e, d = e + 1 := ⟨d - 1, by omega⟩
  have c2 := ct.2.1
  have h6 := tSk_ge B L (pAt r)
  have h7 := tSk_le B h1
  refine W38_0 hs ?_
  refine S19 hs ct ha h1 ?_
  intro s1
  refine ⟨_, rfl, ?_⟩
  refine S34 s1 ?_
  intro _
  refine ⟨_, rfl, ?_⟩
  have f1 : FR h (ajSI h 2 2 (nI (tSk B L (pAt r)))) P3 := FR_SI h P3_22
  unfold pRel at H
  rw [hok, if_pos rfl] at H
  cases hsg : sRel (tCh B L (tSk B L (pAt r))) with
  | false =>
    rw [hsg, if_neg (by decide)] at H
    rw [if_neg (by decide)]
    refine S22f (a := tSk B L (pAt r)) (cs := cs) s1 rfl ?_
    intro h4 p4 s4
    exact ⟨_, rfl, Or.inl rfl, H h4 (cPost_pre f1 p4)⟩
  | true =>
    rw [hsg, if_pos rfl] at H
    rw [if_pos (by decide)]
    have hlt : tSk B L (pAt r) < L := by
      by_cases z : tSk B L (pAt r) < L
      · exact z
      · rw [tCh_end (by omega)] at hsg
        cases hsg
    refine S20 s1 (CT_P3 ct f1) rfl hlt ?_
    intro s2
    refine ⟨rfl, ?_⟩
    have hg := pSum_gd (B := B) (L := L) D (tSk B L (pAt r) + 1) (by omega)
    have f2 : FR h (ajSI (ajSI h 2 2 (nI (tSk B L (pAt r)))) 2 2 (nI (tSk B L (pAt r) + 1))) P3 := FR_trans f1 (FR_SI _ P3_22)
    refine hS d _ _ (tSk B L (pAt r) + 1) (cs ++ pCo r) (by omega) s2 (CT_P3 ct f2) (SC_P3 sc f2) rfl (by omega) (CL_2 (CL_2 hc)) (by rw [List.length_append]; omega) ?_
    intro h3 p3 s3
    refine ⟨_, rfl, ?_⟩
    generalize pSum B L D (tSk B L (pAt r) + 1) = q at H p3 hg ⊢
    cases hq : pOk q with
    | false =>
      rw [hq, if_neg (by decide)] at H
      rw [if_neg (by decide)]
      exact H h3 ⟨FR_trans f2 p3.1, fun z => by (cases z), fun _ => p3.2.2 hq⟩
    | true =>
      rw [hq, if_pos rfl] at H
      rw [if_pos (by decide)]
      have q2 := p3.2.1 hq
      have g2 := hg.2 hq
      have g2L := hg.1
      refine S33 s3 q2.2 (by rw [List.length_append, List.length_append]; omega) ?_
      intro h4 f4 e2 e3 c4 s4
      refine ⟨rfl, ?_⟩
      refine H h4 ⟨FR_trans (FR_trans f2 p3.1) f4, fun _ => ⟨e2.trans q2.1, ?_⟩, fun z => by (cases z)⟩
      show CL _ (cs ++ (pCo r ++ pCo q ++ [131072 ||| tCh B L (tSk B L (pAt r))]))
      rw [← List.append_assoc, ← List.append_assoc]
      exact c4
def pNeg (r : PR) : PR := if pOk r = true then (true, pAt r, pCo r ++ [131105], fun l => 1 - pVa r l) else pF (pAt r)
def pNegs : Nat → PR → PR
  | 0, r => r
  | k + 1, r => pNegs k (pNeg r)
theorem pNeg_ok (r : PR) : pOk (pNeg r) = pOk r := by unfold pNeg; cases h : pOk r <;> rfl
theorem pNeg_at (r : PR) : pAt (pNeg r) = pAt r := by unfold pNeg; cases h : pOk r <;> rfl
theorem pNegs_ok : ∀ k r, pOk (pNegs k r) = pOk r
  | 0, _ => rfl
  | k + 1, r => (pNegs_ok k (pNeg r)).trans (pNeg_ok r)
theorem pNegs_at : ∀ k r, pAt (pNegs k r) = pAt r
  | 0, _ => rfl
  | k + 1, r => (pNegs_at k (pNeg r)).trans (pNeg_at r)
theorem cPost_negF {cs : List Int32} {r : PR} {h h' : ajH} {k : Nat} (hr : pOk r = false) (p : cPost cs (pF (pAt r)) h h') : cPost cs (pNegs k r) h h' := by
  refine ⟨p.1, fun z => ?_, fun _ => ?_⟩
  · rw [pNegs_ok, hr] at z; cases z
  · rw [pNegs_at]; exact p.2.2 rfl
/-- the not-signs are laid -/
theorem S37_160 {L D E : Nat} (hD : D ≤ 6) : ∀ (k d : Nat) (h : ajH) (Q : Option Value → ajH → Prop) (r : PR) (cs : List Int32) (j : Nat) (u1 u2 u4 : Value), 1 ≤ d → ajShp h → pOk r = true → pAt r ≤ L → L ≤ 240 → cs.length + (pCo r).length + k ≤ pAt r → j + k = 6 - E → ajI h 2 2 = nI (pAt r) → CL h (cs ++ pCo r) →
    (∀ h', cPost cs (pNegs k r) h h' → Q (some (.int 1)) h') → ajEv d 37 160 [.ref 46, u1, u2, .int (nI (6 - E)), u4, .int (nI j)] [] h Q := by
  intro k
  induction k with
  | zero =>
    intro d h Q r cs j u1 u2 u4 hd hs hok h1 hL h2 h3 ha hc H
    obtain ⟨d, rfl⟩ : ∃ e, d = e + 1 := ⟨d - 1, by omega⟩
    refine W37_160 hs ?_
    rw [if_pos (by rw [sr_le (by omega) (by omega)]; omega)]
    exact H h ⟨FR_refl _ _, fun _ => ⟨ha, hc⟩, fun z => by (unfold pNegs at z; rw [hok] at z; cases z)⟩
  | succ k ih =>
    intro d h Q r cs j u1 u2 u4 hd hs hok h1 hL h2 h3 ha hc H
    obtain ⟨d, rfl⟩ : ∃ e, d = e + 1 := ⟨d - 1, by omega⟩
    refine W37_160 hs ?_
    rw [if_neg (by rw [sr_le (by omega) (by omega)]; omega)]
    refine S33 hs hc (by rw [List.length_append]; omega) ?_
    intro h3' f3 e2 e3 c3 s3
    refine ⟨rfl, ?_⟩
    rw [nI_1]
    have en : pNeg r = (true, pAt r, pCo r ++ [131105], fun l => 1 - pVa r l) := by unfold pNeg; rw [hok, if_pos rfl]
    refine ih (d + 1) h3' Q (pNeg r) cs (j + 1) _ _ _ (by omega) s3 (by rw [en]; rfl) (by rw [en]; exact h1) hL ?_ (by omega) (by rw [en]; exact e2.trans ha) ?_ ?_
    · rw [en]
      show cs.length + (pCo r ++ [131105]).length + k ≤ pAt r
      rw [List.length_append, List.length_singleton]
      omega
    · rw [en]
      show CL h3' (cs ++ (pCo r ++ [131105]))
      rw [← List.append_assoc]
      exact c3
    · intro h' p
      exact H h' (cPost_pre f3 p)
/-- behind the not-signs -/
theorem S37_43 {B : Nat → Nat} {L D : Nat} (hD : D ≤ 6) (hC : ∀ E, E < D → cSpec 35 (tPs E) (12 + 3 * E) B L (fun a => pCon B L (pUnit B L E) (pUnit B L E a))) {E k d a : Nat} {h : ajH} {Q : Option Value → ajH → Prop} {cs : List Int32} (hE : E + k = D) (hd : 10 + 3 * D ≤ d) (hs : ajShp h) (ct : CT B L h) (sc : SC h) (ha : ajI h 2 2 = nI a) (hl : a ≤ L) (hc : CL h cs) (hca : cs.length + k ≤ a) (h33 : ∀ E', E = E' + 1 → ¬ tCh B L (tSk B L a) = 33)
    (H : ∀ h', cPost cs (pNegs k (pUnit B L E a)) h h' → Q (some (.int (flg (pOk (pNegs k (pUnit B L E a)))))) h') {u4 u5 : Value} : ajEv d 37 43 [.ref 46, .int (nI (6 - D)), .int 0, .int (nI (6 - E)), u4, u5] [] h Q := by
  obtain ⟨d, rfl⟩ : ∃ e, d = e + 2 := ⟨d - 2, by omega⟩
  have c2 := ct.2.1
  have h6 := tSk_ge B L a
  have h7 := tSk_le B hl
  refine W37_43 hs ?_
  refine S19 hs ct ha hl ?_
  intro s1
  refine ⟨_, rfl, ?_⟩
  rw [if_neg (by decide)]
  have f1 : FR h (ajSI h 2 2 (nI (tSk B L a))) P3 := FR_SI h P3_22
  have ct1 : CT B L (ajSI h 2 2 (nI (tSk B L a))) := CT_P3 ct f1
  have sc1 := SC_P3 sc f1
  have hc1 : CL (ajSI h 2 2 (nI (tSk B L a))) cs := CL_2 hc
  have ha1 : ajI (ajSI h 2 2 (nI (tSk B L a))) 2 2 = nI (tSk B L a) := rfl
  have H : ∀ h', cPost cs (pNegs k (pUnit B L E a)) (ajSI h 2 2 (nI (tSk B L a))) h' → Q (some (.int (flg (pOk (pNegs k (pUnit B L E a)))))) h' := fun h' p => H h' (cPost_pre f1 p)
  clear hs ct sc ha hc f1
  generalize ajSI h 2 2 (nI (tSk B L a)) = h1 at *
  rw [pNegs_ok] at H
  have hsum := S30D (B := B) (L := L) E (by omega)
  -- a sum, a sign, a sum
  have hcmp : pUnit B L E a = pRel B L E (pSum B L E (tSk B L a)) → ∀ u4 u5 : Value, ajEv (d + 2) 37 135 [.ref 46, .int (nI (6 - D)), .int 0, .int (nI (6 - E)), u4, u5] [] h1 Q := by
    intro hu u4 u5
    rw [hu] at H
    refine W37_135 s1 ?_
    rw [if_neg (by decide)]
    have hg := pSum_gd (B := B) (L := L) E (tSk B L a) h7
    refine hsum (d + 1) _ _ (tSk B L a) cs (by omega) s1 ct1 sc1 ha1 h7 hc1 (by omega) ?_
    intro h2 p2 s2
    refine ⟨_, rfl, ?_⟩
    generalize pSum B L E (tSk B L a) = r at H p2 hg ⊢
    cases hok : pOk r with
    | false =>
      rw [if_pos (by rfl)]
      have er : pRel B L E r = r := by unfold pRel; rw [hok, if_neg (by decide)]
      rw [er, hok] at H
      exact H h2 (cPost_negF hok ⟨p2.1, fun z => by (cases z), fun _ => p2.2.2 hok⟩)
    | true =>
      rw [if_neg (by decide)]
      have q2 := p2.2.1 hok
      have g2 := hg.2 hok
      refine W37_147 s2 ?_
      refine S38 hsum (by omega) s2 (CT_P3 ct1 p2.1) (SC_P3 sc1 p2.1) hok hg.1 (by omega) q2.1 q2.2 ?_
      intro h3 p3 s3
      refine ⟨_, rfl, ?_⟩
      have hg3 := pRel_gd (B := B) (D := E) hg
      generalize pRel B L E r = u at H p3 hg3 ⊢
      cases hu2 : pOk u with
      | false =>
        rw [if_neg (by decide)]
        rw [hu2] at H
        exact H h3 (cPost_negF hu2 ⟨FR_trans p2.1 p3.1, fun z => by (cases z), fun _ => p3.2.2 hu2⟩)
      | true =>
        rw [if_pos (by decide)]
        rw [hu2] at H
        have q3 := p3.2.1 hu2
        have g3 := hg3.2 hu2
        refine S37_160 (L := L) (D := D) (E := E) hD k (d + 2) h3 Q u cs (6 - D) _ _ _ (by omega) s3 hu2 hg3.1 c2 (by omega) (by omega) q3.1 q3.2 ?_
        intro h' p
        exact H h' (cPost_pre (FR_trans p2.1 p3.1) p)
  have hfail : pUnit B L E a = pF (tSk B L a) → ∀ u1 u2 u3 u4 u5 : Value, ajEv (d + 2) 37 76 [.ref 46, u1, u2, u3, u4, u5] [] h1 Q := by
    intro hu _ _ _ _ _
    rw [hu] at H
    refine W37_76 s1 ?_
    refine S22f (a := tSk B L a) (cs := cs) s1 ha1 ?_
    intro h4 p4 s4
    exact ⟨_, rfl, Or.inl rfl, H h4 (cPost_negF rfl p4)⟩
  cases E with
  | zero =>
    have hu := show pUnit B L 0 a = (if tCh B L (tSk B L a) = 33 ∨ tCh B L (tSk B L a) = 40 then pF (tSk B L a) else pRel B L 0 (pSum B L 0 (tSk B L a))) from rfl
    by_cases e1 : tCh B L (tSk B L a) = 33
    · rw [if_pos e1]
      rw [if_pos (Or.inl e1)] at hu
      exact hfail hu _ _ _ _ _
    · rw [if_neg e1]
      by_cases e2 : tCh B L (tSk B L a) = 40
      · rw [if_neg (fun z => z e2), if_neg (by decide)]
        rw [if_pos (Or.inr e2)] at hu
        exact hfail hu _ _ _ _ _
      · rw [if_pos e2]
        rw [if_neg (by rintro (z | z); exact e1 z; exact e2 z)] at hu
        refine W37_84 s1 ?_
        rw [if_neg (by decide), if_pos e2]
        exact hcmp hu _ _
  | succ E =>
    have e1 := h33 E rfl
    rw [if_neg e1]
    have hu := show pUnit B L (E + 1) a = _ from rfl
    conv at hu => rhs; unfold pUnit
    rw [if_neg e1] at hu
    by_cases e2 : tCh B L (tSk B L a) = 40
    · have elt : nI (6 - (E + 1)) < 6 := by rw [sl_6, sr_lt (by omega) (by omega)]; omega
      rw [if_neg (fun z => z e2), if_pos elt]
      rw [if_pos e2] at hu
      have hlt := tCh_lt e2 (by decide)
      refine W37_84 s1 ?_
      rw [if_neg (by decide), if_neg (fun z => z e2)]
      refine S20 s1 ct1 ha1 hlt ?_
      intro s2
      refine ⟨rfl, ?_⟩
      have f2 : FR h1 (ajSI h1 2 2 (nI (tSk B L a + 1))) P3 := FR_SI h1 P3_22
      have e3 : nI (6 - (E + 1)) + 1 = nI (6 - E) := by rw [nI_1]; congr 1; omega
      rw [e3]
      have hg := pCon_gd (B := B) (L := L) (u := pUnit B L E) (fun x hx => pUnit_gd E x hx) (pUnit_gd (B := B) E (tSk B L a + 1) (by omega))
      refine hC E (by omega) (d + 1) _ _ (tSk B L a + 1) cs (by omega) s2 (CT_P3 ct1 f2) (SC_P3 sc1 f2) rfl (by omega) (CL_2 hc1) (by omega) ?_
      dsimp only
      intro h3 p3 s3
      refine ⟨_, rfl, ?_⟩
      generalize pCon B L (pUnit B L E) (pUnit B L E (tSk B L a + 1)) = r at hu p3 hg ⊢
      cases hok : pOk r with
      | false =>
        rw [if_neg (by decide)]
        rw [hok, if_neg (by decide)] at hu
        rw [hu] at H
        exact H h3 (cPost_negF rfl ⟨FR_trans f2 p3.1, fun z => by (cases z), fun _ => p3.2.2 hok⟩)
      | true =>
        rw [if_pos (by decide)]
        rw [hok, if_pos rfl] at hu
        have q3 := p3.2.1 hok
        have g3 := hg.2 hok
        have h9 := tSk_ge B L (pAt r)
        refine S27 s3 (CT_P3 ct1 (FR_trans f2 p3.1)) q3.1 hg.1 (by decide) ?_ ?_
        · intro e4 e5 s4
          refine ⟨_, rfl, ?_⟩
          rw [if_pos (by decide)]
          rw [if_pos e4] at hu
          rw [hu] at H
          refine S37_160 (L := L) (D := D) (E := E + 1) hD k (d + 2) _ Q (true, tSk B L (pAt r) + 1, pCo r, pVa r) cs (6 - D) _ _ _ (by omega) s4 rfl e5 c2 ?_ (by omega) rfl (CL_2 q3.2) ?_
          · show cs.length + (pCo r).length + k ≤ tSk B L (pAt r) + 1
            omega
          · intro h' p
            exact H h' (cPost_pre (FR_trans (FR_trans f2 p3.1) (FR_SI _ P3_22)) p)
        · intro e4 s4
          refine ⟨_, rfl, ?_⟩
          rw [if_neg (by decide)]
          rw [if_neg e4] at hu
          rw [hu] at H
          refine S22f (a := tSk B L (pAt r)) (cs := cs) s4 rfl ?_
          intro h5 p5 s5
          exact ⟨_, rfl, Or.inl rfl, H h5 (cPost_negF rfl (cPost_pre (FR_trans (FR_trans f2 p3.1) (FR_SI _ P3_22)) p5))⟩
    · rw [if_pos e2]
      rw [if_neg e2] at hu
      refine W37_84 s1 ?_
      rw [if_neg (by decide), if_pos e2]
      exact hcmp hu _ _
theorem S37_5 {B : Nat → Nat} {L D : Nat} (hD : D ≤ 6) (hC : ∀ E, E < D → cSpec 35 (tPs E) (12 + 3 * E) B L (fun a => pCon B L (pUnit B L E) (pUnit B L E a))) : ∀ (E k d a : Nat) (h : ajH) (Q : Option Value → ajH → Prop) (cs : List Int32) (u5 : Value), E + k = D → 10 + 3 * D ≤ d → ajShp h → CT B L h → SC h → ajI h 2 2 = nI a → a ≤ L → CL h cs → cs.length + k ≤ a →
    (∀ h', cPost cs (pNegs k (pUnit B L E a)) h h' → Q (some (.int (flg (pOk (pNegs k (pUnit B L E a)))))) h') → ajEv d 37 5 [.ref 46, .int (nI (6 - D)), .int 0, .int (nI (6 - E)), .int (nI k), u5] [] h Q := by
  intro E
  induction E with
  | zero =>
    intro k d a h Q cs u5 hE hd hs ct sc ha hl hc hca H
    obtain ⟨d, rfl⟩ : ∃ e, d = e + 1 := ⟨d - 1, by omega⟩
    refine W37_5 hs ?_
    have hgo : ∀ u5 : Value, ajEv (d + 1) 37 43 [.ref 46, .int (nI (6 - D)), .int 0, .int (nI (6 - 0)), .int (nI k), u5] [] h Q := fun _ => S37_43 hD hC hE hd hs ct sc ha hl hc hca (fun E' e => by omega) H
    by_cases h1 : 6 ≤ k
    · rw [if_pos (by rw [sl_6, sr_le (by omega) (by omega)]; exact h1)]; exact hgo _
    · rw [if_neg (by rw [sl_6, sr_le (by omega) (by omega)]; exact h1), if_pos (by rw [sl_6, sr_le (by omega) (by omega)]; omega)]; exact hgo _
  | succ E ih =>
    intro k d a h Q cs u5 hE hd hs ct sc ha hl hc hca H
    obtain ⟨d, rfl⟩ : ∃ e, d = e + 2 := ⟨d - 2, by omega⟩
    have c2 := ct.2.1
    have h6 := tSk_ge B L a
    have h7 := tSk_le B hl
    refine W37_5 hs ?_
    rw [if_neg (by rw [sl_6, sr_le (by omega) (by omega)]; omega), if_neg (by rw [sl_6, sr_le (by omega) (by omega)]; omega), if_neg (by decide)]
    refine S27 hs ct ha hl (by decide) ?_ ?_
    · intro e1 hlt s1
      refine ⟨_, rfl, ?_⟩
      rw [if_neg (by decide)]
      have f1 : FR h (ajSI h 2 2 (nI (tSk B L a + 1))) P3 := FR_SI h P3_22
      have e2 : nI (6 - (E + 1)) + 1 = nI (6 - E) := by rw [nI_1]; congr 1; omega
      have e3 : nI k + 1 = nI (k + 1) := nI_1 k
      rw [e2, e3]
      have hu : pUnit B L (E + 1) a = pNeg (pUnit B L E (tSk B L a + 1)) := by
        conv => lhs; unfold pUnit
        rw [if_pos e1]; rfl
      rw [hu] at H
      refine ih (k + 1) (d + 2) (tSk B L a + 1) _ Q cs _ (by omega) hd s1 (CT_P3 ct f1) (SC_P3 sc f1) rfl (by omega) (CL_2 hc) (by omega) ?_
      intro h' p
      exact H h' (cPost_pre f1 p)
    · intro e1 s1
      refine ⟨_, rfl, ?_⟩
      rw [if_pos rfl]
      have f1 : FR h (ajSI h 2 2 (nI (tSk B L a))) P3 := FR_SI h P3_22
      have hu : pUnit B L (E + 1) (tSk B L a) = pUnit B L (E + 1) a := by
        unfold pUnit
        rw [tSk_id]
      refine S37_43 (a := tSk B L a) (cs := cs) (k := k) (E := E + 1) hD hC hE hd s1 (CT_P3 ct f1) (SC_P3 sc f1) rfl h7 (CL_2 hc) (by omega) ?_ ?_
      · intro _ _
        rw [tSk_id]; exact e1
      · rw [hu]
        intro h' p
        exact H h' (cPost_pre f1 p)
theorem S37D {B : Nat → Nat} {L : Nat} : ∀ D, D ≤ 6 → cSpec 37 (uPs D) (10 + 3 * D) B L (pUnit B L D) ∧ cSpec 36 (tPs D) (11 + 3 * D) B L (fun a => pTru B L (pUnit B L D) (pUnit B L D a)) ∧ cSpec 35 (tPs D) (12 + 3 * D) B L (fun a => pCon B L (pUnit B L D) (pUnit B L D a)) := by
  intro D
  induction D using Nat.strongRecOn with
  | _ D ih =>
    intro hD
    have hC : ∀ E, E < D → cSpec 35 (tPs E) (12 + 3 * E) B L (fun a => pCon B L (pUnit B L E) (pUnit B L E a)) := fun E hE => (ih E hE (by omega)).2.2
    have h1 : cSpec 37 (uPs D) (10 + 3 * D) B L (pUnit B L D) := by
      intro d h Q a cs hd hs ct sc ha hl hc hca H
      obtain ⟨d, rfl⟩ : ∃ e, d = e + 1 := ⟨d - 1, by omega⟩
      refine W37_0 hs ?_
      exact S37_5 hD hC D 0 (d + 1) a h Q cs _ rfl hd hs ct sc ha hl hc (by omega) H
    have h2 : cSpec 36 (tPs D) (11 + 3 * D) B L (fun a => pTru B L (pUnit B L D) (pUnit B L D a)) := by
      have z := S36 h1 (fun x hx => pUnit_gd D x hx) (by omega) hD
      intro d h Q a cs hd
      exact z d h Q a cs (by omega)
    refine ⟨h1, h2, ?_⟩
    have z := S35 h2 (fun x hx => pTru_gd (fun y hy => pUnit_gd D y hy) (pUnit_gd D x hx)) (by omega) hD
    intro d h Q a cs hd
    exact z d h Q a cs (by omega)
