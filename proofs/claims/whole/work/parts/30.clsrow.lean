/-! The class reads a law: rows by signs, conditions (printed by wip/src/30gen.py). -/
theorem pRow_fail {B : Nat → Nat} {L : Nat} {s : Int32 → Bool} {f : Nat → PR} {F : Nat} {r : PR} (h : s (tCh B L (tSk B L (pAt r))) = false) : pRow B L s f (F + 1) r = (true, tSk B L (pAt r), pCo r, pVa r) := by
  unfold pRow; rw [h, if_neg (by decide)]
theorem pRow_bad {B : Nat → Nat} {L : Nat} {s : Int32 → Bool} {f : Nat → PR} {F : Nat} {r : PR} (h : s (tCh B L (tSk B L (pAt r))) = true) (q : pOk (f (tSk B L (pAt r) + 1)) = false) : pRow B L s f (F + 1) r = pF (pAt (f (tSk B L (pAt r) + 1))) := by
  unfold pRow; rw [h, if_pos rfl, q, if_neg (by decide)]
theorem pRow_go {B : Nat → Nat} {L : Nat} {s : Int32 → Bool} {f : Nat → PR} {F : Nat} {r : PR} (h : s (tCh B L (tSk B L (pAt r))) = true) (q : pOk (f (tSk B L (pAt r) + 1)) = true) : pRow B L s f (F + 1) r = pRow B L s f F (true, pAt (f (tSk B L (pAt r) + 1)), pCo r ++ pCo (f (tSk B L (pAt r) + 1)) ++ [131072 ||| tCh B L (tSk B L (pAt r))], fun l => rk (tCh B L (tSk B L (pAt r))) (pVa r l) (pVa (f (tSk B L (pAt r) + 1)) l)) := by
  conv => lhs; unfold pRow
  rw [h, if_pos rfl, q, if_pos rfl]
theorem P3_22 : P3 2 2 := Or.inl ⟨rfl, Or.inl rfl⟩
theorem P3_23 : P3 2 3 := Or.inl ⟨rfl, Or.inr rfl⟩
theorem S31_20 {B : Nat → Nat} {L D K : Nat} {f : Nat → PR} (hA : cSpec 32 (aPs D) K B L f) (hf : ∀ x, x ≤ L → pGd L x (f x)) : ∀ (F d : Nat) (h : ajH) (Q : Option Value → ajH → Prop) (r : PR) (cs : List Int32) (i : Nat), K + 1 ≤ d → ajShp h → CT B L h → SC h → pOk r = true → pAt r ≤ L → cs.length + (pCo r).length ≤ pAt r → L < pAt r + F → i + F = 240 → ajI h 2 2 = nI (tSk B L (pAt r)) → CL h (cs ++ pCo r) →
    (∀ h', cPost cs (pRow B L sMul f F r) h h' → Q (some (.int (flg (pOk (pRow B L sMul f F r))))) h') → ajEv d 31 20 [.ref 46, .int (nI (6 - D)), .int (tCh B L (tSk B L (pAt r))), .int (nI i)] [] h Q := by
  intro F
  induction F with
  | zero => intro d h Q r cs i _ _ _ _ _ h1 _ h2; omega
  | succ F ih =>
    intro d h Q r cs i hd hs ct sc hok h1 h2 h3 h4 ha hc H
    obtain ⟨d, rfl⟩ : ∃ e, d = e + 1 := ⟨d - 1, by omega⟩
    have c2 := ct.2.1
    have h6 := tSk_ge B L (pAt r)
    have h7 := tSk_le B h1
    refine W31_20 hs ?_
    rw [if_neg (by rw [sl_240, sr_le (by omega) (by omega)]; omega)]
    have hbody : sMul (tCh B L (tSk B L (pAt r))) = true → ajEv (d + 1) 31 39 [.ref 46, .int (nI (6 - D)), .int (tCh B L (tSk B L (pAt r))), .int (nI i)] [] h Q := by
      intro hsg
      have hlt : tSk B L (pAt r) < L := by
        by_cases z : tSk B L (pAt r) < L
        · exact z
        · rw [tCh_end (by omega)] at hsg
          cases hsg
      have hg := hf (tSk B L (pAt r) + 1) (by omega)
      refine W31_39 hs ?_
      refine S20 hs ct ha hlt ?_
      intro s1
      refine ⟨rfl, ?_⟩
      have f1 : FR h (ajSI h 2 2 (nI (tSk B L (pAt r) + 1))) P3 := FR_SI h P3_22
      refine hA d _ _ (tSk B L (pAt r) + 1) (cs ++ pCo r) (by omega) s1 (CT_P3 ct f1) (SC_P3 sc f1) rfl (by omega) (CL_2 hc) (by rw [List.length_append]; omega) ?_
      intro h2' p2 s2
      refine ⟨_, rfl, ?_⟩
      cases hq : pOk (f (tSk B L (pAt r) + 1)) with
      | false =>
        rw [pRow_bad hsg hq] at H
        rw [if_neg (by decide)]
        exact H h2' ⟨FR_trans f1 p2.1, fun z => by (cases z), fun _ => p2.2.2 hq⟩
      | true =>
        rw [pRow_go hsg hq] at H
        rw [if_pos (by decide)]
        have q2 := p2.2.1 hq
        have g2 := hg.2 hq
        have g2L := hg.1
        refine S33 s2 q2.2 (by rw [List.length_append, List.length_append]; omega) ?_
        intro h3' f3 e2 e3 c3 s3
        refine ⟨rfl, ?_⟩
        have f13 := FR_trans (FR_trans f1 p2.1) f3
        refine S19 (a := pAt (f (tSk B L (pAt r) + 1))) s3 (CT_P3 ct f13) (e2.trans q2.1) hg.1 ?_
        intro s4
        refine ⟨_, rfl, ?_⟩
        have f4 : FR h (ajSI h3' 2 2 (nI (tSk B L (pAt (f (tSk B L (pAt r) + 1)))))) P3 := FR_trans f13 (FR_SI _ P3_22)
        rw [nI_1]
        refine ih (d + 1) (ajSI h3' 2 2 (nI (tSk B L (pAt (f (tSk B L (pAt r) + 1)))))) Q (true, pAt (f (tSk B L (pAt r) + 1)), pCo r ++ pCo (f (tSk B L (pAt r) + 1)) ++ [131072 ||| tCh B L (tSk B L (pAt r))], fun l => rk (tCh B L (tSk B L (pAt r))) (pVa r l) (pVa (f (tSk B L (pAt r) + 1)) l)) cs (i + 1) (by omega) s4 (CT_P3 ct f4) (SC_P3 sc f4) rfl hg.1 ?_ ?_ (by omega) rfl ?_ ?_
        · show cs.length + (pCo r ++ pCo (f (tSk B L (pAt r) + 1)) ++ [131072 ||| tCh B L (tSk B L (pAt r))]).length ≤ pAt (f (tSk B L (pAt r) + 1))
          rw [List.length_append, List.length_append, List.length_singleton]
          omega
        · show L < pAt (f (tSk B L (pAt r) + 1)) + F
          omega
        · show CL _ (cs ++ (pCo r ++ pCo (f (tSk B L (pAt r) + 1)) ++ [131072 ||| tCh B L (tSk B L (pAt r))]))
          rw [← List.append_assoc, ← List.append_assoc]
          exact CL_2 c3
        · intro h' p
          exact H h' (cPost_pre f4 p)
    have hno : sMul (tCh B L (tSk B L (pAt r))) = false → Q (some (.int 1)) h := by
      intro hsg
      rw [pRow_fail hsg] at H
      exact H h ⟨FR_refl _ _, fun _ => ⟨ha, hc⟩, fun z => by (cases z)⟩
    by_cases e1 : tCh B L (tSk B L (pAt r)) = 42
    · rw [if_pos e1]
      exact hbody (by rw [e1]; rfl)
    · rw [if_neg e1]
      by_cases e2 : tCh B L (tSk B L (pAt r)) = 47
      · rw [if_neg (fun z => z e2)]
        exact hbody (by rw [e2]; rfl)
      · rw [if_pos e2]
        refine hno ?_
        unfold sMul
        rw [decide_eq_false e1, decide_eq_false e2]; rfl
theorem S31 {B : Nat → Nat} {L D K : Nat} {f : Nat → PR} (hA : cSpec 32 (aPs D) K B L f) (hf : ∀ x, x ≤ L → pGd L x (f x)) (hD : D ≤ 6) : cSpec 31 (aPs D) (K + 1) B L (fun a => pGo B L sMul f (f a)) := by
  intro d h Q a cs hd hs ct sc ha hl hc hca H
  obtain ⟨d, rfl⟩ : ∃ e, d = e + 1 := ⟨d - 1, by omega⟩
  have c2 := ct.2.1
  have hg := hf a hl
  refine W31_0 hs ?_
  refine hA d _ _ a cs (by omega) hs ct sc ha hl hc hca ?_
  intro h1 p1 s1
  refine ⟨_, rfl, ?_⟩
  unfold pGo at H
  dsimp only at H
  generalize f a = r at H p1 hg ⊢
  cases hok : pOk r with
  | false =>
    rw [hok, if_neg (by decide)] at H
    rw [if_neg (by decide)]
    rw [hok] at H
    exact H h1 p1
  | true =>
    rw [hok, if_pos rfl] at H
    rw [if_pos (by decide)]
    have q1 := p1.2.1 hok
    have g1 := hg.2 hok
    refine S19 s1 (CT_P3 ct p1.1) q1.1 hg.1 ?_
    intro s2
    refine ⟨_, rfl, ?_⟩
    have f2 : FR h (ajSI h1 2 2 (nI (tSk B L (pAt r)))) P3 := FR_trans p1.1 (FR_SI _ P3_22)
    refine S31_20 hA hf 240 (d + 1) _ Q r cs 0 (by omega) s2 (CT_P3 ct f2) (SC_P3 sc f2) hok hg.1 (by omega) (by omega) (by omega) rfl (CL_2 q1.2) ?_
    intro h' p
    exact H h' (cPost_pre f2 p)

theorem S30_26 {B : Nat → Nat} {L D K : Nat} {f : Nat → PR} (hA : cSpec 31 (aPs D) K B L f) (hf : ∀ x, x ≤ L → pGd L x (f x)) : ∀ (F d : Nat) (h : ajH) (Q : Option Value → ajH → Prop) (r : PR) (cs : List Int32) (i : Nat), K + 1 ≤ d → ajShp h → CT B L h → SC h → pOk r = true → pAt r ≤ L → cs.length + (pCo r).length ≤ pAt r → L < pAt r + F → i + F = 240 → ajI h 2 2 = nI (tSk B L (pAt r)) → CL h (cs ++ pCo r) →
    (∀ h', cPost cs (pRow B L sAdd f F r) h h' → Q (some (.int (flg (pOk (pRow B L sAdd f F r))))) h') → ajEv d 30 26 [.ref 46, .int (nI (6 - D)), .int (tCh B L (tSk B L (pAt r))), .int (nI i)] [] h Q := by
  intro F
  induction F with
  | zero => intro d h Q r cs i _ _ _ _ _ h1 _ h2; omega
  | succ F ih =>
    intro d h Q r cs i hd hs ct sc hok h1 h2 h3 h4 ha hc H
    obtain ⟨d, rfl⟩ : ∃ e, d = e + 1 := ⟨d - 1, by omega⟩
    have c2 := ct.2.1
    have h6 := tSk_ge B L (pAt r)
    have h7 := tSk_le B h1
    refine W30_26 hs ?_
    rw [if_neg (by rw [sl_240, sr_le (by omega) (by omega)]; omega)]
    have hbody : sAdd (tCh B L (tSk B L (pAt r))) = true → ajEv (d + 1) 30 45 [.ref 46, .int (nI (6 - D)), .int (tCh B L (tSk B L (pAt r))), .int (nI i)] [] h Q := by
      intro hsg
      have hlt : tSk B L (pAt r) < L := by
        by_cases z : tSk B L (pAt r) < L
        · exact z
        · rw [tCh_end (by omega)] at hsg
          cases hsg
      have hg := hf (tSk B L (pAt r) + 1) (by omega)
      refine W30_45 hs ?_
      refine S20 hs ct ha hlt ?_
      intro s1
      refine ⟨rfl, ?_⟩
      have f1 : FR h (ajSI h 2 2 (nI (tSk B L (pAt r) + 1))) P3 := FR_SI h P3_22
      refine hA d _ _ (tSk B L (pAt r) + 1) (cs ++ pCo r) (by omega) s1 (CT_P3 ct f1) (SC_P3 sc f1) rfl (by omega) (CL_2 hc) (by rw [List.length_append]; omega) ?_
      intro h2' p2 s2
      refine ⟨_, rfl, ?_⟩
      cases hq : pOk (f (tSk B L (pAt r) + 1)) with
      | false =>
        rw [pRow_bad hsg hq] at H
        rw [if_neg (by decide)]
        exact H h2' ⟨FR_trans f1 p2.1, fun z => by (cases z), fun _ => p2.2.2 hq⟩
      | true =>
        rw [pRow_go hsg hq] at H
        rw [if_pos (by decide)]
        have q2 := p2.2.1 hq
        have g2 := hg.2 hq
        have g2L := hg.1
        refine S33 s2 q2.2 (by rw [List.length_append, List.length_append]; omega) ?_
        intro h3' f3 e2 e3 c3 s3
        refine ⟨rfl, ?_⟩
        have f13 := FR_trans (FR_trans f1 p2.1) f3
        refine S19 (a := pAt (f (tSk B L (pAt r) + 1))) s3 (CT_P3 ct f13) (e2.trans q2.1) hg.1 ?_
        intro s4
        refine ⟨_, rfl, ?_⟩
        have f4 : FR h (ajSI h3' 2 2 (nI (tSk B L (pAt (f (tSk B L (pAt r) + 1)))))) P3 := FR_trans f13 (FR_SI _ P3_22)
        rw [nI_1]
        refine ih (d + 1) (ajSI h3' 2 2 (nI (tSk B L (pAt (f (tSk B L (pAt r) + 1)))))) Q (true, pAt (f (tSk B L (pAt r) + 1)), pCo r ++ pCo (f (tSk B L (pAt r) + 1)) ++ [131072 ||| tCh B L (tSk B L (pAt r))], fun l => rk (tCh B L (tSk B L (pAt r))) (pVa r l) (pVa (f (tSk B L (pAt r) + 1)) l)) cs (i + 1) (by omega) s4 (CT_P3 ct f4) (SC_P3 sc f4) rfl hg.1 ?_ ?_ (by omega) rfl ?_ ?_
        · show cs.length + (pCo r ++ pCo (f (tSk B L (pAt r) + 1)) ++ [131072 ||| tCh B L (tSk B L (pAt r))]).length ≤ pAt (f (tSk B L (pAt r) + 1))
          rw [List.length_append, List.length_append, List.length_singleton]
          omega
        · show L < pAt (f (tSk B L (pAt r) + 1)) + F
          omega
        · show CL _ (cs ++ (pCo r ++ pCo (f (tSk B L (pAt r) + 1)) ++ [131072 ||| tCh B L (tSk B L (pAt r))]))
          rw [← List.append_assoc, ← List.append_assoc]
          exact CL_2 c3
        · intro h' p
          exact H h' (cPost_pre f4 p)
    have hno : sAdd (tCh B L (tSk B L (pAt r))) = false → Q (some (.int 1)) h := by
      intro hsg
      rw [pRow_fail hsg] at H
      exact H h ⟨FR_refl _ _, fun _ => ⟨ha, hc⟩, fun z => by (cases z)⟩
    by_cases e1 : tCh B L (tSk B L (pAt r)) = 43
    · rw [if_pos e1]
      exact hbody (by rw [e1]; rfl)
    · rw [if_neg e1]
      by_cases e2 : tCh B L (tSk B L (pAt r)) = 45
      · rw [if_neg (fun z => z e2)]
        exact hbody (by rw [e2]; rfl)
      · rw [if_pos e2]
        refine hno ?_
        unfold sAdd
        rw [decide_eq_false e1, decide_eq_false e2]; rfl
theorem S30 {B : Nat → Nat} {L D K : Nat} {f : Nat → PR} (hA : cSpec 31 (aPs D) K B L f) (hf : ∀ x, x ≤ L → pGd L x (f x)) (hD : D ≤ 6) : cSpec 30 (aPs D) (K + 1) B L (fun a => pGo B L sAdd f (f a)) := by
  intro d h Q a cs hd hs ct sc ha hl hc hca H
  obtain ⟨d, rfl⟩ : ∃ e, d = e + 1 := ⟨d - 1, by omega⟩
  have c2 := ct.2.1
  have hg := hf a hl
  refine W30_0 hs ?_
  rw [if_neg (by rw [sl_6, sr_lt (by omega) (by omega)]; omega)]
  refine hA d _ _ a cs (by omega) hs ct sc ha hl hc hca ?_
  intro h1 p1 s1
  refine ⟨_, rfl, ?_⟩
  unfold pGo at H
  dsimp only at H
  generalize f a = r at H p1 hg ⊢
  cases hok : pOk r with
  | false =>
    rw [hok, if_neg (by decide)] at H
    rw [if_neg (by decide)]
    rw [hok] at H
    exact H h1 p1
  | true =>
    rw [hok, if_pos rfl] at H
    rw [if_pos (by decide)]
    have q1 := p1.2.1 hok
    have g1 := hg.2 hok
    refine S19 s1 (CT_P3 ct p1.1) q1.1 hg.1 ?_
    intro s2
    refine ⟨_, rfl, ?_⟩
    have f2 : FR h (ajSI h1 2 2 (nI (tSk B L (pAt r)))) P3 := FR_trans p1.1 (FR_SI _ P3_22)
    refine S30_26 hA hf 240 (d + 1) _ Q r cs 0 (by omega) s2 (CT_P3 ct f2) (SC_P3 sc f2) hok hg.1 (by omega) (by omega) (by omega) rfl (CL_2 q1.2) ?_
    intro h' p
    exact H h' (cPost_pre f2 p)

theorem S30D {B : Nat → Nat} {L : Nat} : ∀ D, D ≤ 6 → cSpec 30 (aPs D) (7 + 3 * D) B L (pSum B L D) := by
  intro D
  induction D with
  | zero =>
    intro hD
    have h1 := S32 (B := B) (L := L) hD (fun E e => by omega)
    have h2 := S31 h1 (fun x hx => pAtom_gd pInn_gd hx) hD
    have h3 := S30 h2 (fun x hx => pTerm_gd pInn_gd hx) hD
    exact h3
  | succ D ih =>
    intro hD
    have h1 := S32 (B := B) (L := L) hD (fun E e => by
      have e1 : D = E := by omega
      subst e1
      exact ih (by omega))
    have h2 := S31 h1 (fun x hx => pAtom_gd pInn_gd hx) hD
    have h3 := S30 h2 (fun x hx => pTerm_gd pInn_gd hx) hD
    intro d h Q a cs hd
    exact h3 d h Q a cs (by omega)
