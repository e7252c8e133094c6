/-! The class reads a law: sums. -/
def P3 (o j : Nat) : Prop := (o = 2 ∧ (j = 2 ∨ j = 3)) ∨ (o = 47 ∧ j = 3) ∨ o = 48
theorem P2_3 : ∀ o j, P2 o j → P3 o j := fun _ _ h => Or.inl h
/-- the orders that the reader has laid -/
def CL (h : ajH) (cs : List Int32) : Prop := ajI h 47 3 = nI cs.length ∧ ∀ i, i < cs.length → ajI h 48 i = cs.getD i 0
theorem CL_FR {h h' : ajH} {P : Nat → Nat → Prop} {cs : List Int32} (c : CL h cs) (f : FR h h' P) (p1 : ¬ P 47 3) (p2 : ∀ j, ¬ P 48 j) : CL h' cs :=
  ⟨(FR_I f p1).trans c.1, fun i hi => (FR_I f (p2 i)).trans (c.2 i hi)⟩
theorem CL_2 {h : ajH} {cs : List Int32} {j : Nat} {v : Int32} (c : CL h cs) : CL (ajSI h 2 j v) cs := c
theorem CT_P3 {B : Nat → Nat} {L : Nat} {h h' : ajH} (c : CT B L h) (f : FR h h' P3) : CT B L h' := CT_FR c f (by unfold P3; omega) (fun k _ => by unfold P3; omega)
theorem SC_P3 {h h' : ajH} (c : SC h) (f : FR h h' P3) : SC h' := SC_FR c f (fun o j ho => by unfold P3; omega)
theorem getD_snoc (cs : List Int32) (x : Int32) {i : Nat} (hi : i < (cs ++ [x]).length) : (cs ++ [x]).getD i 0 = if i = cs.length then x else cs.getD i 0 := by
  rw [List.length_append, List.length_singleton] at hi
  by_cases h : i = cs.length
  · subst h; rw [if_pos rfl]; simp
  · rw [if_neg h]
    rw [List.getD_eq_getElem?_getD, List.getD_eq_getElem?_getD, List.getElem?_append_left (by omega)]
theorem S33 {d : Nat} {h : ajH} {Q : Option Value → ajH → Prop} {cs : List Int32} {x : Int32} (hs : ajShp h) (c : CL h cs) (hl : cs.length < 256) (H : ∀ h', FR h h' P3 → ajI h' 2 2 = ajI h 2 2 → ajI h' 2 3 = ajI h 2 3 → CL h' (cs ++ [x]) → Q none h') : ajEv d 33 0 [.ref 47, .int x] [] h Q := by
  refine W33_0 hs (ajKc rfl) ?_
  simp (disch := omega) only [c.1, sr_le, sr_lt, sr_eq, sr_N, sr_in, sr_add, sr_mul, sr_neg1, sr_neg1', sr_neg1le, sr_lt0, sr_ltn1, sl_n, sl_0, sl_1, sl_2, sl_3, sl_4, sl_5, sl_6, sl_7, sl_8, sl_9, sl_10, sl_14, sl_15, sl_16, sl_17, sl_18, sl_19, sl_20, sl_21, sl_22, sl_23, sl_24, sl_30, sl_31, sl_32, sl_33, sl_38, sl_40, sl_41, sl_42, sl_43, sl_45, sl_47, sl_48, sl_50, sl_57, sl_58, sl_59, sl_60, sl_61, sl_62, sl_63, sl_64, sl_91, sl_93, sl_97, sl_99, sl_100, sl_107, sl_109, sl_111, sl_115, sl_118, sl_119, sl_124, sl_127, sl_128, sl_177, sl_180, sl_203, sl_239, sl_240, sl_255, sl_256, sl_999, sl_1000, sl_7917, sl_8191, sl_9999]
  rw [if_neg (by omega)]
  refine ⟨by omega, ?_⟩
  rintro _ rfl _ rfl
  refine H _ (FR_trans (FR_SI h (P := P3) (Or.inr (Or.inr rfl))) (FR_SI _ (Or.inr (Or.inl ⟨rfl, rfl⟩)))) rfl rfl ⟨?_, ?_⟩
  · rw [List.length_append, List.length_singleton, ajI_SI, if_pos ⟨rfl, rfl⟩, ajI_SI, if_neg (by omega), c.1]
    exact nI_1 _
  · intro i hi
    rw [getD_snoc cs x hi, ajI_SI, if_neg (by omega), ajI_SI]
    by_cases e : i = cs.length
    · rw [if_pos ⟨rfl, e⟩, if_pos e]
    · rw [if_neg (by omega), if_neg e]
      rw [List.length_append, List.length_singleton] at hi
      exact c.2 i (by omega)
def flg (b : Bool) : Int32 := if b = true then 1 else 0
def cPost (cs : List Int32) (r : PR) (h h' : ajH) : Prop := FR h h' P3 ∧ (pOk r = true → ajI h' 2 2 = nI (pAt r) ∧ CL h' (cs ++ pCo r)) ∧ (pOk r = false → ajI h' 2 3 = nI (pAt r))
theorem cPost_pre {cs : List Int32} {r : PR} {h h1 h' : ajH} (f : FR h h1 P3) (p : cPost cs r h1 h') : cPost cs r h h' := ⟨FR_trans f p.1, p.2⟩
/-- a method of the reader that reads p from where it stands -/
def cSpec (mi : Nat) (ps : List Value) (K : Nat) (B : Nat → Nat) (L : Nat) (p : Nat → PR) : Prop :=
  ∀ (d : Nat) (h : ajH) (Q : Option Value → ajH → Prop) (a : Nat) (cs : List Int32), K ≤ d → ajShp h → CT B L h → SC h → ajI h 2 2 = nI a → a ≤ L → CL h cs → cs.length ≤ a →
    (∀ h', cPost cs (p a) h h' → Q (some (.int (flg (pOk (p a))))) h') → ajEv d mi 0 ps [] h Q
def aPs (D : Nat) : List Value := [.ref 46, .int (nI (6 - D)), ajU, ajU]
theorem ixL_lix {m : Nat} (hm : m < 256) : ixL m (ajStr 1010) 0 = lix (nI m) := (by decide +kernel : ∀ m < 256, ixL m (ajStr 1010) 0 = lix (nI m)) m hm
theorem lix_in {m : Nat} (hm : m < 256) : lix (nI m) = -1 ∨ (0 ≤ lix (nI m) ∧ ¬ lix (nI m) < 0) := (by decide +kernel : ∀ m < 256, lix (nI m) = -1 ∨ (0 ≤ lix (nI m) ∧ ¬ lix (nI m) < 0)) m hm
theorem ch16 {m : Nat} (hm : m < 256) : ((nI m).toUInt32 % 65536).toInt32 = nI m := (by decide +kernel : ∀ m < 256, ((nI m).toUInt32 % 65536).toInt32 = nI m) m hm
/-- the shared end of what fails: the fault is where the reading stands -/
theorem S22f {d : Nat} {h : ajH} {Q : Option Value → ajH → Prop} {a : Nat} {cs : List Int32} (hs : ajShp h) (ha : ajI h 2 2 = nI a) (H : ∀ h', cPost cs (pF a) h h' → Q (some (.int 0)) h') : ajEv d 22 0 [.ref 2] [] h Q := by
  refine S22 hs ?_
  refine H _ ⟨FR_SI h (P := P3) (Or.inl ⟨rfl, Or.inr rfl⟩), fun z => by (cases z), fun _ => ?_⟩
  rw [ha]; rfl
theorem S32_60 {B : Nat → Nat} {L D d a : Nat} {h : ajH} {Q : Option Value → ajH → Prop} {cs : List Int32} {x y : Int32} (hD : D ≤ 6) (hS : ∀ E, D = E + 1 → cSpec 30 (aPs E) (7 + 3 * E) B L (pSum B L E)) (hd : 4 + 3 * D ≤ d) (hs : ajShp h) (ct : CT B L h) (sc : SC h) (ha : ajI h 2 2 = nI a) (hl : a < L) (hx : tCh B L a = x) (hc : CL h cs) (hca : cs.length ≤ a) (hy : y = -1 ∨ (0 ≤ y ∧ ¬ y < 0)) (hyx : lix x = y)
    (H : ∀ h', cPost cs (if ¬ lix x = -1 then (true, a + 1, [65536 ||| lix x], fun l => l (lix x).toNatClampNeg)
      else if x = 91 then match pInn B L D with
        | none => pF a
        | some f => if pOk (f (a + 1)) = true then (if tCh B L (tSk B L (pAt (f (a + 1)))) = 93 then (true, tSk B L (pAt (f (a + 1))) + 1, pCo (f (a + 1)), pVa (f (a + 1))) else pF (tSk B L (pAt (f (a + 1))))) else pF (pAt (f (a + 1)))
      else pF a) h h' → Q (some (.int (flg (pOk (if ¬ lix x = -1 then (true, a + 1, [65536 ||| lix x], fun l => l (lix x).toNatClampNeg)
      else if x = 91 then match pInn B L D with
        | none => pF a
        | some f => if pOk (f (a + 1)) = true then (if tCh B L (tSk B L (pAt (f (a + 1)))) = 93 then (true, tSk B L (pAt (f (a + 1))) + 1, pCo (f (a + 1)), pVa (f (a + 1))) else pF (tSk B L (pAt (f (a + 1))))) else pF (pAt (f (a + 1)))
      else pF a))))) h') {u3 : Value} : ajEv (d + 1) 32 60 [.ref 46, .int (nI (6 - D)), .int x, u3] [.int y] h Q := by
  have c2 := ct.2.1
  obtain ⟨d, rfl⟩ : ∃ e, d = e + 4 := ⟨d - 4, by omega⟩
  have hfail : (∀ h', cPost cs (pF a) h h' → Q (some (.int 0)) h') → ∀ u1 u2 u3 : Value, ajEv (d + 4 + 1) 32 97 [.ref 46, u1, u2, u3] [] h Q := by
    intro HF _ _ _
    refine W32_97 hs ?_
    refine S22f (a := a) (cs := cs) hs ha ?_
    intro h2 p2 s2
    exact ⟨_, rfl, Or.inl rfl, HF h2 p2⟩
  rw [hyx] at H
  refine W32_60 hs ?_
  rcases hy with hy | hy
  · subst hy
    rw [if_pos (by decide)]
    rw [if_neg (fun z => z rfl)] at H
    by_cases h91 : x = 91
    · rw [if_neg (fun z => z h91)]
      rw [if_pos h91] at H
      cases D with
      | zero =>
        rw [if_neg (by decide)]
        exact hfail H _ _ _
      | succ E =>
        have e1 : nI (6 - (E + 1)) < 6 := by rw [sl_6, sr_lt (by omega) (by omega)]; omega
        rw [if_pos e1]
        refine S20 hs ct ha hl ?_
        intro s1
        refine ⟨rfl, ?_⟩
        have f1 : FR h (ajSI h 2 2 (nI (a + 1))) P3 := FR_SI h (Or.inl ⟨rfl, Or.inl rfl⟩)
        have e2 : nI (6 - (E + 1)) + 1 = nI (6 - E) := by rw [nI_1]; congr 1; omega
        rw [e2]
        have hg := pSum_gd (B := B) (L := L) E (a + 1) (by omega)
        refine hS E rfl (d + 4) _ _ (a + 1) cs (by omega) s1 (CT_P3 ct f1) (SC_P3 sc f1) rfl (by omega) (CL_2 hc) (by omega) ?_
        intro h2 p2 s2
        refine ⟨_, rfl, ?_⟩
        dsimp only [pInn] at H
        have ct2 := CT_P3 ct (FR_trans f1 p2.1)
        generalize pSum B L E (a + 1) = r at H p2 hg ⊢
        cases hok : pOk r with
        | false =>
          rw [hok] at H
          rw [if_neg (by decide)]
          rw [if_neg (by decide)] at H
          exact H h2 ⟨FR_trans f1 p2.1, fun z => by (cases z), fun _ => p2.2.2 hok⟩
        | true =>
          rw [hok] at H
          rw [if_pos (by decide)]
          rw [if_pos rfl] at H
          have q2 := p2.2.1 hok
          have g2 := hg.2 hok
          have h7 := tSk_le B hg.1
          refine S27 s2 ct2 q2.1 hg.1 (by decide) ?_ ?_
          · intro e3 e4 s3
            refine ⟨_, rfl, ?_⟩
            rw [if_pos (by decide)]
            rw [if_pos e3] at H
            refine H _ ⟨FR_trans (FR_trans f1 p2.1) (FR_SI _ (Or.inl ⟨rfl, Or.inl rfl⟩)), fun _ => ⟨rfl, CL_2 q2.2⟩, fun z => by (cases z)⟩
          · intro e3 s3
            refine ⟨_, rfl, ?_⟩
            rw [if_neg (by decide)]
            rw [if_neg e3] at H
            refine S22f (a := tSk B L (pAt r)) (cs := cs) s3 rfl ?_
            intro h4 p4 s4
            refine ⟨_, rfl, ?_⟩
            rw [if_pos rfl]
            exact H h4 (cPost_pre (FR_trans (FR_trans f1 p2.1) (FR_SI _ (Or.inl ⟨rfl, Or.inl rfl⟩))) p4)
    · rw [if_pos h91]
      rw [if_neg h91] at H
      exact hfail H _ _ _
  · rw [if_neg hy.2]
    have e0 : ¬ y = -1 := by rintro rfl; exact absurd hy.1 (by decide)
    rw [if_pos e0] at H
    refine S20 hs ct ha hl ?_
    intro s1
    refine ⟨rfl, ?_⟩
    have f1 : FR h (ajSI h 2 2 (nI (a + 1))) P3 := FR_SI h (Or.inl ⟨rfl, Or.inl rfl⟩)
    refine S33 s1 (CL_2 hc) (by omega) ?_
    intro h3 f3 e2 e3 c3 s3
    refine ⟨rfl, ?_⟩
    refine H h3 ⟨FR_trans f1 f3, fun _ => ⟨?_, c3⟩, fun z => by (cases z)⟩
    rw [e2]; rfl
theorem S32 {B : Nat → Nat} {L D : Nat} (hD : D ≤ 6) (hS : ∀ E, D = E + 1 → cSpec 30 (aPs E) (7 + 3 * E) B L (pSum B L E)) : cSpec 32 (aPs D) (5 + 3 * D) B L (pAtom B L (pInn B L D)) := by
  intro d h Q a cs hd hs ct sc ha hl hc hca H
  obtain ⟨d, rfl⟩ : ∃ e, d = e + 5 := ⟨d - 5, by omega⟩
  have c2 := ct.2.1
  have h7 := tSk_le B hl
  have h6 := tSk_ge B L a
  refine W32_0 hs ?_
  refine S19 hs ct ha hl ?_
  intro s1
  refine ⟨_, rfl, ?_⟩
  refine S24t s1 ct.2.2.1 ?_
  intro _
  refine ⟨_, rfl, ?_⟩
  have f1 : FR h (ajSI h 2 2 (nI (tSk B L a))) P3 := FR_SI h (Or.inl ⟨rfl, Or.inl rfl⟩)
  have ct1 : CT B L (ajSI h 2 2 (nI (tSk B L a))) := CT_P3 ct f1
  have sc1 := SC_P3 sc f1
  have hc1 : CL (ajSI h 2 2 (nI (tSk B L a))) cs := CL_2 hc
  have ha1 : ajI (ajSI h 2 2 (nI (tSk B L a))) 2 2 = nI (tSk B L a) := rfl
  have H : ∀ h', cPost cs (pAtom B L (pInn B L D) a) (ajSI h 2 2 (nI (tSk B L a))) h' → Q (some (.int (flg (pOk (pAtom B L (pInn B L D) a))))) h' := fun h' p => H h' (cPost_pre f1 p)
  clear hs ct sc ha hc f1
  generalize ajSI h 2 2 (nI (tSk B L a)) = h1 at *
  unfold pAtom at H
  by_cases hd1 : tSk B L a < L ∧ 48 ≤ B (tSk B L a) ∧ B (tSk B L a) ≤ 57
  · rw [if_pos hd1] at H ⊢
    rw [if_neg (by decide)]
    have hid := tSk_id B L a
    have hn := tNum_all B L 4 (tSk B L a) 0 h7
    have hng := tNum_gt (m := 4) (v := 0) hd1.1 hd1.2.1 hd1.2.2 (by omega)
    refine S23 (k := 4) (lo := 0) (hi := 9999) s1 ct1 (by omega) (by omega) (by omega) (by omega) ha1 h7 ?_
    intro h2 f2
    unfold tNr
    rw [hid, if_pos hd1]
    by_cases he : (tNum B L 4 (tSk B L a) 0).1 < L ∧ 48 ≤ B (tNum B L 4 (tSk B L a) 0).1 ∧ B (tNum B L 4 (tSk B L a) 0).1 ≤ 57
    · rw [if_pos he] at H ⊢
      refine ⟨fun z => by (cases z), fun _ e => ?_⟩
      intro s2
      refine ⟨_, rfl, ?_⟩
      rw [if_neg (by decide)]
      exact H h2 ⟨FR_mono f2 P2_3, fun z => by (cases z), fun _ => e⟩
    · rw [if_neg he] at H ⊢
      rw [if_neg (by omega)]
      refine ⟨fun _ e => ?_, fun z => by (cases z)⟩
      intro s2
      refine ⟨_, rfl, ?_⟩
      have e0 : (0 : Int32) ≤ nI (tNum B L 4 (tSk B L a) 0).2 := nI_pos' (by omega)
      rw [if_pos e0]
      have hc2 : CL h2 cs := CL_FR hc1 f2 (by unfold P2; omega) (fun j => by unfold P2; omega)
      refine S33 s2 hc2 (by omega) ?_
      intro h3 f3 e2 e3 c3 s3
      refine ⟨rfl, ?_⟩
      refine H h3 ⟨FR_trans (FR_mono f2 P2_3) f3, fun _ => ⟨?_, c3⟩, fun z => by (cases z)⟩
      rw [e2]; exact e
  · rw [if_neg hd1] at H ⊢
    rw [if_pos (by decide)]
    by_cases hlt : tSk B L a < L
    · have e1 := tCh_in (B := B) hlt
      have hb := ct1.2.2.1 (tSk B L a)
      rw [e1] at H ⊢
      rw [if_pos (by rw [sr_neg1 (by omega)]; exact fun z => z), ch16 hb]
      refine S252 s1 sc1 (Or.inl rfl) hb ?_
      intro _
      refine ⟨_, rfl, ?_⟩
      rw [ixL_lix hb]
      refine S32_60 hD hS (by omega) s1 ct1 sc1 ha1 hlt e1 hc1 (by omega) (lix_in hb) rfl ?_
      exact H
    · have e1 := tCh_end (B := B) (L := L) (a := tSk B L a) (by omega)
      rw [e1] at H ⊢
      rw [if_neg (by decide)]
      rw [if_neg (by decide), if_neg (by decide)] at H
      refine W32_60 s1 ?_
      rw [if_pos (by decide), if_pos (by decide)]
      refine W32_97 s1 ?_
      refine S22f (a := tSk B L a) (cs := cs) s1 ha1 ?_
      intro h2 p2 s2
      refine ⟨_, rfl, Or.inl rfl, ?_⟩
      exact H h2 p2
