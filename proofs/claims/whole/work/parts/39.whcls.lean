/-! The class reads a wheel. -/
theorem S21 {B : Nat → Nat} {L t d a : Nat} {b : Bool} {h : ajH} {Q : Option Value → ajH → Prop} {R : Nat → Nat} (ht : ajKw t 100) (htl : ∀ h : ajH, ajLen h t = kLen b) (ht2 : ¬ t = 2) (ht3 : ¬ t = 3) (hs : ajShp h) (ct : CT B L h) (sc : SC h) (sa : SA h) (ha : ajI h 2 2 = nI a) (hl : a ≤ L) (hR : ∀ k, k < kLen b → ajI h t k = nI (R k))
    (H : ∀ h', FR h h' (PI t) → (eOK B L (pIt B L (ajStr (kQ b)) (kLo b) (kHi b) (kLen b) 0 R a) = true → ajI h' 2 2 = nI (pIt B L (ajStr (kQ b)) (kLo b) (kHi b) (kLen b) 0 R a).2.1 → (∀ k, k < kLen b → ajI h' t k = nI ((pIt B L (ajStr (kQ b)) (kLo b) (kHi b) (kLen b) 0 R a).2.2 k)) → Q (some (.int 1)) h') ∧ (eOK B L (pIt B L (ajStr (kQ b)) (kLo b) (kHi b) (kLen b) 0 R a) = false → ajI h' 2 3 = nI (pIt B L (ajStr (kQ b)) (kLo b) (kHi b) (kLen b) 0 R a).2.1 → Q (some (.int 0)) h')) :
    ajEv (d + 4) 21 0 [.ref 2, .ref (kQ b), .ref (kA b 1), .ref (kA b 2), .ref t, ajU, ajU, ajU, ajU, ajU] [] h Q := by
  have hq := kQ_tx b
  refine W21_0 hs (ajStr_ki _ hq).1 (kA_ki b (by omega)) (kA_ki b (by omega)) (ajKwi ht) ?_
  exact S21_6 ht htl ht2 ht3 (kLen b) d h Q 0 0 a R _ _ _ hs ct sc sa ha hl (by omega) (by omega) hR H
theorem pIt_sk {B : Nat → Nat} {L : Nat} {s : List Nat} {lo hi : Nat → Nat} : ∀ F M R a, (pIt B L s lo hi F M R a).1 = true → tSk B L (pIt B L s lo hi F M R a).2.1 = (pIt B L s lo hi F M R a).2.1 := by
  intro F
  induction F with
  | zero => intro M R a _; exact tSk_id B L a
  | succ F ih =>
    intro M R a
    unfold pIt
    split
    · intro _; exact tSk_id B L a
    · split
      · intro z; cases z
      · split
        · intro z; exact ih _ _ _ z
        · intro z; cases z
abbrev WR : Type := Bool × Nat × Nat × (Nat → Nat) × (Nat → Nat → Nat)
/-- what follows a clause: another, or the end -/
def wEnd (B : Nat → Nat) (L : Nat) (g : Nat → WR) (r : Bool × Nat × (Nat → Nat)) (z : Nat) (RU : Nat → Nat) (FO : Nat → Nat → Nat) : WR :=
  if eOK B L r = true then (if tCh B L r.2.1 = 59 then g (r.2.1 + 1) else if 3 ≤ z then (true, r.2.1, z, RU, FO) else (false, r.2.1, z, RU, FO)) else (false, r.2.1, z, RU, FO)
def rIt (B : Nat → Nat) (L : Nat) (b : Bool) (a : Nat) : Bool × Nat × (Nat → Nat) := pIt B L (ajStr (kQ b)) (kLo b) (kHi b) (kLen b) 0 (kUs b) a
/-- a wheel's text: whether it goes, where it ends or can't go on, how many spokes, the rules, the spokes -/
def pWh (B : Nat → Nat) (L : Nat) : Nat → Bool → Nat → (Nat → Nat) → (Nat → Nat → Nat) → Nat → WR
  | 0, _, z, RU, FO, a => (false, a, z, RU, FO)
  | F + 1, fl, z, RU, FO, a =>
    if tCh B L (tSk B L a) = 115 ∧ fl = false then wEnd B L (pWh B L F true z (rIt B L false (tSk B L a + 1)).2.2 FO) (rIt B L false (tSk B L a + 1)) z (rIt B L false (tSk B L a + 1)).2.2 FO
    else if tCh B L (tSk B L a) = 107 ∧ z < 8 then wEnd B L (pWh B L F fl (z + 1) RU (fun k => if k = z then (rIt B L true (tSk B L a + 1)).2.2 else FO k)) (rIt B L true (tSk B L a + 1)) (z + 1) RU (fun k => if k = z then (rIt B L true (tSk B L a + 1)).2.2 else FO k)
    else (false, tSk B L a, z, RU, FO)
def PWh (q o j : Nat) : Prop := o = 2 ∧ (j = 2 ∨ j = 3) ∨ o = q ∧ j = 0 ∨ o = q + 1 ∨ o = q + 2 ∨ o = q + 3 ∨ o = q + 4 ∨ o = q + 5
/-- a wheel of the class holds so much -/
def CW (h : ajH) (q z : Nat) (RU : Nat → Nat) (FO : Nat → Nat → Nat) : Prop := ajI h q 0 = nI z ∧ (∀ j, j < 4 → ajI h (q + 1) j = nI (RU j)) ∧ ∀ k, k < z → ajI h (q + 3) k = nI (FO k 0) ∧ ajI h (q + 4) k = nI (FO k 1) ∧ ajI h (q + 5) k = nI (FO k 2)
theorem CW_FR {h h' : ajH} {P : Nat → Nat → Prop} {q z : Nat} {RU : Nat → Nat} {FO : Nat → Nat → Nat} (c : CW h q z RU FO) (f : FR h h' P) (p0 : ¬ P q 0) (p : ∀ j, ¬ P (q + 1) j ∧ ¬ P (q + 3) j ∧ ¬ P (q + 4) j ∧ ¬ P (q + 5) j) : CW h' q z RU FO :=
  ⟨(FR_I f p0).trans c.1, fun j hj => (FR_I f (p j).1).trans (c.2.1 j hj), fun k hk => ⟨(FR_I f (p k).2.1).trans (c.2.2 k hk).1, (FR_I f (p k).2.2.1).trans (c.2.2 k hk).2.1, (FR_I f (p k).2.2.2).trans (c.2.2 k hk).2.2⟩⟩
/-- where wheels lie -/
def kwW (q : Nat) : Prop := q = 4 ∨ q = 10
theorem kwW_k {q : Nat} (h : kwW q) : ajKw q 2 := by rcases h with rfl | rfl <;> exact ajKc rfl
theorem S26 {d q z : Nat} {h : ajH} {Q : Option Value → ajH → Prop} {RU R : Nat → Nat} {FO : Nat → Nat → Nat} (hs : ajShp h) (hq : kwW q) (c : CW h q z RU FO) (hz : z < 8) (hR : ∀ j, j < 3 → ajI h (q + 2) j = nI (R j)) (H : ∀ h', FR h h' (fun o j => o = q ∧ j = 0 ∨ o = q + 3 ∨ o = q + 4 ∨ o = q + 5) → CW h' q (z + 1) RU (fun k => if k = z then R else FO k) → Q none h') : ajEv d 26 0 [.ref q] [] h Q := by
  have c1 := c.1
  refine W26_0 hs (kwW_k hq) ?_
  rw [c1, if_neg (by rw [sl_8, sr_le (by omega) (by omega)]; omega), sr_in (by omega), sr_N (by omega)]
  refine ⟨hz, ?_⟩
  rintro _ rfl
  have e1 : ∀ v, ajI (ajSI h (q + 3) z v) q 0 = nI z := fun v => by rw [ajI_SI, if_neg (by omega)]; exact c1
  rw [e1, sr_in (by omega), sr_N (by omega)]
  refine ⟨hz, ?_⟩
  rintro _ rfl
  have e2 : ∀ v w, ajI (ajSI (ajSI h (q + 3) z v) (q + 4) z w) q 0 = nI z := fun v w => by rw [ajI_SI, if_neg (by omega)]; exact e1 v
  rw [e2, sr_in (by omega), sr_N (by omega)]
  refine ⟨hz, ?_⟩
  rintro _ rfl _ rfl
  have e3 : ∀ v w x, ajI (ajSI (ajSI (ajSI h (q + 3) z v) (q + 4) z w) (q + 5) z x) q 0 = nI z := fun v w x => by rw [ajI_SI, if_neg (by omega)]; exact e2 v w
  rw [e3, nI_1]
  refine H _ (FR_trans (FR_trans (FR_trans (FR_SI h (Or.inr (Or.inl rfl))) (FR_SI _ (Or.inr (Or.inr (Or.inl rfl))))) (FR_SI _ (Or.inr (Or.inr (Or.inr rfl))))) (FR_SI _ (Or.inl ⟨rfl, rfl⟩))) ⟨?_, ?_, ?_⟩
  · rw [ajI_SI, if_pos ⟨rfl, rfl⟩]
  · intro j hj
    rw [ajI_SI, if_neg (by omega), ajI_SI, if_neg (by omega), ajI_SI, if_neg (by omega), ajI_SI, if_neg (by omega)]
    exact c.2.1 j hj
  · intro k hk
    have r0 := hR 0 (by omega)
    have r1 := hR 1 (by omega)
    have r2 := hR 2 (by omega)
    by_cases e : k = z
    · subst e
      simp only [ajI_SI]
      have n1 : ¬ (q + 3 = q + 5) := by omega
      have n2 : ¬ (q + 3 = q + 4) := by omega
      have n3 : ¬ (q + 4 = q + 5) := by omega
      have n4 : ¬ (q + 4 = q + 3) := by omega
      have n5 : ¬ (q + 5 = q + 4) := by omega
      have n6 : ¬ (q + 5 = q + 3) := by omega
      have n7 : ¬ (q + 3 = q) := by omega
      have n8 : ¬ (q + 4 = q) := by omega
      have n9 : ¬ (q + 5 = q) := by omega
      have m1 : ¬ (q + 2 = q + 3) := by omega
      have m2 : ¬ (q + 2 = q + 4) := by omega
      simp only [n1, n2, n3, n4, n5, n6, n7, n8, n9, m1, m2, false_and, if_false, and_self, if_true, r0, r1, r2]
    · have hk2 : k < z := by omega
      have hc := c.2.2 k hk2
      dsimp only
      rw [if_neg e]
      refine ⟨?_, ?_, ?_⟩
      · rw [ajI_SI, if_neg (by omega), ajI_SI, if_neg (by omega), ajI_SI, if_neg (by omega), ajI_SI, if_neg (by omega)]; exact hc.1
      · rw [ajI_SI, if_neg (by omega), ajI_SI, if_neg (by omega), ajI_SI, if_neg (by omega), ajI_SI, if_neg (by omega)]; exact hc.2.1
      · rw [ajI_SI, if_neg (by omega), ajI_SI, if_neg (by omega), ajI_SI, if_neg (by omega), ajI_SI, if_neg (by omega)]; exact hc.2.2
theorem CT_Wh {B : Nat → Nat} {L q : Nat} {h h' : ajH} (hq : kwW q) (c : CT B L h) (f : FR h h' (PWh q)) : CT B L h' := CT_FR c f (by unfold PWh; rcases hq with rfl | rfl <;> omega) (fun k _ => by unfold PWh; rcases hq with rfl | rfl <;> omega)
theorem SC_Wh {q : Nat} {h h' : ajH} (hq : kwW q) (c : SC h) (f : FR h h' (PWh q)) : SC h' := SC_FR c f (fun o j ho => by unfold PWh; rcases hq with rfl | rfl <;> omega)
theorem SA_Wh {q : Nat} {h h' : ajH} (hq : kwW q) (c : SA h) (f : FR h h' (PWh q)) : SA h' := SA_FR c f (fun o j ho => by unfold PWh; rcases hq with rfl | rfl <;> omega)
def wPost (q : Nat) (r : WR) (h h' : ajH) : Prop := FR h h' (PWh q) ∧ (r.1 = true → CW h' q r.2.2.1 r.2.2.2.1 r.2.2.2.2) ∧ (r.1 = false → ajI h' 2 3 = nI r.2.1)
theorem wPost_pre {q : Nat} {r : WR} {h h1 h' : ajH} (f : FR h h1 (PWh q)) (p : wPost q r h1 h') : wPost q r h h' := ⟨FR_trans f p.1, p.2⟩
theorem P2_Wh (q : Nat) : ∀ o j, P2 o j → PWh q o j := fun _ _ z => Or.inl z
/-- behind a clause -/
theorem S16_128 {B : Nat → Nat} {L q d i z a : Nat} {h : ajH} {Q : Option Value → ajH → Prop} {RU R : Nat → Nat} {FO : Nat → Nat → Nat} {g : Nat → WR} {x2 : Int32} {u3 u5 : Value} (hq : kwW q) (hs : ajShp h) (ct : CT B L h) (hi : i < 240) (ha : ajI h 2 2 = nI a) (hl : a ≤ L) (hsk : tSk B L a = a) (hok : eOK B L (true, a, R) = true) (c : CW h q z RU FO) (hz : z ≤ 8)
    (hg : tCh B L a = 59 → ajShp (ajSI h 2 2 (nI (a + 1))) → ∀ u5 : Value, ajEv (d + 5) 16 15 [.ref 2, .ref q, .int x2, .int 1, .int (nI (i + 1)), u5] [] (ajSI h 2 2 (nI (a + 1))) Q) (H : ¬ tCh B L a = 59 → ∀ h', wPost q (wEnd B L g (true, a, R) z RU FO) h h' → Q (some (.int (flg (wEnd B L g (true, a, R) z RU FO).1))) h') : ajEv (d + 5) 16 128 [.ref 2, .ref q, .int x2, u3, .int (nI i), u5] [] h Q := by
  have hB := ct.2.2.1
  have c2 := ct.2.1
  refine W16_128 hs (kwW_k hq) ?_
  refine S27 hs ct ha hl (by decide) ?_ ?_
  · rw [hsk]
    intro e1 _ s1
    refine ⟨_, rfl, ?_⟩
    rw [nI_1]
    exact hg e1 s1 _
  · rw [hsk]
    intro e1 s1
    refine ⟨_, rfl, ?_⟩
    rw [nI_1, ajSI_self h 2 2 ha] at *
    have H := H e1
    unfold wEnd at H
    simp only [if_pos hok, if_neg e1] at H
    have e2 : tCh B L a = -1 := by
      unfold eOK at hok
      rw [decide_eq_false e1] at hok
      exact of_decide_eq_true (by simpa using hok)
    refine W16_15 s1 (kwW_k hq) ?_
    rw [if_pos rfl]
    refine W16_141 s1 (kwW_k hq) ?_
    refine S19 s1 ct ha hl ?_
    rw [hsk, ajSI_self h 2 2 ha]
    intro s2
    refine ⟨_, rfl, ?_⟩
    rw [if_neg (fun y => y e2), c.1]
    by_cases h3 : 3 ≤ z
    · rw [if_pos (by rw [sl_3, sr_le (by omega) (by omega)]; exact h3)]
      simp only [if_pos h3] at H
      exact H h ⟨FR_refl _ _, fun _ => c, fun y => by (cases y)⟩
    · rw [if_neg (by rw [sl_3, sr_le (by omega) (by omega)]; exact h3)]
      simp only [if_neg h3] at H
      refine W16_157 s2 ?_
      refine S22 s2 ?_
      intro s3
      refine ⟨_, rfl, ?_⟩
      rw [if_pos rfl, ha]
      exact H _ ⟨FR_SI h (Or.inl ⟨rfl, Or.inr rfl⟩), fun y => by (cases y), fun _ => rfl⟩
theorem eOK_1 {B : Nat → Nat} {L : Nat} {r : Bool × Nat × (Nat → Nat)} (h : eOK B L r = true) : r.1 = true := by
  unfold eOK at h
  rw [Bool.and_eq_true] at h
  exact h.1
theorem rIt_gd {B : Nat → Nat} {L a : Nat} {b : Bool} (ha : a ≤ L) : (rIt B L b a).2.1 ≤ L ∧ ((rIt B L b a).1 = true → a ≤ (rIt B L b a).2.1 ∧ tSk B L (rIt B L b a).2.1 = (rIt B L b a).2.1) := by
  have h := pIt_gd (B := B) (L := L) (lo := kLo b) (hi := kHi b) (kQ_tx b) (kLen b) 0 (kUs b) a ha
  refine ⟨?_, fun z => ⟨?_, pIt_sk _ _ _ _ z⟩⟩
  · rcases h with h | h
    · exact h.2
    · exact h.2
  · rcases h with h | h
    · exact h.1
    · have z2 : (pIt B L (ajStr (kQ b)) (kLo b) (kHi b) (kLen b) 0 (kUs b) a).1 = true := z
      rw [h.1] at z2; cases z2
theorem S16_15 {B : Nat → Nat} {L q : Nat} (hq : kwW q) : ∀ (F d : Nat) (h : ajH) (Q : Option Value → ajH → Prop) (fl : Bool) (z i a : Nat) (RU : Nat → Nat) (FO : Nat → Nat → Nat) (u5 : Value), ajShp h → CT B L h → SC h → SA h → ajI h 2 2 = nI a → a ≤ L → 2 * i ≤ a → i + F = 240 → z ≤ 8 → CW h q z RU FO → (fl = false → ∀ j, j < 4 → RU j = kUs false j) →
    (∀ h', wPost q (pWh B L F fl z RU FO a) h h' → Q (some (.int (flg (pWh B L F fl z RU FO a).1))) h') → ajEv (d + 5) 16 15 [.ref 2, .ref q, .int (flg fl), .int 1, .int (nI i), u5] [] h Q := by
  intro F
  induction F with
  | zero => intro d h Q fl z i a RU FO u5 hs ct sc sa ha hl h2 h3 hz c hfl H; have := ct.2.1; omega
  | succ F ih =>
    intro d h Q fl z i a RU FO u5 hs ct sc sa ha hl h2 h3 hz c hfl H
    have c2 := ct.2.1
    have h6 := tSk_ge B L a
    have h7 := tSk_le B hl
    have f1 : FR h (ajSI h 2 2 (nI (tSk B L a))) (PWh q) := FR_SI h (Or.inl ⟨rfl, Or.inl rfl⟩)
    have kk := kwW_k hq
    refine W16_15 hs kk ?_
    rw [if_neg (by decide), if_neg (by rw [sl_240, sr_le (by omega) (by omega)]; omega)]
    refine S19 hs ct ha hl ?_
    intro s1
    refine ⟨_, rfl, ?_⟩
    have ct1 := CT_Wh hq ct f1
    have sc1 := SC_Wh hq sc f1
    have sa1 := SA_Wh hq sa f1
    have cw1 : CW (ajSI h 2 2 (nI (tSk B L a))) q z RU FO := CW_FR c (FR_SI h (P := P2) ⟨rfl, Or.inl rfl⟩) (by unfold P2; rcases hq with rfl | rfl <;> omega) (fun j => by unfold P2; rcases hq with rfl | rfl <;> omega)
    unfold pWh at H
    -- a spoke, or nothing that goes
    have h71 : ¬ (tCh B L (tSk B L a) = 115 ∧ fl = false) → ∀ u3 u5 : Value, ajEv (d + 5) 16 71 [.ref 2, .ref q, .int (flg fl), u3, .int (nI i), .int (tCh B L (tSk B L a))] [] (ajSI h 2 2 (nI (tSk B L a))) Q := by
      intro hn _ _
      rw [if_neg hn] at H
      refine W16_71 s1 kk ?_
      have hbad : ¬ (tCh B L (tSk B L a) = 107 ∧ z < 8) → ∀ s1 : ajShp (ajSI h 2 2 (nI (tSk B L a))), ajEv (d + 4) 22 0 [.ref 2] [] (ajSI h 2 2 (nI (tSk B L a))) (fun r h2 => ajShp h2 → ∃ x3, r = some (.int x3) ∧ ((x3 = 0 ∨ x3 = 1) ∧ Q (some (.int x3)) h2)) := by
        intro hb s1
        rw [if_neg hb] at H
        refine S22 s1 ?_
        intro _
        exact ⟨_, rfl, Or.inl rfl, H _ ⟨FR_trans f1 (FR_SI _ (Or.inl ⟨rfl, Or.inr rfl⟩)), fun y => by (cases y), fun _ => rfl⟩⟩
      by_cases e1 : tCh B L (tSk B L a) = 107
      · rw [if_neg (fun y => y e1), cw1.1]
        by_cases e2 : z < 8
        · rw [if_neg (by rw [sl_8, sr_le (by omega) (by omega)]; omega)]
          rw [if_pos ⟨e1, e2⟩] at H
          have hlt := tCh_lt e1 (by decide)
          refine S20 s1 ct1 rfl hlt ?_
          rw [ajSI_SI]
          intro s2
          refine ⟨rfl, ?_⟩
          have f2 : FR h (ajSI h 2 2 (nI (tSk B L a + 1))) (PWh q) := FR_SI h (Or.inl ⟨rfl, Or.inl rfl⟩)
          refine W25_0 s2 kk ?_
          rintro _ rfl s3
          refine ⟨rfl, ?_⟩
          have f3 : FR h (ajCp (ajSI h 2 2 (nI (tSk B L a + 1))) (q + 2) 1003 0 0 3) (PWh q) := FR_trans f2 (FR_Cp _ (fun j _ _ => Or.inr (Or.inr (Or.inr (Or.inl rfl)))))
          have ct3 := CT_Wh hq ct f3
          have sc3 := SC_Wh hq sc f3
          have sa3 := SA_Wh hq sa f3
          have k2 : ajKw (q + 2) 100 := ajKw_2_2 kk
          have cw3 : CW (ajCp (ajSI h 2 2 (nI (tSk B L a + 1))) (q + 2) 1003 0 0 3) q z RU FO := by
            refine CW_FR c (FR_trans (FR_SI h (P := fun o j => o = 2 ∧ j = 2 ∨ o = q + 2) (Or.inl ⟨rfl, rfl⟩)) (FR_Cp _ (fun j _ _ => Or.inr rfl))) ?_ (fun j => ?_) <;> rcases hq with rfl | rfl <;> omega
          have hR3 : ∀ k, k < kLen true → ajI (ajCp (ajSI h 2 2 (nI (tSk B L a + 1))) (q + 2) 1003 0 0 3) (q + 2) k = nI (kUs true k) := by
            intro k hk
            have hk : k < 3 := hk
            rw [ajI_Cp, if_pos ⟨rfl, by omega, by omega⟩, ajI_SI, if_neg (by omega), Nat.zero_add, Nat.sub_zero]
            exact sa.2.2.2.1 k hk
          have hl3 : ∀ h : ajH, ajLen h (q + 2) = kLen true := fun h => ajLn_2_2 kk
          have hgd := rIt_gd (B := B) (L := L) (b := true) (a := tSk B L a + 1) (by omega)
          refine S21 (b := true) (a := tSk B L a + 1) k2 hl3 (by rcases hq with rfl | rfl <;> omega) (by rcases hq with rfl | rfl <;> omega) s3 ct3 sc3 sa3 (by rw [ajI_Cp, if_neg (by rcases hq with rfl | rfl <;> omega)]; rfl) (by omega) hR3 ?_
          intro h4 f4
          have f4' : FR h h4 (PWh q) := FR_trans f3 (FR_mono f4 (fun o j y => by unfold PI at y; unfold PWh; rcases y with y | y <;> simp [y]))
          rw [show pIt B L (ajStr (kQ true)) (kLo true) (kHi true) (kLen true) 0 (kUs true) (tSk B L a + 1) = rIt B L true (tSk B L a + 1) from rfl]
          generalize rIt B L true (tSk B L a + 1) = r at H hgd ⊢
          have cw4 : CW h4 q z RU FO := CW_FR cw3 f4 (by unfold PI; rcases hq with rfl | rfl <;> omega) (fun j => by unfold PI; rcases hq with rfl | rfl <;> omega)
          refine ⟨fun hok e4 hR4 s4 => ?_, fun hno e4 s4 => ?_⟩
          · refine ⟨_, rfl, ?_⟩
            rw [if_pos (by decide)]
            have r1 := eOK_1 hok
            have hgd2 := hgd.2 r1
            refine S26 (R := r.2.2) s4 hq cw4 e2 hR4 ?_
            intro h5 f5 cw5 s5
            refine ⟨rfl, ?_⟩
            have f5' : FR h h5 (PWh q) := FR_trans f4' (FR_mono f5 (fun o j y => by unfold PWh; rcases y with y | y | y | y <;> simp [y]))
            have e5 : ajI h5 2 2 = nI r.2.1 := (FR_I f5 (by rcases hq with rfl | rfl <;> omega)).trans e4
            obtain ⟨r0, ra, rR⟩ := r
            dsimp only at r1
            subst r1
            try dsimp only at e5
            try dsimp only at hgd
            try dsimp only at hgd2
            refine S16_128 (R := rR) (g := pWh B L F fl (z + 1) RU (fun k => if k = z then rR else FO k)) hq s5 (CT_Wh hq ct f5') (by omega) e5 hgd.1 hgd2.2 hok cw5 (by omega) ?_ ?_
            · intro e6 s6 u5
              have l6 := tCh_lt e6 (by decide)
              have f6 : FR h (ajSI h5 2 2 (nI (ra + 1))) (PWh q) := FR_trans f5' (FR_SI _ (Or.inl ⟨rfl, Or.inl rfl⟩))
              have hge := hgd2.1
              refine ih d _ Q fl (z + 1) (i + 1) (ra + 1) RU (fun k => if k = z then rR else FO k) u5 s6 (CT_Wh hq ct f6) (SC_Wh hq sc f6) (SA_Wh hq sa f6) rfl (by omega) (by omega) (by omega) (by omega) (CW_FR cw5 (FR_SI h5 (P := P2) ⟨rfl, Or.inl rfl⟩) (by unfold P2; rcases hq with rfl | rfl <;> omega) (fun j => by unfold P2; rcases hq with rfl | rfl <;> omega)) hfl ?_
              intro h' p
              have z := H h'
              unfold wEnd at z
              simp only [if_pos hok, if_pos e6] at z
              exact z (wPost_pre f6 p)
            · intro e6 h' p
              exact H h' (wPost_pre f5' p)
          · refine ⟨_, rfl, ?_⟩
            rw [if_neg (by decide)]
            have z := H h4
            unfold wEnd at z
            rw [hno] at z
            exact z ⟨f4', fun y => by (cases y), fun _ => e4⟩
        · rw [if_pos (by rw [sl_8, sr_le (by omega) (by omega)]; omega)]
          exact hbad (fun y => e2 y.2) s1
      · rw [if_pos e1]
        exact hbad (fun y => e1 y.1) s1
    by_cases e0 : tCh B L (tSk B L a) = 115
    · rw [if_neg (fun y => y e0)]
      cases fl with
      | true =>
        rw [if_pos (by decide)]
        exact h71 (fun y => by (cases y.2)) _ ajU
      | false =>
        clear h71
        rw [if_neg (by decide)]
        rw [if_pos ⟨e0, rfl⟩] at H
        have hlt := tCh_lt e0 (by decide)
        refine S20 s1 ct1 rfl hlt ?_
        rw [ajSI_SI]
        intro s2
        refine ⟨rfl, ?_⟩
        have f2 : FR h (ajSI h 2 2 (nI (tSk B L a + 1))) (PWh q) := FR_SI h (Or.inl ⟨rfl, Or.inl rfl⟩)
        have k1 : ajKw (q + 1) 100 := ajKw_2_1 kk
        have hl1 : ∀ h : ajH, ajLen h (q + 1) = kLen false := fun h => ajLn_2_1 kk
        have hR2 : ∀ k, k < kLen false → ajI (ajSI h 2 2 (nI (tSk B L a + 1))) (q + 1) k = nI (kUs false k) := by
          intro k hk
          have hk : k < 4 := hk
          rw [ajI_SI, if_neg (by rcases hq with rfl | rfl <;> omega), c.2.1 k hk, hfl rfl k hk]
        have hgd := rIt_gd (B := B) (L := L) (b := false) (a := tSk B L a + 1) (by omega)
        refine S21 (b := false) (a := tSk B L a + 1) k1 hl1 (by rcases hq with rfl | rfl <;> omega) (by rcases hq with rfl | rfl <;> omega) s2 (CT_Wh hq ct f2) (SC_Wh hq sc f2) (SA_Wh hq sa f2) rfl (by omega) hR2 ?_
        intro h4 f4
        have f4' : FR h h4 (PWh q) := FR_trans f2 (FR_mono f4 (fun o j y => by unfold PI at y; unfold PWh; rcases y with y | y <;> simp [y]))
        rw [show pIt B L (ajStr (kQ false)) (kLo false) (kHi false) (kLen false) 0 (kUs false) (tSk B L a + 1) = rIt B L false (tSk B L a + 1) from rfl]
        generalize rIt B L false (tSk B L a + 1) = r at H hgd ⊢
        refine ⟨fun hok e4 hR4 s4 => ?_, fun hno e4 s4 => ?_⟩
        · refine ⟨_, rfl, ?_⟩
          rw [if_pos (by decide)]
          have r1 := eOK_1 hok
          have hgd2 := hgd.2 r1
          have cw4 : CW h4 q z r.2.2 FO := by
            refine ⟨(FR_I f4 (by unfold PI; rcases hq with rfl | rfl <;> omega)).trans (by rw [ajI_SI, if_neg (by rcases hq with rfl | rfl <;> omega)]; exact c.1), hR4, fun k hk => ?_⟩
            have hc := c.2.2 k hk
            have g : FR h h4 (fun o j => o = 2 ∨ o = q + 1) := FR_trans (FR_SI h (Or.inl rfl)) (FR_mono f4 (fun o j y => by unfold PI at y; rcases y with y | y <;> simp [y]))
            exact ⟨(FR_I g (by rcases hq with rfl | rfl <;> omega)).trans hc.1, (FR_I g (by rcases hq with rfl | rfl <;> omega)).trans hc.2.1, (FR_I g (by rcases hq with rfl | rfl <;> omega)).trans hc.2.2⟩
          obtain ⟨r0, ra, rR⟩ := r
          dsimp only at r1
          subst r1
          try dsimp only at e4
          try dsimp only at hgd
          try dsimp only at hgd2
          refine S16_128 (R := rR) (g := pWh B L F true z rR FO) (x2 := 1) hq s4 (CT_Wh hq ct f4') (by omega) e4 hgd.1 hgd2.2 hok cw4 hz ?_ ?_
          · intro e6 s6 u5
            have l6 := tCh_lt e6 (by decide)
            have f6 : FR h (ajSI h4 2 2 (nI (ra + 1))) (PWh q) := FR_trans f4' (FR_SI _ (Or.inl ⟨rfl, Or.inl rfl⟩))
            have hge := hgd2.1
            refine ih d _ Q true z (i + 1) (ra + 1) rR FO u5 s6 (CT_Wh hq ct f6) (SC_Wh hq sc f6) (SA_Wh hq sa f6) rfl (by omega) (by omega) (by omega) hz (CW_FR cw4 (FR_SI h4 (P := P2) ⟨rfl, Or.inl rfl⟩) (by unfold P2; rcases hq with rfl | rfl <;> omega) (fun j => by unfold P2; rcases hq with rfl | rfl <;> omega)) (fun y => by (cases y)) ?_
            intro h' p
            have z := H h'
            unfold wEnd at z
            simp only [if_pos hok, if_pos e6] at z
            exact z (wPost_pre f6 p)
          · intro e6 h' p
            exact H h' (wPost_pre f4' p)
        · refine ⟨_, rfl, ?_⟩
          rw [if_neg (by decide)]
          have z := H h4
          unfold wEnd at z
          rw [hno] at z
          exact z ⟨f4', fun y => by (cases y), fun _ => e4⟩
    · rw [if_pos e0]
      exact h71 (fun y => e0 y.1) _ ajU
def rWh (B : Nat → Nat) (L : Nat) : WR := pWh B L 240 false 0 (kUs false) (fun _ _ => 0) 0
theorem S16 {B : Nat → Nat} {L q d : Nat} {h : ajH} {Q : Option Value → ajH → Prop} (hq : kwW q) (hs : ajShp h) (ct : CT B L h) (sc : SC h) (sa : SA h) (H : ∀ h', wPost q (rWh B L) h h' → Q (some (.int (flg (rWh B L).1))) h') : ajEv (d + 5) 16 0 [.ref 2, .ref q, ajU, ajU, ajU, ajU] [] h Q := by
  have kk := kwW_k hq
  refine W16_0 hs kk ?_
  refine W17_0 hs kk ?_
  rintro _ rfl _ rfl s1
  refine ⟨rfl, ?_⟩
  refine W18_0 s1 ?_
  rintro _ rfl _ rfl s2
  refine ⟨rfl, ?_⟩
  generalize hh : ajSI (ajSI (ajCp (ajSI h q 0 0) (q + 1) 1000 0 0 4) 2 2 0) 2 3 (-1) = h1 at s2 ⊢
  have f1 : FR h h1 (PWh q) := by
    subst hh
    exact FR_trans (FR_trans (FR_trans (FR_SI h (Or.inr (Or.inl ⟨rfl, rfl⟩))) (FR_Cp _ (fun j _ _ => Or.inr (Or.inr (Or.inl rfl))))) (FR_SI _ (Or.inl ⟨rfl, Or.inl rfl⟩))) (FR_SI _ (Or.inl ⟨rfl, Or.inr rfl⟩))
  have e2 : ajI h1 2 2 = nI 0 := by subst hh; rfl
  have cw : CW h1 q 0 (kUs false) (fun _ _ => 0) := by
    subst hh
    refine ⟨?_, fun j hj => ?_, fun k hk => absurd hk (by omega)⟩
    · rw [ajI_SI, if_neg (by rcases hq with rfl | rfl <;> omega), ajI_SI, if_neg (by rcases hq with rfl | rfl <;> omega), ajI_Cp, if_neg (by omega), ajI_SI, if_pos ⟨rfl, rfl⟩]; rfl
    · rw [ajI_SI, if_neg (by rcases hq with rfl | rfl <;> omega), ajI_SI, if_neg (by rcases hq with rfl | rfl <;> omega), ajI_Cp, if_pos ⟨rfl, by omega, by omega⟩, ajI_SI, if_neg (by rcases hq with rfl | rfl <;> omega), Nat.zero_add, Nat.sub_zero]
      exact sa.1 j hj
  refine S16_15 hq 240 d h1 Q false 0 0 0 (kUs false) (fun _ _ => 0) ajU s2 (CT_Wh hq ct f1) (SC_Wh hq sc f1) (SA_Wh hq sa f1) e2 (Nat.zero_le _) (by omega) (by omega) (by omega) cw (fun _ j _ => rfl) ?_
  intro h' p
  exact H h' (wPost_pre f1 p)
