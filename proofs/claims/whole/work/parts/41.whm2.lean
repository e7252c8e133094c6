/-! The reference reads a whole wheel. -/
def PW0 (o j : Nat) : Prop := o = 320 ∧ (j = 5 ∨ j = 8 ∨ j = 9 ∨ j = 10 ∨ j = 11 ∨ j = 12 ∨ j = 25 ∨ j = 27) ∨ o = 326 ∨ o = 328
/-- what the reference's reading of a wheel leaves -/
def vPost (r : WR) (h h' : ajH) : Prop := (r.1 = true → ajI h' 320 11 = -1 ∧ MW h' r.2.2.1 r.2.2.2.1 r.2.2.2.2) ∧ (r.1 = false → ajI h' 320 11 = nI r.2.1)
theorem S146_106 {B : Nat → Nat} {L d a z : Nat} {RU : Nat → Nat} {FO : Nat → Nat → Nat} {R : Nat → Nat} {g : Nat → WR} {h : ajH} {Q : Option Value → ajH → Prop} {u1 : Value} (hs : ajShp h) (ct : MT B L 321 0 h) (ha : ajI h 320 10 = nI a) (hl : a ≤ L) (hsk : tSk B L a = a) (hf : ajI h 320 11 = -1) (mw : MW h z RU FO) (hz : z ≤ 8) (h59 : ¬ tCh B L a = 59)
    (H : ∀ h', FR h h' PN → vPost (wEnd B L g (true, a, R) z RU FO) h h' → Q none h') : ajEv (d + 1) 146 106 [.ref 320, u1] [] h Q := by
  refine W146_106 hs ?_
  rw [hf, if_neg (fun y => y rfl)]
  refine S150 hs ct ha hl ?_
  rw [hsk, ajSI_self h 320 10 ha]
  intro s1
  refine ⟨_, rfl, ?_⟩
  unfold wEnd eOK at H
  have hbad : (∀ h', FR h h' PN → ajI h' 320 11 = nI a → Q none h') → ajEv (d + 1) 146 130 [.ref 320, ajU] [] h Q := by
    intro HB
    refine W146_130 s1 ?_
    refine S151 s1 ha hf ?_
    intro _
    exact ⟨_, rfl, HB _ (FR_SI h (Or.inl ⟨rfl, by omega⟩)) rfl⟩
  by_cases e : tCh B L a = -1
  · rw [if_neg (fun y => y e), mw.1]
    have e1 : (true && (decide (tCh B L a = 59) || decide (tCh B L a = -1))) = true := by rw [decide_eq_true e, Bool.or_true]; rfl
    simp only [if_pos e1, if_neg h59] at H
    by_cases h3 : 3 ≤ z
    · rw [if_pos (by rw [sl_3, sr_le (by omega) (by omega)]; exact h3)]
      simp only [if_pos h3] at H
      exact H h (FR_refl _ _) ⟨fun _ => ⟨hf, mw⟩, fun y => by (cases y)⟩
    · rw [if_neg (by rw [sl_3, sr_le (by omega) (by omega)]; exact h3)]
      simp only [if_neg h3] at H
      exact hbad (fun h' f e => H h' f ⟨fun y => by (cases y), fun _ => e⟩)
  · rw [if_pos e]
    have e1 : (true && (decide (tCh B L a = 59) || decide (tCh B L a = -1))) = false := by rw [decide_eq_false e, decide_eq_false h59]; rfl
    simp only [e1, Bool.false_eq_true, if_false] at H
    exact hbad (fun h' f e => H h' f ⟨fun y => by (cases y), fun _ => e⟩)
theorem S146_50 {B : Nat → Nat} {L : Nat} : ∀ (F d : Nat) (h : ajH) (Q : Option Value → ajH → Prop) (fl : Bool) (z a : Nat) (RU : Nat → Nat) (FO : Nat → Nat → Nat), ajShp h → MT B L 321 0 h → SC h → ajI h 320 10 = nI a → a ≤ L → ajI h 320 11 = -1 → ajI h 320 27 = flg fl → MW h z RU FO → z ≤ 8 → 480 ≤ a + 2 * F →
    (∀ h', FR h h' PN → vPost (pWh B L F fl z RU FO a) h h' → Q none h') → ajEv (d + 7) 146 50 [.ref 320, .int 1] [] h Q := by
  intro F
  induction F with
  | zero => intro d h Q fl z a RU FO hs ct sc ha hl hf hfl mw hz h4 H; have := ct.2.2.2.1; omega
  | succ F ih =>
    intro d h Q fl z a RU FO hs ct sc ha hl hf hfl mw hz h4 H
    have c2 := ct.2.2.2.1
    have h6 := tSk_ge B L a
    have h7 := tSk_le B hl
    refine W146_50 hs ?_
    rw [if_neg (by decide), hf, if_neg (fun y => y rfl)]
    refine S149 hs ct sc ha hl hf hfl mw hz ?_
    intro h3 p3 s3
    refine ⟨rfl, ?_⟩
    have f3 := p3.1
    have ct3 := MT_N ct f3
    have sc3 := SC_N sc f3
    -- the fault stands
    have hflt : ∀ c, c ≤ L → ajI h3 320 11 = nI c → (∀ h', FR h h' PN → ajI h' 320 11 = nI c → Q none h') → (if ¬ (ajI h3 320 11) = -1 then ajEv (d + 7) 146 88 [.ref 320, .int 1] [.int 0] h3 Q else ajEv (d + 6) 150 0 [.ref 320] [] h3 (fun r h6 => ajShp h6 → ∃ x7, r = some (.int x7) ∧ (if ¬ x7 = 59 then ajEv (d + 7) 146 88 [.ref 320, .int 1] [.int 0] h6 Q else ajEv (d + 7) 146 88 [.ref 320, .int 1] [.int 1] h6 Q))) := by
      intro c hc e HF
      rw [e, if_pos (by rw [sr_neg1 (by omega)]; exact fun y => y)]
      refine W146_88 s3 ?_
      rw [if_pos rfl]
      refine W146_50 s3 ?_
      rw [if_pos rfl]
      refine W146_106 s3 ?_
      rw [e, if_pos (by rw [sr_neg1 (by omega)]; exact fun y => y)]
      exact HF h3 f3 e
    -- the clause went
    have hgood : ∀ (b : Bool) (fl' : Bool) (z' : Nat) (RU' : Nat → Nat) (FO' : Nat → Nat → Nat), z' ≤ 8 → tSk B L a < L → ajI h3 320 27 = flg fl' → MW h3 z' RU' FO' → ajI h3 320 11 = -1 → (rIt B L b (tSk B L a + 1)).1 = true → ajI h3 320 10 = nI (rIt B L b (tSk B L a + 1)).2.1 → (∀ h', FR h h' PN → vPost (wEnd B L (pWh B L F fl' z' RU' FO') (rIt B L b (tSk B L a + 1)) z' RU' FO') h h' → Q none h') → (if ¬ (ajI h3 320 11) = -1 then ajEv (d + 7) 146 88 [.ref 320, .int 1] [.int 0] h3 Q else ajEv (d + 6) 150 0 [.ref 320] [] h3 (fun r h6 => ajShp h6 → ∃ x7, r = some (.int x7) ∧ (if ¬ x7 = 59 then ajEv (d + 7) 146 88 [.ref 320, .int 1] [.int 0] h6 Q else ajEv (d + 7) 146 88 [.ref 320, .int 1] [.int 1] h6 Q))) := by
      intro b fl' z' RU' FO' hz' hlt e27 mw' e11 r1 e10 HG
      have hgd := rIt_gd (B := B) (L := L) (b := b) (a := tSk B L a + 1) (by omega)
      have hgd2 := hgd.2 r1
      rcases hr : rIt B L b (tSk B L a + 1) with ⟨r0, ra, rR⟩
      rw [hr] at hgd hgd2 r1 e10 HG
      dsimp only at hgd hgd2 r1 e10
      subst r1
      rw [e11, if_neg (fun y => y rfl)]
      refine S150 s3 ct3 e10 hgd.1 ?_
      rw [hgd2.2, ajSI_self h3 320 10 e10]
      intro s4
      refine ⟨_, rfl, ?_⟩
      by_cases e59 : tCh B L ra = 59
      · rw [if_neg (fun y => y e59)]
        have l59 := tCh_lt e59 (by decide)
        refine W146_88 s4 ?_
        rw [if_neg (by decide)]
        rintro _ rfl
        rw [e10, nI_1]
        have f4 : FR h3 (ajSI h3 320 10 (nI (ra + 1))) PN := FR_SI h3 (Or.inl ⟨rfl, by omega⟩)
        have hge := hgd2.1
        refine ih d _ Q fl' z' (ra + 1) RU' FO' s4 (MT_N ct3 f4) (SC_N sc3 f4) rfl (by omega) e11 e27 mw' hz' (by omega) ?_
        intro h' f p
        have z := HG h' (FR_trans f3 (FR_trans f4 f))
        unfold wEnd eOK at z
        have e1 : (true && (decide (tCh B L ra = 59) || decide (tCh B L ra = -1))) = true := by rw [decide_eq_true e59]; rfl
        simp only [if_pos e1, if_pos e59] at z
        exact z p
      · rw [if_pos e59]
        refine W146_88 s4 ?_
        rw [if_pos rfl]
        refine W146_50 s4 ?_
        rw [if_pos rfl]
        refine S146_106 (R := rR) (g := pWh B L F fl' z' RU' FO') s4 ct3 e10 hgd.1 hgd2.2 e11 mw' hz' e59 ?_
        intro h' f p
        exact HG h' (FR_trans f3 f) p
    have q := p3.2
    unfold pWh at H
    by_cases c1 : tCh B L (tSk B L a) = 115 ∧ fl = false
    · rw [if_pos c1] at q H
      have hlt := tCh_lt c1.1 (by decide)
      have hgd := rIt_gd (B := B) (L := L) (b := false) (a := tSk B L a + 1) (by omega)
      rcases q with ⟨q1, q2, q3, q4, q5⟩ | ⟨q1, q2⟩
      · exact hgood false true z _ FO hz hlt q1 q2 q3 q4 q5 H
      · refine hflt _ hgd.1 q2 (fun h' f e => H h' f ?_)
        unfold wEnd
        rw [q1, if_neg (by decide)]
        exact ⟨fun y => by (cases y), fun _ => e⟩
    · rw [if_neg c1] at q H
      by_cases c2 : tCh B L (tSk B L a) = 107 ∧ z < 8
      · rw [if_pos c2] at q H
        have hlt := tCh_lt c2.1 (by decide)
        have hgd := rIt_gd (B := B) (L := L) (b := true) (a := tSk B L a + 1) (by omega)
        rcases q with ⟨q1, q2, q3, q4, q5⟩ | ⟨q1, q2⟩
        · exact hgood true fl (z + 1) RU _ (by omega) hlt q1 q2 q3 q4 q5 H
        · refine hflt _ hgd.1 q2 (fun h' f e => H h' f ?_)
          unfold wEnd
          rw [q1, if_neg (by decide)]
          exact ⟨fun y => by (cases y), fun _ => e⟩
      · rw [if_neg c2] at q H
        exact hflt _ h7 q (fun h' f e => H h' f ⟨fun y => by (cases y), fun _ => e⟩)
theorem S146_25 {d : Nat} : ∀ (n i : Nat) (h : ajH) (Q : Option Value → ajH → Prop), i + n = 4 → ajShp h → (∀ j, j < i → ajI h 326 j = nI (kUs false j)) → (∀ h', ajShp h' → FR h h' (fun o _ => o = 326) → (∀ j, j < 4 → ajI h' 326 j = nI (kUs false j)) → ajEv (d + 1) 146 50 [.ref 320, .int 1] [] h' Q) → ajEv (d + 1) 146 25 [.ref 320, .int (nI i)] [] h Q := by
  intro n
  induction n with
  | zero =>
    intro i h Q hi hs hR H
    refine W146_25 hs ?_
    rw [if_pos (by rw [sl_4, sr_le (by omega) (by omega)]; omega)]
    exact H h hs (FR_refl _ _) (fun j hj => hR j (by omega))
  | succ n ih =>
    intro i h Q hi hs hR H
    refine W146_25 hs ?_
    rw [if_neg (by rw [sl_4, sr_le (by omega) (by omega)]; omega)]
    refine S148 (b := false) hs (by omega) ?_
    intro s1
    refine ⟨_, rfl, ?_⟩
    rw [sr_in (by omega), sr_N (by omega), nI_1]
    refine ⟨by omega, ?_⟩
    rintro _ rfl
    refine ih (i + 1) _ Q (by omega) s1 ?_ ?_
    · intro j hj
      rw [ajI_SI]
      by_cases e : j = i
      · rw [if_pos ⟨rfl, e⟩, e]
      · rw [if_neg (by omega)]; exact hR j (by omega)
    · intro h' s' f hR'
      exact H h' s' (FR_trans (FR_SI h rfl) f) hR'
theorem S146 {T : TP} {d : Nat} {h : ajH} {Q : Option Value → ajH → Prop} (hs : ajShp h) (c : TM T h) (sc : SC h)
    (H : ∀ h', FR h h' PM → vPost (rWh T.1 T.2) h h' → Q none h') : ajEv (d + 7) 146 0 [.ref 320, ajU] [] h Q := by
  refine W146_0 hs ?_
  refine W147_0 hs (ajKwi (ajKc rfl)) ?_
  rintro _ rfl _ rfl _ rfl _ rfl _ rfl
  intro s1
  refine ⟨rfl, ?_⟩
  rintro _ rfl _ rfl
  generalize hh : ajSI (ajSI (ajSI (ajSI (ajSI (ajSI (ajSR h 320 5 321) 320 8 0) 320 9 (ajI h 320 6)) 320 10 0) 320 11 (-1)) 320 25 0) 320 27 0 = h1
  have f1 : FR h h1 PM := by
    subst hh
    exact FR_trans (FR_trans (FR_trans (FR_trans (FR_trans (FR_trans (FR_SR h (show PM 320 5 from Or.inl ⟨rfl, by omega⟩)) (FR_SI _ (show PM 320 8 from Or.inl ⟨rfl, by omega⟩))) (FR_SI _ (show PM 320 9 from Or.inl ⟨rfl, by omega⟩))) (FR_SI _ (show PM 320 10 from Or.inl ⟨rfl, by omega⟩))) (FR_SI _ (show PM 320 11 from Or.inl ⟨rfl, by omega⟩))) (FR_SI _ (show PM 320 25 from Or.inl ⟨rfl, by omega⟩))) (FR_SI _ (show PM 320 27 from Or.inl ⟨rfl, by omega⟩))
  have s2 : ajShp h1 := by subst hh; exact s1
  have e5 : ajR h1 320 5 = 321 := by subst hh; rfl
  have e8 : ajI h1 320 8 = nI 0 := by subst hh; rfl
  have e9 : ajI h1 320 9 = nI T.2 := by subst hh; exact c.1
  have e10 : ajI h1 320 10 = nI 0 := by subst hh; rfl
  have e11 : ajI h1 320 11 = -1 := by subst hh; rfl
  have e25 : ajI h1 320 25 = nI 0 := by subst hh; rfl
  have e27 : ajI h1 320 27 = flg false := by subst hh; rfl
  have ct : MT T.1 T.2 321 0 h1 := ⟨e5, e8, e9, c.2.1, Or.inl ⟨rfl, rfl⟩, c.2.2.1, fun k hk => by
    rw [Nat.zero_add, ← c.2.2.2 k hk]
    exact FR_I f1 (by unfold PM; omega)⟩
  have sc1 : SC h1 := SC_FR sc f1 (fun o j ho => by unfold PM; omega)
  clear hh s1
  refine S146_25 4 0 h1 Q (by omega) s2 (fun j hj => absurd hj (by omega)) ?_
  intro h2 s3 f2 hR
  have f2' : FR h1 h2 PN := FR_mono f2 (fun o j y => Or.inr (Or.inl y))
  refine S146_50 240 d h2 Q false 0 0 (kUs false) (fun _ _ => 0) s3 (MT_N ct f2') (SC_N sc1 f2') ((FR_I f2 (by omega)).trans e10) (Nat.zero_le _) ((FR_I f2 (by omega)).trans e11) ((FR_I f2 (by omega)).trans e27) ⟨(FR_I f2 (by omega)).trans e25, hR, fun k hk => absurd hk (by omega)⟩ (by omega) (by omega) ?_
  intro h' f p
  exact H h' (FR_trans f1 (FR_mono (FR_trans f2' f) PN_M)) p
