/-! Journeys told as texts: what they are; both sides read them. -/
/-- a step: whether it goes, where it ends, what, its digit -/
def jSt (B : Nat → Nat) (L a : Nat) : Bool × Nat × Nat × Int32 :=
  if ixG (tCh B L (tSk B L a)) (ajStr 1013) 0 = -1 then (false, tSk B L a, 0, -1)
  else if (ixG (tCh B L (tSk B L a)) (ajStr 1013) 0).toNatClampNeg < 2 then (true, tSk B L a + 1, (ixG (tCh B L (tSk B L a)) (ajStr 1013) 0).toNatClampNeg, -1)
  else ((tNr B L 1 0 9 (tSk B L a + 1)).1, (tNr B L 1 0 9 (tSk B L a + 1)).2.1, (ixG (tCh B L (tSk B L a)) (ajStr 1013) 0).toNatClampNeg, nI (tNr B L 1 0 9 (tSk B L a + 1)).2.2)
abbrev JR : Type := Bool × Nat × Nat × (Nat → Nat) × (Nat → Int32)
def pJ (B : Nat → Nat) (L : Nat) : Nat → Nat → (Nat → Nat) → (Nat → Int32) → Nat → JR
  | 0, n, K, D, a => (false, a, n, K, D)
  | F + 1, n, K, D, a => if (jSt B L a).1 = true then
      (if tCh B L (tSk B L (jSt B L a).2.1) = 59 then (if n + 1 = 16 then (false, tSk B L (jSt B L a).2.1, n, K, D) else pJ B L F (n + 1) (fun k => if k = n then (jSt B L a).2.2.1 else K k) (fun k => if k = n then (jSt B L a).2.2.2 else D k) (tSk B L (jSt B L a).2.1 + 1))
       else if tCh B L (tSk B L (jSt B L a).2.1) = -1 then (true, tSk B L (jSt B L a).2.1, n + 1, (fun k => if k = n then (jSt B L a).2.2.1 else K k), (fun k => if k = n then (jSt B L a).2.2.2 else D k))
       else (false, tSk B L (jSt B L a).2.1, n, K, D))
    else (false, (jSt B L a).2.1, n, K, D)
theorem s13 : sTx 1013 := by unfold sTx; omega
theorem jSt_gd {B : Nat → Nat} {L a : Nat} (ha : a ≤ L) : (jSt B L a).2.1 ≤ L ∧ ((jSt B L a).1 = true → a < (jSt B L a).2.1 ∧ (jSt B L a).2.2.1 < 4) := by
  have h6 := tSk_ge B L a
  have h7 := tSk_le B ha
  unfold jSt
  split
  · exact ⟨h7, fun z => by cases z⟩
  · rename_i hx
    have hlt := ixG_lt s13 hx
    have hw : (ixG (tCh B L (tSk B L a)) (ajStr 1013) 0).toNatClampNeg < 4 := by
      rcases ixG_in (tCh B L (tSk B L a)) (ajStr 1013) 0 with e | ⟨j, _, hj, e⟩
      · exact absurd e hx
      · have hj : j < 0 + 4 := hj
        rw [e, sr_N (by omega)]; omega
    split
    · exact ⟨by show tSk B L a + 1 ≤ L; omega, fun _ => ⟨by show a < tSk B L a + 1; omega, hw⟩⟩
    · have hn := tNr_gd (B := B) (L := L) (k := 1) (lo := 0) (hi := 9) (a := tSk B L a + 1) (by omega) (by omega)
      exact ⟨hn.1, fun z => ⟨by have := (hn.2 z).1; show a < (tNr B L 1 0 9 (tSk B L a + 1)).2.1; omega, hw⟩⟩
/-- a journey of the class holds so much -/
def CJ (h : ajH) (q n : Nat) (K : Nat → Nat) (D : Nat → Int32) : Prop := ajI h q 0 = nI n ∧ ∀ k, k < n → ajI h (q + 1) k = nI (K k) ∧ ajI h (q + 2) k = D k
def PJ (o j : Nat) : Prop := o = 2 ∧ (j = 2 ∨ j = 3) ∨ o = 51 ∧ j = 0 ∨ o = 52 ∨ o = 53
theorem P2_J : ∀ o j, P2 o j → PJ o j := fun _ _ z => Or.inl z
theorem CT_J {B : Nat → Nat} {L : Nat} {h h' : ajH} (c : CT B L h) (f : FR h h' PJ) : CT B L h' := CT_FR c f (by unfold PJ; omega) (fun k _ => by unfold PJ; omega)
theorem SC_J {h h' : ajH} (c : SC h) (f : FR h h' PJ) : SC h' := SC_FR c f (fun o j ho => by unfold PJ; omega)
theorem CJ_2 {h h' : ajH} {n : Nat} {K : Nat → Nat} {D : Nat → Int32} (c : CJ h 51 n K D) (f : FR h h' P2) : CJ h' 51 n K D :=
  ⟨(FR_I f (by unfold P2; omega)).trans c.1, fun k hk => ⟨(FR_I f (by unfold P2; omega)).trans (c.2 k hk).1, (FR_I f (by unfold P2; omega)).trans (c.2 k hk).2⟩⟩
theorem S41 {d n w : Nat} {h : ajH} {Q : Option Value → ajH → Prop} {K : Nat → Nat} {D : Nat → Int32} {x : Int32} (hs : ajShp h) (c : CJ h 51 n K D) (hn : n < 16) (H : ∀ h', FR h h' (fun o j => o = 51 ∧ j = 0 ∨ o = 52 ∨ o = 53) → CJ h' 51 (n + 1) (fun k => if k = n then w else K k) (fun k => if k = n then x else D k) → Q none h') : ajEv d 41 0 [.ref 51, .int (nI w), .int x] [] h Q := by
  have c1 := c.1
  refine W41_0 hs (ajKc rfl) ?_
  rw [c1, if_neg (by rw [sl_16, sr_le (by omega) (by omega)]; omega), sr_in (by omega), sr_N (by omega)]
  refine ⟨hn, ?_⟩
  rintro _ rfl
  rw [show ajI (ajSI h (51 + 1) n (nI w)) 51 0 = nI n from c1, sr_in (by omega), sr_N (by omega)]
  refine ⟨hn, ?_⟩
  rintro _ rfl _ rfl
  rw [show ajI (ajSI (ajSI h (51 + 1) n (nI w)) (51 + 2) n x) 51 0 = nI n from c1, nI_1]
  refine H _ (FR_trans (FR_trans (FR_SI h (Or.inr (Or.inl rfl))) (FR_SI _ (Or.inr (Or.inr rfl)))) (FR_SI _ (Or.inl ⟨rfl, rfl⟩))) ⟨rfl, fun k hk => ?_⟩
  simp only [ajI_SI]
  by_cases e : k = n
  · subst e; simp
  · have hc := c.2 k (by omega)
    simp [e]
    exact hc
def jPost (r : JR) (h h' : ajH) : Prop := FR h h' PJ ∧ (r.1 = true → CJ h' 51 r.2.2.1 r.2.2.2.1 r.2.2.2.2) ∧ (r.1 = false → ajI h' 2 3 = nI r.2.1)
theorem jPost_pre {r : JR} {h h1 h' : ajH} (f : FR h h1 PJ) (p : jPost r h1 h') : jPost r h h' := ⟨FR_trans f p.1, p.2⟩
theorem S40_133 {B : Nat → Nat} {L a d : Nat} {h : ajH} {Q : Option Value → ajH → Prop} {u1 u2 u3 u4 u5 u6 : Value} (hs : ajShp h) (ct : CT B L h) (ha : ajI h 2 2 = nI a) (hl : a ≤ L) (hsk : tSk B L a = a)
    (H1 : tCh B L a = -1 → Q (some (.int 1)) h) (H0 : ¬ tCh B L a = -1 → ∀ h', FR h h' P2 → ajI h' 2 3 = nI a → Q (some (.int 0)) h') : ajEv (d + 1) 40 133 [.ref 2, u1, u2, u3, u4, u5, u6] [] h Q := by
  refine W40_133 hs ?_
  refine S19 hs ct ha hl ?_
  rw [hsk, ajSI_self h 2 2 ha]
  intro s1
  refine ⟨_, rfl, ?_⟩
  by_cases e : tCh B L a = -1
  · rw [if_pos e]; exact H1 e
  · rw [if_neg e]
    refine S22 s1 ?_
    intro _
    refine ⟨_, rfl, ?_⟩
    rw [if_pos rfl]
    exact H0 e _ (FR_SI h ⟨rfl, Or.inr rfl⟩) (by rw [ajI_SI, if_pos ⟨rfl, rfl⟩]; exact ha)
theorem S40_13 {B : Nat → Nat} {L : Nat} : ∀ (F d : Nat) (h : ajH) (Q : Option Value → ajH → Prop) (n a : Nat) (K : Nat → Nat) (D : Nat → Int32) (u4 u5 u6 : Value), ajShp h → CT B L h → SC h → ajI h 2 2 = nI a → a ≤ L → n + F = 16 → n < 16 → CJ h 51 n K D →
    (∀ h', jPost (pJ B L F n K D a) h h' → Q (some (.int (flg (pJ B L F n K D a).1))) h') → ajEv (d + 4) 40 13 [.ref 2, .ref 51, .int 1, .int (nI n), u4, u5, u6] [] h Q := by
  intro F
  induction F with
  | zero => intro d h Q n a K D u4 u5 u6 hs ct sc ha hl hn hn2 c H; omega
  | succ F ih =>
    intro d h Q n a K D u4 u5 u6 hs ct sc ha hl hn hn2 c H
    have c2 := ct.2.1
    have h6 := tSk_ge B L a
    have h7 := tSk_le B hl
    have kk : ajKw 51 4 := ajKc rfl
    have f1 : FR h (ajSI h 2 2 (nI (tSk B L a))) P2 := FR_SI h ⟨rfl, Or.inl rfl⟩
    have ct1 : CT B L (ajSI h 2 2 (nI (tSk B L a))) := by rw [CT_2 (by decide)]; exact ct
    have sc1 : SC (ajSI h 2 2 (nI (tSk B L a))) := SC_J sc (FR_mono f1 P2_J)
    have cj1 := CJ_2 c f1
    have hgd := jSt_gd (B := B) (L := L) hl
    unfold pJ at H
    refine W40_13 hs kk ?_
    rw [if_neg (by decide), if_neg (by rw [sl_16, sr_le (by omega) (by omega)]; omega)]
    refine S19 hs ct ha hl ?_
    intro s1
    refine ⟨_, rfl, ?_⟩
    -- what follows a step that goes
    have hgo : ∀ (h3 : ajH) (p w : Nat) (x : Int32), jSt B L a = (true, p, w, x) → ajShp h3 → FR h h3 P2 → ajI h3 2 2 = nI p → ∀ u2 u4 : Value, ajEv (d + 4) 40 95 [.ref 2, .ref 51, u2, .int (nI n), u4, .int (nI w), .int x] [] h3 Q := by
      intro h3 p w x ej s3 f3 e3 u2 u4
      rw [ej] at H hgd
      simp only [if_true] at H
      have hp := hgd.1
      have hp2 := hgd.2 rfl
      dsimp only at hp hp2
      have ct3 := CT_J ct (FR_mono f3 P2_J)
      refine W40_95 s3 kk ?_
      refine S41 s3 (CJ_2 c f3) hn2 ?_
      intro h4 f4 cj4 s4
      refine ⟨rfl, ?_⟩
      have f4' : FR h h4 PJ := FR_trans (FR_mono f3 P2_J) (FR_mono f4 (fun o j y => by unfold PJ; omega))
      have e4 : ajI h4 2 2 = nI p := (FR_I f4 (by omega)).trans e3
      have ct4 := CT_J ct f4'
      have h8 := tSk_ge B L p
      have h9 := tSk_le B hp
      rw [cj4.1, nI_1]
      by_cases e16 : n + 1 = 16
      · rw [if_pos (by rw [sl_16, sr_le (by omega) (by omega)]; omega)]
        refine W40_13 s4 kk ?_
        rw [if_pos rfl]
        refine W40_133 s4 ?_
        refine S19 s4 ct4 e4 hp ?_
        intro s5
        refine ⟨_, rfl, ?_⟩
        have f5 : FR h (ajSI h4 2 2 (nI (tSk B L p))) PJ := FR_trans f4' (FR_SI _ (Or.inl ⟨rfl, Or.inl rfl⟩))
        have hbad : ∀ s5 : ajShp (ajSI h4 2 2 (nI (tSk B L p))), (∀ h', FR h h' PJ → ajI h' 2 3 = nI (tSk B L p) → Q (some (.int 0)) h') → ajEv (d + 3) 22 0 [.ref 2] [] (ajSI h4 2 2 (nI (tSk B L p))) (fun r h5 => ajShp h5 → ∃ x6, r = some (.int x6) ∧ (if x6 = 0 then Q (some (.int 0)) h5 else Q (some (.int 1)) h5)) := by
          intro s5 HB
          refine S22 s5 ?_
          intro _
          refine ⟨_, rfl, ?_⟩
          rw [if_pos rfl]
          exact HB _ (FR_trans f5 (FR_SI _ (Or.inl ⟨rfl, Or.inr rfl⟩))) rfl
        by_cases e59 : tCh B L (tSk B L p) = 59
        · simp only [if_pos e59, if_pos e16] at H
          rw [if_neg (by rw [e59]; decide)]
          exact hbad s5 (fun h' f e => H h' ⟨f, fun y => by (cases y), fun _ => e⟩)
        · simp only [if_neg e59] at H
          by_cases e1 : tCh B L (tSk B L p) = -1
          · simp only [if_pos e1] at H
            rw [if_pos e1]
            exact H _ ⟨f5, fun _ => CJ_2 cj4 (FR_SI _ ⟨rfl, Or.inl rfl⟩), fun y => by (cases y)⟩
          · simp only [if_neg e1] at H
            rw [if_neg e1]
            exact hbad s5 (fun h' f e => H h' ⟨f, fun y => by (cases y), fun _ => e⟩)
      · rw [if_neg (by rw [sl_16, sr_le (by omega) (by omega)]; omega)]
        refine S27 s4 ct4 e4 hp (by decide) ?_ ?_
        · intro e59 l59 s5
          refine ⟨_, rfl, ?_⟩
          rw [if_neg (by decide)]
          simp only [if_pos e59, if_neg e16] at H
          have f5 : FR h (ajSI h4 2 2 (nI (tSk B L p + 1))) PJ := FR_trans f4' (FR_SI _ (Or.inl ⟨rfl, Or.inl rfl⟩))
          refine ih d _ Q (n + 1) (tSk B L p + 1) (fun k => if k = n then w else K k) (fun k => if k = n then x else D k) _ _ _ s5 (CT_J ct f5) (SC_J sc f5) rfl (by omega) (by omega) (by omega) (CJ_2 cj4 (FR_SI _ ⟨rfl, Or.inl rfl⟩)) ?_
          intro h' q
          exact H h' (jPost_pre f5 q)
        · intro e59 s5
          refine ⟨_, rfl, ?_⟩
          rw [if_pos rfl]
          simp only [if_neg e59] at H
          have f5 : FR h (ajSI h4 2 2 (nI (tSk B L p))) PJ := FR_trans f4' (FR_SI _ (Or.inl ⟨rfl, Or.inl rfl⟩))
          refine W40_13 s5 kk ?_
          rw [if_pos rfl]
          refine S40_133 (a := tSk B L p) s5 (CT_J ct f5) rfl h9 (tSk_id B L p) ?_ ?_
          · intro e1
            simp only [if_pos e1] at H
            exact H _ ⟨f5, fun _ => CJ_2 cj4 (FR_SI _ ⟨rfl, Or.inl rfl⟩), fun y => by (cases y)⟩
          · intro e1 h' f e
            simp only [if_neg e1] at H
            exact H h' ⟨FR_trans f5 (FR_mono f P2_J), fun y => by (cases y), fun _ => e⟩
    have hfail : ixG (tCh B L (tSk B L a)) (ajStr 1013) 0 = -1 → ∀ u2 u4 u5 u6 : Value, ajEv (d + 4) 40 47 [.ref 2, .ref 51, u2, .int (nI n), u4, u5, u6] [.int (-1)] (ajSI h 2 2 (nI (tSk B L a))) Q := by
      intro e u2 u4 u5 u6
      have ej : jSt B L a = (false, tSk B L a, 0, -1) := by unfold jSt; rw [if_pos e]
      rw [ej] at H
      simp only [Bool.false_eq_true, if_false] at H
      refine W40_47 s1 kk ?_
      rw [if_neg (by decide)]
      refine S22 s1 ?_
      intro _
      exact ⟨_, rfl, Or.inl rfl, H _ ⟨FR_trans (FR_mono f1 P2_J) (FR_SI _ (Or.inl ⟨rfl, Or.inr rfl⟩)), fun y => by (cases y), fun _ => rfl⟩⟩
    by_cases e0 : tCh B L (tSk B L a) = -1
    · rw [if_neg (fun z => z e0)]
      exact hfail (by rw [e0]; exact ixG_m1 _ _ (ajStr_mem _ s13)) _ _ _ _
    · rw [if_pos e0]
      have hlt : tSk B L a < L := by
        by_cases z : tSk B L a < L
        · exact z
        · exact absurd (tCh_end (by omega)) e0
      refine S252t s1 sc1 ct.2.2.1 s13 hlt ?_
      intro _
      refine ⟨_, rfl, ?_⟩
      rcases ixG_in (tCh B L (tSk B L a)) (ajStr 1013) 0 with e3 | ⟨w, _, hw, e3⟩
      · rw [e3]; exact hfail e3 _ _ _ _
      · have hw : w < 0 + 4 := hw
        have en : ¬ nI w = -1 := by rw [sr_neg1 (by omega)]; exact fun z => z
        rw [e3]
        refine W40_47 s1 kk ?_
        rw [if_pos (nI_pos' (by omega))]
        refine S20 s1 ct1 rfl hlt ?_
        rw [ajSI_SI]
        intro s2
        refine ⟨rfl, ?_⟩
        have f2 : FR h (ajSI h 2 2 (nI (tSk B L a + 1))) P2 := FR_SI h ⟨rfl, Or.inl rfl⟩
        have hdig : 2 ≤ w → ∀ u2 u4 u6 : Value, ajEv (d + 4) 40 78 [.ref 2, .ref 51, u2, .int (nI n), u4, .int (nI w), u6] [] (ajSI h 2 2 (nI (tSk B L a + 1))) Q := by
          intro hw2 u2 u4 u6
          have ej : jSt B L a = ((tNr B L 1 0 9 (tSk B L a + 1)).1, (tNr B L 1 0 9 (tSk B L a + 1)).2.1, w, nI (tNr B L 1 0 9 (tSk B L a + 1)).2.2) := by
            unfold jSt
            rw [e3, if_neg en, sr_N (by omega), if_neg (by omega)]
          have hn1 := tNr_gd (B := B) (L := L) (k := 1) (lo := 0) (hi := 9) (a := tSk B L a + 1) (by omega) (by omega)
          refine W40_78 s2 kk ?_
          refine S23 (k := 1) (lo := 0) (hi := 9) s2 (by rw [CT_2 (by decide)]; exact ct) (by omega) (by omega) (by omega) (by omega) rfl (by omega) ?_
          intro h3 f3
          refine ⟨fun hok e4 s3 => ?_, fun hno e4 s3 => ?_⟩
          · refine ⟨_, rfl, ?_⟩
            have hv := hn1.2 hok
            rw [if_pos (nI_pos' (by omega))]
            exact hgo h3 (tNr B L 1 0 9 (tSk B L a + 1)).2.1 w (nI (tNr B L 1 0 9 (tSk B L a + 1)).2.2) (by rw [ej, hok]) s3 (FR_trans f2 f3) e4 _ _
          · refine ⟨_, rfl, ?_⟩
            rw [if_neg (by decide)]
            rw [ej] at H
            simp only [hno, Bool.false_eq_true, if_false] at H
            exact H h3 ⟨FR_mono (FR_trans f2 f3) P2_J, fun y => by (cases y), fun _ => e4⟩
        by_cases w2 : w = 2
        · rw [if_pos (by rw [w2]; rfl)]
          exact hdig (by omega) _ _ _
        · rw [if_neg (by rw [sl_2, sr_eq (by omega) (by omega)]; exact w2)]
          by_cases w3 : w = 3
          · rw [if_neg (fun z => z (by rw [w3]; rfl))]
            exact hdig (by omega) _ _ _
          · rw [if_pos (by rw [sl_3, sr_eq (by omega) (by omega)]; exact w3)]
            refine hgo _ (tSk B L a + 1) w (-1) ?_ s2 f2 rfl _ _
            unfold jSt
            rw [e3, if_neg en, sr_N (by omega), if_pos (by omega)]
def rJ (B : Nat → Nat) (L : Nat) : JR := pJ B L 16 0 (fun _ => 0) (fun _ => 0) 0
theorem S40 {B : Nat → Nat} {L d : Nat} {h : ajH} {Q : Option Value → ajH → Prop} (hs : ajShp h) (ct : CT B L h) (sc : SC h) (H : ∀ h', jPost (rJ B L) h h' → Q (some (.int (flg (rJ B L).1))) h') : ajEv (d + 4) 40 0 [.ref 2, .ref 51, ajU, ajU, ajU, ajU, ajU] [] h Q := by
  refine W40_0 hs (ajKc rfl) ?_
  rintro _ rfl
  refine W18_0 hs ?_
  rintro _ rfl _ rfl s2
  refine ⟨rfl, ?_⟩
  have f1 : FR h (ajSI (ajSI (ajSI h 51 0 0) 2 2 0) 2 3 (-1)) PJ := FR_trans (FR_trans (FR_SI h (show PJ 51 0 from Or.inr (Or.inl ⟨rfl, rfl⟩))) (FR_SI _ (show PJ 2 2 from Or.inl ⟨rfl, Or.inl rfl⟩))) (FR_SI _ (show PJ 2 3 from Or.inl ⟨rfl, Or.inr rfl⟩))
  refine S40_13 16 d _ Q 0 0 (fun _ => 0) (fun _ => 0) _ _ _ s2 (CT_J ct f1) (SC_J sc f1) rfl (Nat.zero_le _) (by omega) (by omega) ⟨rfl, fun k hk => absurd hk (by omega)⟩ ?_
  intro h' p
  exact H h' (jPost_pre f1 p)
/-! the reference -/
def MJ (h : ajH) (n : Nat) (K : Nat → Nat) (D : Nat → Int32) : Prop := ∀ k, k < n → ajI h 329 (128 + 2 * k) = nI (K k) ∧ ajI h 329 (128 + 2 * k + 1) = D k
def PK (o j : Nat) : Prop := o = 320 ∧ (j = 10 ∨ j = 11 ∨ j = 12) ∨ o = 329 ∧ 128 ≤ j ∨ o = 330 ∧ j = 4
theorem P10_K : ∀ o j, P10 o j → PK o j := fun _ _ z => Or.inl z
theorem MT_K {B : Nat → Nat} {L : Nat} {h h' : ajH} (c : MT B L 321 0 h) (f : FR h h' PK) : MT B L 321 0 h' := MT_FR c f (by unfold PK; omega) (by unfold PK; omega) (by unfold PK; omega) (fun j => ⟨by unfold PK; omega, by unfold PK; omega⟩)
theorem SC_K {h h' : ajH} (c : SC h) (f : FR h h' PK) : SC h' := SC_FR c f (fun o j ho => by unfold PK; omega)
/-- a step of the reference: it goes; or the fault is laid; or it will be, there -/
def sPost (B : Nat → Nat) (L n : Nat) (s : Bool × Nat × Nat × Int32) (h h' : ajH) : Prop := FR h h' (fun o j => P10 o j ∨ o = 329 ∧ (j = 128 + 2 * n ∨ j = 128 + 2 * n + 1)) ∧
  (s.1 = true ∧ ajI h' 320 11 = -1 ∧ ajI h' 320 10 = nI s.2.1 ∧ ajI h' 329 (128 + 2 * n) = nI s.2.2.1 ∧ ajI h' 329 (128 + 2 * n + 1) = s.2.2.2 ∨ s.1 = false ∧ ajI h' 320 11 = nI s.2.1 ∨ s.1 = false ∧ ajI h' 320 11 = -1 ∧ ajI h' 320 10 = nI s.2.1 ∧ tSk B L s.2.1 = s.2.1 ∧ ¬ tCh B L s.2.1 = 59 ∧ ¬ tCh B L s.2.1 = -1)
theorem S175 {B : Nat → Nat} {L n d a : Nat} {h : ajH} {Q : Option Value → ajH → Prop} (hn : n < 16) (hs : ajShp h) (ct : MT B L 321 0 h) (sc : SC h) (ha : ajI h 320 10 = nI a) (hl : a ≤ L) (hf : ajI h 320 11 = -1)
    (H : ∀ h', sPost B L n (jSt B L a) h h' → Q none h') : ajEv (d + 5) 175 0 [.ref 320, .int (nI (128 + 2 * n)), ajU, ajU] [] h Q := by
  have c2 := ct.2.2.2.1
  have cB := ct.2.2.2.2.2.1
  have h6 := tSk_ge B L a
  have h7 := tSk_le B hl
  refine W175_0 hs ?_
  refine S150 hs ct ha hl ?_
  intro s1
  refine ⟨_, rfl, ?_⟩
  have f1 : FR h (ajSI h 320 10 (nI (tSk B L a))) P10 := FR_SI h P10a
  refine S153 s1 (SC_10 sc f1) s13 ?_
  intro _
  refine ⟨_, rfl, ?_⟩
  unfold jSt at H
  have hP : ∀ o j, P10 o j → (fun o j => P10 o j ∨ o = 329 ∧ (j = 128 + 2 * n ∨ j = 128 + 2 * n + 1)) o j := fun o j z => Or.inl z
  rcases ixG_in (tCh B L (tSk B L a)) (ajStr 1013) 0 with e | ⟨w, _, hw, e⟩
  · rw [if_pos e] at H
    rw [e, if_neg (fun z => z rfl)]
    refine S151 (a := tSk B L a) s1 rfl hf ?_
    intro _
    exact ⟨_, rfl, H _ ⟨FR_mono (FR_trans f1 (FR_SI _ P10f)) hP, Or.inr (Or.inl ⟨rfl, rfl⟩)⟩⟩
  · have hw : w < 0 + 4 := hw
    have en : ¬ nI w = -1 := by rw [sr_neg1 (by omega)]; exact fun z => z
    have hlt := ixG_lt (B := B) (L := L) (a := tSk B L a) s13 (by rw [e]; exact en)
    rw [e, if_neg en, sr_N (by omega)] at H
    rw [e, if_pos en]
    rintro _ rfl
    rw [ajSI_SI, ajI_SI, if_pos ⟨rfl, rfl⟩, nI_1, nI_1, sr_in (by omega), sr_N (by omega)]
    refine ⟨by omega, ?_⟩
    rintro _ rfl
    rw [sr_in (by omega), sr_N (by omega)]
    refine ⟨by omega, ?_⟩
    rintro _ rfl
    generalize hh : ajSI (ajSI (ajSI h 320 10 (nI (tSk B L a + 1))) 329 (128 + 2 * n) (nI w)) 329 (128 + 2 * n + 1) (-1) = h2
    have f2 : FR h h2 (fun o j => P10 o j ∨ o = 329 ∧ (j = 128 + 2 * n ∨ j = 128 + 2 * n + 1)) := by
      subst hh
      exact FR_trans (FR_trans (FR_SI h (Or.inl P10a)) (FR_SI _ (Or.inr ⟨rfl, Or.inl rfl⟩))) (FR_SI _ (Or.inr ⟨rfl, Or.inr rfl⟩))
    have s2 : ajShp h2 := by subst hh; exact s1
    have e10 : ajI h2 320 10 = nI (tSk B L a + 1) := by subst hh; rfl
    have e11 : ajI h2 320 11 = -1 := by subst hh; exact hf
    have eK : ajI h2 329 (128 + 2 * n) = nI w := by subst hh; rw [ajI_SI, if_neg (by omega), ajI_SI, if_pos ⟨rfl, rfl⟩]
    have eD : ajI h2 329 (128 + 2 * n + 1) = -1 := by subst hh; rw [ajI_SI, if_pos ⟨rfl, rfl⟩]
    have ct2 : MT B L 321 0 h2 := MT_FR ct f2 (by unfold P10; omega) (by unfold P10; omega) (by unfold P10; omega) (fun j => ⟨by unfold P10; omega, by unfold P10; omega⟩)
    clear hh
    by_cases hw2 : w < 2
    · rw [if_pos hw2] at H
      rw [if_neg (by rw [sl_2, sr_le (by omega) (by omega)]; omega)]
      exact H h2 ⟨f2, Or.inl ⟨rfl, e11, e10, eK, eD⟩⟩
    · rw [if_neg hw2] at H
      rw [if_pos (by rw [sl_2, sr_le (by omega) (by omega)]; omega)]
      have h9 := tSk_le B (show tSk B L a + 1 ≤ L by omega)
      refine S150 (a := tSk B L a + 1) s2 ct2 e10 (by omega) ?_
      intro s3
      refine ⟨_, rfl, ?_⟩
      have f3 : FR h2 (ajSI h2 320 10 (nI (tSk B L (tSk B L a + 1)))) P10 := FR_SI h2 P10a
      refine S158 (a := tSk B L (tSk B L a + 1)) s3 (MT_10 ct2 f3) rfl h9 ?_
      intro _
      refine ⟨_, rfl, ?_⟩
      unfold tNr at H
      generalize tSk B L (tSk B L a + 1) = b at *
      by_cases hd : b < L ∧ 48 ≤ B b ∧ B b ≤ 57
      · have et : tNum B L 1 b 0 = (b + 1, 0 * 10 + (B b - 48)) := by unfold tNum; rw [if_pos hd]; rfl
        rw [if_pos hd, et] at H
        rw [if_pos hd, if_pos (by decide)]
        rintro _ rfl
        rw [ajSI_SI, ajI_SI, if_pos ⟨rfl, rfl⟩, nI_1]
        refine ⟨by omega, ?_⟩
        rintro _ rfl
        have hb := cB b
        have e0 : tCh B L b - 48 = nI (0 * 10 + (B b - 48)) := by
          rw [tCh_in hd.1, sl_48, sr_sub hd.2.1]
          exact congrArg nI (by omega)
        rw [e0]
        have f4 : FR h (ajSI (ajSI h2 320 10 (nI (b + 1))) 329 (128 + 2 * n + 1) (nI (0 * 10 + (B b - 48)))) (fun o j => P10 o j ∨ o = 329 ∧ (j = 128 + 2 * n ∨ j = 128 + 2 * n + 1)) := FR_trans (FR_trans f2 (FR_SI _ (Or.inl P10a))) (FR_SI _ (Or.inr ⟨rfl, Or.inr rfl⟩))
        by_cases hd2 : b + 1 < L ∧ 48 ≤ B (b + 1) ∧ B (b + 1) ≤ 57
        · dsimp only at H
          rw [if_pos hd2] at H
          have hb2 := cB (b + 1)
          refine H _ ⟨f4, Or.inr (Or.inr ⟨rfl, e11, rfl, ?_, ?_, ?_⟩)⟩
          · exact tSk_stop (B := B) (a := b + 1) hd2.1 (fun z => by rw [z] at hd2; omega)
          · show ¬ tCh B L (b + 1) = 59
            rw [tCh_in hd2.1, sl_59, sr_eq (by omega) (by omega)]; omega
          · show ¬ tCh B L (b + 1) = -1
            rw [tCh_in hd2.1, sr_neg1 (by omega)]; exact fun z => z
        · dsimp only at H
          rw [if_neg hd2, if_neg (by omega)] at H
          refine H _ ⟨f4, Or.inl ⟨rfl, e11, rfl, ?_, ?_⟩⟩
          · rw [ajI_SI, if_neg (by omega), ajI_SI, if_neg (by omega)]; exact eK
          · rw [ajI_SI, if_pos ⟨rfl, rfl⟩]
      · rw [if_neg hd] at H
        rw [if_neg hd, if_neg (by decide)]
        refine S151 (a := b) s3 rfl e11 ?_
        intro _
        exact ⟨_, rfl, H _ ⟨FR_trans f2 (FR_mono (FR_trans f3 (FR_SI _ P10f)) hP), Or.inr (Or.inl ⟨rfl, rfl⟩)⟩⟩
def tPost (r : JR) (h h' : ajH) : Prop := FR h h' PK ∧ (r.1 = true → ajI h' 320 11 = -1 ∧ ajI h' 330 4 = nI r.2.2.1 ∧ MJ h' r.2.2.1 r.2.2.2.1 r.2.2.2.2) ∧ (r.1 = false → ajI h' 320 11 = nI r.2.1)
theorem S174_17e {B : Nat → Nat} {L n d a : Nat} {h : ajH} {Q : Option Value → ajH → Prop} (hs : ajShp h) (ct : MT B L 321 0 h) (ha : ajI h 320 10 = nI a) (hl : a ≤ L) (hsk : tSk B L a = a) (hf : ajI h 320 11 = -1)
    (H1 : tCh B L a = -1 → ∀ h', FR h h' PK → ajI h' 320 11 = -1 → ajI h' 330 4 = nI n → (∀ j, ajI h' 329 j = ajI h 329 j) → Q none h') (H0 : ¬ tCh B L a = -1 → ∀ h', FR h h' PK → ajI h' 320 11 = nI a → Q none h') : ajEv (d + 1) 174 17 [.ref 320, .int (nI n), .int 0] [] h Q := by
  refine W174_17 hs ?_
  rw [if_pos rfl]
  rintro _ rfl
  have f1 : FR h (ajSI h 330 4 (nI n)) PK := FR_SI h (Or.inr (Or.inr ⟨rfl, rfl⟩))
  refine S150 (a := a) hs (MT_K ct f1) ha hl ?_
  rw [hsk, ajSI_self (ajSI h 330 4 (nI n)) 320 10 ha]
  intro s1
  refine ⟨_, rfl, ?_⟩
  by_cases e : tCh B L a = -1
  · rw [if_pos e]
    exact H1 e _ f1 hf rfl (fun j => rfl)
  · rw [if_neg e]
    refine S151 (a := a) s1 ha hf ?_
    intro _
    exact ⟨_, rfl, H0 e _ (FR_trans f1 (FR_SI _ (Or.inl ⟨rfl, by omega⟩))) rfl⟩
theorem S174_17 {B : Nat → Nat} {L : Nat} : ∀ (F d : Nat) (h : ajH) (Q : Option Value → ajH → Prop) (n a : Nat) (K : Nat → Nat) (D : Nat → Int32), ajShp h → MT B L 321 0 h → SC h → ajI h 320 10 = nI a → a ≤ L → ajI h 320 11 = -1 → n + F = 16 → n < 16 → MJ h n K D →
    (∀ h', tPost (pJ B L F n K D a) h h' → Q none h') → ajEv (d + 6) 174 17 [.ref 320, .int (nI n), .int 1] [] h Q := by
  intro F
  induction F with
  | zero => intro d h Q n a K D hs ct sc ha hl hf hn hn2 c H; omega
  | succ F ih =>
    intro d h Q n a K D hs ct sc ha hl hf hn hn2 c H
    have c2 := ct.2.2.2.1
    have hgd := jSt_gd (B := B) (L := L) hl
    refine W174_17 hs ?_
    have er : (2 : Int32) * (64 + nI n) = nI (128 + 2 * n) := by
      rw [sl_64, sl_2, sr_add, sr_mul]; exact congrArg nI (by omega)
    rw [if_neg (by decide), er]
    refine S175 hn2 hs ct sc ha hl hf ?_
    intro h3 p3 s3
    refine ⟨rfl, ?_⟩
    have f3 : FR h h3 PK := FR_mono p3.1 (fun o j y => by unfold P10 at y; unfold PK; omega)
    have ct3 := MT_K ct f3
    unfold pJ at H
    generalize jSt B L a = s at H p3 hgd
    have hp := hgd.1
    have h8 := tSk_ge B L s.2.1
    have h9 := tSk_le B hgd.1
    rcases p3.2 with ⟨q1, q2, q3, q4, q5⟩ | ⟨q1, q2⟩ | ⟨q1, q2, q3, q4, q5, q6⟩
    · rw [q1] at H
      simp only [if_true] at H
      have hp2 := hgd.2 q1
      have mj : MJ h3 (n + 1) (fun k => if k = n then s.2.2.1 else K k) (fun k => if k = n then s.2.2.2 else D k) := by
        intro k hk
        by_cases ek : k = n
        · subst ek
          dsimp only
          rw [if_pos rfl, if_pos rfl]; exact ⟨q4, q5⟩
        · dsimp only
          rw [if_neg ek, if_neg ek]
          have hc := c k (by omega)
          exact ⟨(FR_I p3.1 (by unfold P10; omega)).trans hc.1, (FR_I p3.1 (by unfold P10; omega)).trans hc.2⟩
      rw [q2, if_pos rfl]
      refine S150 s3 ct3 q3 hp ?_
      intro s4
      refine ⟨_, rfl, ?_⟩
      have f4 : FR h (ajSI h3 320 10 (nI (tSk B L s.2.1))) PK := FR_trans f3 (FR_SI _ (Or.inl ⟨rfl, by omega⟩))
      have ct4 := MT_K ct f4
      by_cases e59 : tCh B L (tSk B L s.2.1) = 59
      · rw [if_neg (fun z => z e59), nI_1]
        have l59 := tCh_lt e59 (by decide)
        refine W174_57 s4 ?_
        rw [if_neg (by decide)]
        by_cases e16 : n + 1 = 16
        · simp only [if_pos e59, if_pos e16] at H
          rw [if_neg (fun z => z (by rw [e16]; rfl))]
          refine S151 (a := tSk B L s.2.1) s4 rfl q2 ?_
          intro _
          exact ⟨_, rfl, H _ ⟨FR_trans f4 (FR_SI _ (Or.inl ⟨rfl, by omega⟩)), fun y => by (cases y), fun _ => rfl⟩⟩
        · simp only [if_pos e59, if_neg e16] at H
          rw [if_pos (by rw [sl_16, sr_eq (by omega) (by omega)]; exact e16)]
          refine W174_74 s4 ?_
          rw [if_neg (by decide)]
          rintro _ rfl
          rw [ajSI_SI, ajI_SI, if_pos ⟨rfl, rfl⟩, nI_1]
          have f5 : FR h (ajSI h3 320 10 (nI (tSk B L s.2.1 + 1))) PK := FR_trans f3 (FR_SI _ (Or.inl ⟨rfl, by omega⟩))
          refine ih d _ Q (n + 1) (tSk B L s.2.1 + 1) _ _ s4 (MT_K ct f5) (SC_K sc f5) rfl (by omega) q2 (by omega) (by omega) mj ?_
          intro h' p
          exact H h' ⟨FR_trans f5 p.1, p.2⟩
      · rw [if_pos e59, nI_1]
        simp only [if_neg e59] at H
        refine W174_57 s4 ?_
        rw [if_pos rfl]
        refine W174_74 s4 ?_
        rw [if_pos rfl]
        refine S174_17e (a := tSk B L s.2.1) s4 ct4 rfl h9 (tSk_id B L _) q2 ?_ ?_
        · intro e1 h' f e11 e4 e329
          simp only [if_pos e1] at H
          refine H h' ⟨FR_trans f4 f, fun _ => ⟨e11, e4, fun k hk => ?_⟩, fun y => by (cases y)⟩
          have z := mj k hk
          rw [e329, e329]
          exact z
        · intro e1 h' f e11
          simp only [if_neg e1] at H
          exact H h' ⟨FR_trans f4 f, fun y => by (cases y), fun _ => e11⟩
    · rw [q1] at H
      simp only [Bool.false_eq_true, if_false] at H
      rw [q2, if_neg (by rw [sr_neg1 (by omega)]; exact fun z => z)]
      exact H h3 ⟨f3, fun y => by (cases y), fun _ => q2⟩
    · rw [q1] at H
      simp only [Bool.false_eq_true, if_false] at H
      rw [q2, if_pos rfl]
      refine S150 s3 ct3 q3 hp ?_
      rw [q4, ajSI_self h3 320 10 q3]
      intro s4
      refine ⟨_, rfl, ?_⟩
      rw [if_pos q5, nI_1]
      refine W174_57 s4 ?_
      rw [if_pos rfl]
      refine W174_74 s4 ?_
      rw [if_pos rfl]
      refine S174_17e (a := s.2.1) s4 ct3 q3 hp q4 q2 (fun e1 => absurd e1 q6) ?_
      intro e1 h' f e11
      exact H h' ⟨FR_trans f3 f, fun y => by (cases y), fun _ => e11⟩
def PL (o j : Nat) : Prop := o = 320 ∧ (j = 5 ∨ j = 8 ∨ j = 9 ∨ j = 10 ∨ j = 11 ∨ j = 12) ∨ o = 329 ∧ 128 ≤ j ∨ o = 330 ∧ j = 4
theorem S174 {T : TP} {d : Nat} {h : ajH} {Q : Option Value → ajH → Prop} (hs : ajShp h) (c : TM T h) (sc : SC h)
    (H : ∀ h', FR h h' PL → ((rJ T.1 T.2).1 = true → ajI h' 320 11 = -1 ∧ ajI h' 330 4 = nI (rJ T.1 T.2).2.2.1 ∧ MJ h' (rJ T.1 T.2).2.2.1 (rJ T.1 T.2).2.2.2.1 (rJ T.1 T.2).2.2.2.2) → ((rJ T.1 T.2).1 = false → ajI h' 320 11 = nI (rJ T.1 T.2).2.1) → Q none h') : ajEv (d + 6) 174 0 [.ref 320, ajU, ajU] [] h Q := by
  refine W174_0 hs ?_
  refine W147_0 hs (ajKwi (ajKc rfl)) ?_
  rintro _ rfl _ rfl _ rfl _ rfl _ rfl
  intro s1
  refine ⟨rfl, ?_⟩
  generalize hh : ajSI (ajSI (ajSI (ajSI (ajSR h 320 5 321) 320 8 0) 320 9 (ajI h 320 6)) 320 10 0) 320 11 (-1) = h1 at *
  have f1 : FR h h1 PL := by
    subst hh
    exact FR_trans (FR_trans (FR_trans (FR_trans (FR_SR h (show PL 320 5 from Or.inl ⟨rfl, by omega⟩)) (FR_SI _ (show PL 320 8 from Or.inl ⟨rfl, by omega⟩))) (FR_SI _ (show PL 320 9 from Or.inl ⟨rfl, by omega⟩))) (FR_SI _ (show PL 320 10 from Or.inl ⟨rfl, by omega⟩))) (FR_SI _ (show PL 320 11 from Or.inl ⟨rfl, by omega⟩))
  have e5 : ajR h1 320 5 = 321 := by subst hh; rfl
  have e8 : ajI h1 320 8 = nI 0 := by subst hh; rfl
  have e9 : ajI h1 320 9 = nI T.2 := by subst hh; exact c.1
  have e10 : ajI h1 320 10 = nI 0 := by subst hh; rfl
  have e11 : ajI h1 320 11 = -1 := by subst hh; rfl
  have ct : MT T.1 T.2 321 0 h1 := ⟨e5, e8, e9, c.2.1, Or.inl ⟨rfl, rfl⟩, c.2.2.1, fun k hk => by
    rw [Nat.zero_add, ← c.2.2.2 k hk]
    exact FR_I f1 (by unfold PL; omega)⟩
  have sc1 : SC h1 := SC_FR sc f1 (fun o j ho => by unfold PL; omega)
  refine S174_17 16 d h1 Q 0 0 (fun _ => 0) (fun _ => 0) s1 ct sc1 e10 (Nat.zero_le _) e11 (by omega) (by omega) (fun k hk => absurd hk (by omega)) ?_
  intro h' p
  exact H h' (FR_trans f1 (FR_mono p.1 (fun o j y => by unfold PK at y; unfold PL; omega))) p.2.1 p.2.2
