/-! The reference reads a law: clauses, the whole. -/
theorem S166b {B : Nat → Nat} {L d t b : Nat} {h : ajH} {Q : Option Value → ajH → Prop} {r : PR} {l : Nat → Int32} {v : Int32} (hd : 27 ≤ d) (hs : ajShp h) (ct : MT B L t b h) (sc : SC h) (lt : LT l h) (hg : pGd L 0 r)
    (hp : (pOk r = true → ajI h 320 10 = nI (pAt r) ∧ ajI h 320 11 = -1 ∧ ajI h 320 12 = nI (6 - 6) ∧ v = pVa r l) ∧ (pOk r = false → ajI h 320 11 = nI (pAt r) ∧ ∃ a', a' ≤ L ∧ ajI h 320 10 = nI a'))
    (H : ∀ h' v, mPost true L l 6 (pRel B L 6 r) h h' v → Q (some (.int v)) h') : ajEv d 166 0 [.ref 320, .int 1, .int v, ajU, ajU, ajU] [] h Q := by
  obtain ⟨d, rfl⟩ : ∃ e, d = e + 1 := ⟨d - 1, by omega⟩
  refine W166_0 hs ?_
  rw [if_neg (by decide)]
  exact S166_12 (by omega) (by omega) hs ct sc lt hg hp H
/-- a condition whose first sum is read already -/
theorem S164b {B : Nat → Nat} {L d t b : Nat} {h : ajH} {Q : Option Value → ajH → Prop} {r : PR} {l : Nat → Int32} {v : Int32} (hd : 30 ≤ d) (hs : ajShp h) (ct : MT B L t b h) (sc : SC h) (lt : LT l h) (hg : pGd L 0 r)
    (hp : (pOk r = true → ajI h 320 10 = nI (pAt r) ∧ ajI h 320 11 = -1 ∧ ajI h 320 12 = nI (6 - 6) ∧ v = pVa r l) ∧ (pOk r = false → ajI h 320 11 = nI (pAt r) ∧ ∃ a', a' ≤ L ∧ ajI h 320 10 = nI a'))
    (H : ∀ h' v, mPost true L l 6 (pCon B L (pUnit B L 6) (pRel B L 6 r)) h h' v → Q (some (.int v)) h') : ajEv d 164 0 [.ref 320, .int 1, .int v, ajU, ajU] [] h Q := by
  obtain ⟨d, rfl⟩ : ∃ e, d = e + 2 := ⟨d - 2, by omega⟩
  have u := S173D (B := B) (L := L) 6 (by omega)
  have hg1 := pRel_gd (B := B) (D := 6) hg
  have hg2 := pTru_gd (B := B) (u := pUnit B L 6) (fun y hy => pUnit_gd 6 y hy) hg1
  refine W164_0 hs ?_
  refine W165_0 hs ?_
  rw [if_neg (by decide)]
  refine S166b (by omega) hs ct sc lt hg hp ?_
  intro h1 v1 p1 s1
  refine ⟨_, rfl, ?_⟩
  refine S165_g u.1 (fun x hx => pUnit_gd 6 x hx) (by omega) s1 (MT_10 ct p1.1) (SC_10 sc p1.1) (LT_10 lt p1.1) hg1 p1 ?_
  intro h2 v2 p2 s2
  refine ⟨_, rfl, ?_⟩
  have f2 := FR_trans p1.1 p2.1
  refine S164_g u.2.1 (fun x hx => pTru_gd (fun y hy => pUnit_gd 6 y hy) (pUnit_gd 6 x hx)) (by omega) s2 (MT_10 ct f2) (SC_10 sc f2) (LT_10 lt f2) hg2 p2 ?_
  intro h' v p
  exact H h' v (mPost_pre f2 p)
def Pk (o j : Nat) : Prop := o = 320 ∧ (j = 10 ∨ j = 11 ∨ j = 12 ∨ j = 14 ∨ j = 17)
theorem P10_k : ∀ o j, P10 o j → Pk o j := by unfold P10 Pk; omega
theorem MT_k {B : Nat → Nat} {L t b : Nat} {h h' : ajH} (c : MT B L t b h) (f : FR h h' Pk) : MT B L t b h' := MT_FR c f (by unfold Pk; omega) (by unfold Pk; omega) (by unfold Pk; omega) (fun j => ⟨by unfold Pk; omega, by unfold Pk; omega⟩)
theorem SC_k {h h' : ajH} (c : SC h) (f : FR h h' Pk) : SC h' := SC_FR c f (fun o j ho => by unfold Pk; omega)
theorem LT_k {l : Nat → Int32} {h h' : ajH} (c : LT l h) (f : FR h h' Pk) : LT l h' := LT_FR c f (fun j => by unfold Pk; omega)
/-- what a clause has found -/
def kFd (l : Nat → Int32) (k : PC) (h h' : ajH) : Prop := (¬ ajI h 320 17 = 0 → ajI h' 320 17 = ajI h 320 17 ∧ ajI h' 320 14 = ajI h 320 14) ∧
  (ajI h 320 17 = 0 → (cHas k l → ajI h' 320 17 = 1 ∧ ajI h' 320 14 = pVa k.2.2.2 l) ∧ (¬ cHas k l → ajI h' 320 17 = 0 ∧ ajI h' 320 14 = ajI h 320 14))
def mkPost (L : Nat) (l : Nat → Int32) (k : PC) (h h' : ajH) : Prop := FR h h' Pk ∧ (k.1 = true → ajI h' 320 10 = nI k.2.1 ∧ ajI h' 320 11 = -1 ∧ ajI h' 320 12 = nI (6 - 6) ∧ kFd l k h h') ∧ (k.1 = false → ajI h' 320 11 = nI k.2.1)
theorem S161_134 {L d : Nat} {h0 h : ajH} {Q : Option Value → ajH → Prop} {k : PC} {l : Nat → Int32} {v2 v3 : Int32} {u : Value} (hL : L ≤ 240) (hs : ajShp h) (f : FR h0 h P10) (hk : k.2.1 ≤ L) (hy : ajI h0 320 13 = 121)
    (hp : (k.1 = true → ajI h 320 10 = nI k.2.1 ∧ ajI h 320 11 = -1 ∧ ajI h 320 12 = nI (6 - 6) ∧ v3 = pVa k.2.2.2 l ∧ (¬ v2 = 0 ↔ cHas k l)) ∧ (k.1 = false → ajI h 320 11 = nI k.2.1))
    (H : ∀ h', mkPost L l k h0 h' → Q none h') : ajEv (d + 1) 161 134 [.ref 320, .int 121, .int v2, .int v3, u] [] h Q := by
  have fk := FR_mono f P10_k
  have e17 : ajI h 320 17 = ajI h0 320 17 := FR_I f (by unfold P10; omega)
  have e14 : ajI h 320 14 = ajI h0 320 14 := FR_I f (by unfold P10; omega)
  have e13 : ajI h 320 13 = 121 := (FR_I f (by unfold P10; omega)).trans hy
  refine W161_134 hs ?_
  cases hok : k.1 with
  | false =>
    have q := hp.2 hok
    rw [q, if_pos (by rw [sr_neg1 (by omega)]; exact fun z => z)]
    exact H h ⟨fk, fun z => by (rw [hok] at z; cases z), fun _ => q⟩
  | true =>
    have q := hp.1 hok
    rw [q.2.1, if_neg (fun z => z rfl), e17, e13]
    by_cases e1 : ajI h0 320 17 = 0
    · rw [if_neg (fun z => z e1), if_neg (fun z => z rfl)]
      by_cases e2 : v2 = 0
      · rw [if_neg (fun z => z e2)]
        refine H h ⟨fk, fun _ => ⟨q.1, q.2.1, q.2.2.1, fun z => absurd e1 z, fun _ => ⟨fun z => absurd e2 (q.2.2.2.2.mpr z), fun _ => ⟨e17.trans e1, e14⟩⟩⟩, fun z => by (rw [hok] at z; cases z)⟩
      · rw [if_pos e2]
        rintro _ rfl _ rfl
        refine H _ ⟨FR_trans fk (FR_trans (FR_SI h (P := Pk) ⟨rfl, by omega⟩) (FR_SI _ ⟨rfl, by omega⟩)), fun _ => ⟨q.1, q.2.1, q.2.2.1, fun z => absurd e1 z, fun _ => ⟨fun z => ⟨rfl, q.2.2.2.1⟩, fun z => absurd (q.2.2.2.2.mp e2) z⟩⟩, fun z => by (rw [hok] at z; cases z)⟩
    · rw [if_pos e1]
      refine H h ⟨fk, fun _ => ⟨q.1, q.2.1, q.2.2.1, fun _ => ⟨e17, e14⟩, fun z => absurd z e1⟩, fun z => by (rw [hok] at z; cases z)⟩
theorem mkPost_F {L a : Nat} {l : Nat → Int32} {h h' : ajH} (f : FR h h' Pk) (e : ajI h' 320 11 = nI a) : mkPost L l (cF a) h h' := ⟨f, fun z => by (cases z), fun _ => e⟩
/-- a condition is read: what follows -/
theorem S161t {B : Nat → Nat} {L d t b : Nat} {h0 h : ajH} {Q : Option Value → ajH → Prop} {r : PR} {l : Nat → Int32} {x : Int32} (hd : 26 ≤ d) (hs : ajShp h) (ct : MT B L t b h) (sc : SC h) (lt : LT l h) (hg : pGd L 0 r) (f : FR h0 h P10) (hy : ajI h0 320 13 = 121)
    (hp : (pOk r = true → ajI h 320 10 = nI (pAt r) ∧ ajI h 320 11 = -1 ∧ ajI h 320 12 = nI (6 - 6) ∧ x = pVa r l) ∧ (pOk r = false → ajI h 320 11 = nI (pAt r) ∧ ∃ a', a' ≤ L ∧ ajI h 320 10 = nI a'))
    (H : ∀ h', mkPost L l (pTail B L r) h0 h' → Q none h') {u4 : Value} : ajEv d 163 0 [.ref 320, .int (63 : Int32)] [] h (fun r h3 => ajShp h3 → ∃ x4, r = some (.int x4) ∧ (if ¬ x4 = (0 : Int32) then ajEv d 167 0 [.ref 320, ajU, ajU, ajU, ajU] [] h3 (fun r h5 => ajShp h5 → ∃ x6, r = some (.int x6) ∧ ajEv (d + 1) 161 134 [.ref 320, .int 121, .int x, .int x6, u4] [] h5 Q) else Q none h3)) := by
  have c2 := ct.2.2.2.1
  obtain ⟨d, rfl⟩ : ∃ e, d = e + 1 := ⟨d - 1, by omega⟩
  unfold pTail at H
  cases hok : pOk r with
  | false =>
    rw [hok, if_neg (by decide)] at H
    have q := hp.2 hok
    have hr := hg.1
    refine S163f hs q.1 (by omega) ?_
    intro _
    refine ⟨_, rfl, ?_⟩
    rw [if_neg (by decide)]
    exact H h (mkPost_F (FR_mono f P10_k) q.1)
  | true =>
    rw [hok, if_pos rfl] at H
    have q := hp.1 hok
    have h6 := tSk_ge B L (pAt r)
    have h7 := tSk_le B hg.1
    refine S163 hs ct q.1 hg.1 q.2.1 (by decide) ?_ ?_
    · intro e1 l1 s1
      refine ⟨_, rfl, ?_⟩
      rw [if_pos (by decide)]
      rw [if_pos e1] at H
      have f1 : FR h (ajSI h 320 10 (nI (tSk B L (pAt r) + 1))) P10 := FR_SI h P10a
      have hgs := pSum_gd (B := B) (L := L) 6 (tSk B L (pAt r) + 1) (by omega)
      refine S167D 6 (by omega) (d + 1) _ _ (tSk B L (pAt r) + 1) t b l (by omega) s1 (MT_10 ct f1) (SC_10 sc f1) (LT_10 lt f1) rfl (by omega) q.2.1 q.2.2.1 ?_
      intro h3 x3 p3 s3
      refine ⟨_, rfl, ?_⟩
      refine S161_134 (L := L) (h0 := h0) (k := (pOk (pSum B L 6 (tSk B L (pAt r) + 1)), pAt (pSum B L 6 (tSk B L (pAt r) + 1)), some r, pSum B L 6 (tSk B L (pAt r) + 1))) (l := l) c2 s3 (FR_trans f (FR_trans f1 p3.1)) hgs.1 hy ⟨fun z => ?_, fun z => ?_⟩ H
      · have q3 := p3.2.2.1 z
        refine ⟨q3.1, q3.2.1, q3.2.2.1, q3.2.2.2, ?_⟩
        show ¬ x = 0 ↔ ¬ pVa r l = 0
        rw [q.2.2.2]
      · exact (p3.2.2.2 z).1
    · intro e1 s1
      refine ⟨_, rfl, ?_⟩
      rw [if_neg (by decide)]
      rw [if_neg e1] at H
      exact H _ (mkPost_F (FR_mono (FR_trans f (FR_trans (FR_SI h P10a) (FR_SI _ P10f))) P10_k) rfl)
theorem ixG_y (x : Int32) : ixG x (ajStr 1015) 0 = if x = 121 then 0 else -1 := by
  show (if nI 121 = x then nI 0 else -1) = _
  simp only [eq_comm (b := x)]
  rfl
theorem S161 {B : Nat → Nat} {L d a t b : Nat} {h : ajH} {Q : Option Value → ajH → Prop} {l : Nat → Int32} (hd : 32 ≤ d) (hs : ajShp h) (ct : MT B L t b h) (sc : SC h) (lt : LT l h) (ha : ajI h 320 10 = nI a) (hl : a ≤ L) (hf1 : ajI h 320 11 = -1) (hdp : ajI h 320 12 = nI (6 - 6)) (hy : ajI h 320 13 = 121)
    (H : ∀ h', mkPost L l (pCla B L a) h h' → Q none h') : ajEv d 161 0 m5 [] h Q := by
  obtain ⟨d, rfl⟩ : ∃ e, d = e + 5 := ⟨d - 5, by omega⟩
  have c2 := ct.2.2.2.1
  have h6 := tSk_ge B L a
  have h7 := tSk_le B hl
  refine W161_0 hs ?_
  refine S150 hs ct ha hl ?_
  intro s1
  refine ⟨_, rfl, ?_⟩
  have f1 : FR h (ajSI h 320 10 (nI (tSk B L a))) P10 := FR_SI h P10a
  refine S162 s1 (SC_10 sc f1) (by unfold sTx; omega) ?_
  intro _
  refine ⟨_, rfl, ?_⟩
  rw [ixG_y]
  unfold pCla at H
  by_cases e1 : tCh B L (tSk B L a) = 121
  · rw [if_pos e1, if_neg (show ¬ (0 : Int32) = -1 by decide), if_pos (by decide), e1]
    rw [if_pos e1] at H
    have l1 := tCh_lt e1 (by decide)
    rintro _ rfl
    rw [ajSI_SI, ajI_SI, if_pos ⟨rfl, rfl⟩, nI_1]
    have f2 : FR h (ajSI h 320 10 (nI (tSk B L a + 1))) P10 := FR_SI h P10a
    have h8 := tSk_ge B L (tSk B L a + 1)
    have h9 := tSk_le B (show tSk B L a + 1 ≤ L by omega)
    refine S163 (a := tSk B L a + 1) s1 (MT_10 ct f2) rfl (by omega) hf1 (by decide) ?_ ?_
    · intro e2 l2 s2
      refine ⟨_, rfl, ?_⟩
      rw [if_pos (by decide)]
      rw [if_pos e2] at H
      rw [ajSI_SI] at s2 ⊢
      have hlb : tSk B L (tSk B L a + 1) + 1 ≤ L := by omega
      generalize tSk B L (tSk B L a + 1) + 1 = e at *
      clear e2 l2 h8 h9 f2
      have f2 : FR h (ajSI h 320 10 (nI e)) P10 := FR_SI h P10a
      have h10 := tSk_ge B L e
      have h11 := tSk_le B hlb
      refine S150 (a := e) s2 (MT_10 ct f2) rfl hlb ?_
      rw [ajSI_SI]
      intro s3
      refine ⟨_, rfl, ?_⟩
      have f3 : FR h (ajSI h 320 10 (nI (tSk B L e))) P10 := FR_SI h P10a
      have ct3 := MT_10 ct f3
      have sc3 := SC_10 sc f3
      have lt3 := LT_10 lt f3
      unfold pClz at H
      have hcond : (tCh B L (tSk B L e) = 33 ∨ tCh B L (tSk B L e) = 40) → ∀ u2 u3 u4 : Value, ajEv (d + 5) 161 64 [.ref 320, .int 121, u2, u3, u4] [] (ajSI h 320 10 (nI (tSk B L e))) Q := by
        intro ee _ _ _
        rw [if_pos ee] at H
        refine W161_64 s3 ?_
        have hg := pCon_gd (B := B) (L := L) (u := pUnit B L 6) (fun y hy => pUnit_gd 6 y hy) (pUnit_gd (B := B) 6 (tSk B L e) h11)
        refine (S173D 6 (by omega)).2.2 (d + 4) _ _ (tSk B L e) t b l (by omega) s3 ct3 sc3 lt3 rfl h11 hf1 hdp ?_
        dsimp only
        intro h4 x4 p4 s4
        refine ⟨_, rfl, ?_⟩
        have f4 := FR_trans f3 p4.1
        exact S161t (by omega) s4 (MT_10 ct f4) (SC_10 sc f4) (LT_10 lt f4) (pGd_mono (Nat.zero_le _) hg) f4 hy p4.2.2 H
      by_cases e33 : tCh B L (tSk B L e) = 33
      · rw [if_pos e33]; exact hcond (Or.inl e33) _ _ _
      · rw [if_neg e33]
        by_cases e40 : tCh B L (tSk B L e) = 40
        · rw [if_neg (fun z => z e40)]; exact hcond (Or.inr e40) _ _ _
        · rw [if_pos e40]
          clear hcond
          rw [if_neg (by rintro (z | z); exact e33 z; exact e40 z)] at H
          have hg := pSum_gd (B := B) (L := L) 6 (tSk B L e) h11
          refine S167D 6 (by omega) (d + 4) _ _ (tSk B L e) t b l (by omega) s3 ct3 sc3 lt3 rfl h11 hf1 hdp ?_
          intro h4 x4 p4 s4
          refine ⟨_, rfl, ?_⟩
          have f4 := FR_trans f3 p4.1
          generalize pSum B L 6 (tSk B L e) = s at H p4 hg ⊢
          cases hok : pOk s with
          | false =>
            rw [hok, if_neg (by decide)] at H
            have q4 := p4.2.2.2 hok
            have hr := hg.1
            rw [q4.1, if_pos (by rw [sr_neg1 (by omega)]; exact fun z => z)]
            exact S161_134 (L := L) (k := cF (pAt s)) (l := l) c2 s4 f4 hr hy ⟨fun z => by (cases z), fun _ => q4.1⟩ H
          | true =>
            rw [hok, if_pos rfl] at H
            have q4 := p4.2.2.1 hok
            have g4 := hg.2 hok
            have h12 := tSk_ge B L (pAt s)
            have h13 := tSk_le B hg.1
            rw [q4.2.1, if_neg (fun z => z rfl)]
            refine S150 s4 (MT_10 ct f4) q4.1 hg.1 ?_
            intro s5
            refine ⟨_, rfl, ?_⟩
            refine S172 s5 ?_
            intro _
            refine ⟨_, rfl, ?_⟩
            have f5 : FR h (ajSI h4 320 10 (nI (tSk B L (pAt s)))) P10 := FR_trans f4 (FR_SI _ P10a)
            cases hr : sRel (tCh B L (tSk B L (pAt s))) with
            | false =>
              rw [hr, if_neg (by decide)] at H
              rw [if_pos (by decide)]
              refine S161_134 (L := L) (k := (true, tSk B L (pAt s), none, s)) (l := l) c2 s5 f5 h13 hy ⟨fun _ => ⟨rfl, q4.2.1, q4.2.2.1, q4.2.2.2, ?_⟩, fun z => by (cases z)⟩ H
              exact ⟨fun _ => trivial, fun _ => by decide⟩
            | true =>
              rw [hr, if_pos rfl] at H
              rw [if_neg (by decide)]
              have hg2 := pCon_gd (B := B) (L := L) (u := pUnit B L 6) (fun y hy => pUnit_gd 6 y hy) (pRel_gd (B := B) (D := 6) hg)
              have hgs : pGd L 0 (pSk B L s) := ⟨h13, fun _ => ⟨by show 0 < tSk B L (pAt s); omega, by show 0 + (pCo s).length ≤ tSk B L (pAt s); omega⟩⟩
              refine S164b (r := pSk B L s) (by omega) s5 (MT_10 ct f5) (SC_10 sc f5) (LT_10 lt f5) hgs ⟨fun _ => ⟨rfl, q4.2.1, q4.2.2.1, q4.2.2.2⟩, fun z => by (rw [show pOk (pSk B L s) = pOk s from rfl, hok] at z; cases z)⟩ ?_
              rw [pRel_sk hok]
              intro h6' x6 p6 s6
              refine ⟨_, rfl, ?_⟩
              have f6 := FR_trans f5 p6.1
              exact S161t (by omega) s6 (MT_10 ct f6) (SC_10 sc f6) (LT_10 lt f6) (pGd_mono (Nat.zero_le _) hg2) f6 hy p6.2.2 H
    · intro e2 s2
      refine ⟨_, rfl, ?_⟩
      rw [if_neg (by decide)]
      rw [if_neg e2] at H
      exact H _ (mkPost_F (FR_mono (FR_trans f2 (FR_trans (FR_SI _ P10a) (FR_SI _ P10f))) P10_k) rfl)
  · rw [if_neg e1, if_pos rfl, if_neg (by decide)]
    rw [if_neg e1] at H
    refine S151 (a := tSk B L a) s1 rfl hf1 ?_
    intro _
    exact ⟨_, rfl, H _ (mkPost_F (FR_mono (FR_trans f1 (FR_SI _ P10f)) P10_k) rfl)⟩
/-- what stands behind a clause -/
noncomputable def pEnd (B : Nat → Nat) (L F e N : Nat) : PR := if tCh B L (tSk B L e) = 59 then pLaw B L F (tSk B L e + 1) N else if tCh B L (tSk B L e) = -1 then (true, tSk B L e, [], fun _ => 0) else pF (tSk B L e)
theorem pLaw_succ {B : Nat → Nat} {L F a N : Nat} : pLaw B L (F + 1) a N = if (pCla B L a).1 = true then
      (if tCh B L (tSk B L (pCla B L a).2.1) = 59 then
        (pOk (pLaw B L F (tSk B L (pCla B L a).2.1 + 1) (N + cLen (pCla B L a))), pAt (pLaw B L F (tSk B L (pCla B L a).2.1 + 1) (N + cLen (pCla B L a))), cCo (pCla B L a) N ++ pCo (pLaw B L F (tSk B L (pCla B L a).2.1 + 1) (N + cLen (pCla B L a))), fun l => cWo (pCla B L a) l (pVa (pLaw B L F (tSk B L (pCla B L a).2.1 + 1) (N + cLen (pCla B L a))) l))
      else if tCh B L (tSk B L (pCla B L a).2.1) = -1 then (true, tSk B L (pCla B L a).2.1, cCo (pCla B L a) N, fun l => cWo (pCla B L a) l 0)
      else pF (tSk B L (pCla B L a).2.1))
    else pF (pCla B L a).2.1 := rfl
theorem pLaw_end {B : Nat → Nat} {L F a N : Nat} : pOk (pLaw B L (F + 1) a N) = ((pCla B L a).1 && pOk (pEnd B L F (pCla B L a).2.1 (N + cLen (pCla B L a)))) ∧ pAt (pLaw B L (F + 1) a N) = (if (pCla B L a).1 = true then pAt (pEnd B L F (pCla B L a).2.1 (N + cLen (pCla B L a))) else (pCla B L a).2.1) ∧ ∀ l, (pCla B L a).1 = true → pOk (pEnd B L F (pCla B L a).2.1 (N + cLen (pCla B L a))) = true → pVa (pLaw B L (F + 1) a N) l = cWo (pCla B L a) l (pVa (pEnd B L F (pCla B L a).2.1 (N + cLen (pCla B L a))) l) := by
  unfold pEnd
  rw [pLaw_succ]
  generalize pCla B L a = k
  cases hk : k.1 with
  | false => exact ⟨rfl, rfl, fun l z => by (cases z)⟩
  | true =>
    simp only [if_true, Bool.true_and]
    by_cases e1 : tCh B L (tSk B L k.2.1) = 59
    · simp only [if_pos e1]
      exact ⟨by first | trivial | rfl, by first | trivial | rfl, fun l _ _ => by first | trivial | rfl⟩
    · simp only [if_neg e1]
      by_cases e2 : tCh B L (tSk B L k.2.1) = -1
      · simp only [if_pos e2]
        exact ⟨by first | trivial | rfl, by first | trivial | rfl, fun l _ _ => by first | trivial | rfl⟩
      · simp only [if_neg e2]
        exact ⟨by first | trivial | rfl, by first | trivial | rfl, fun l _ z => by first | (cases z; done) | trivial⟩
def gPost (l : Nat → Int32) (r : PR) (h h' : ajH) : Prop := FR h h' Pk ∧ (pOk r = true → ajI h' 320 11 = -1 ∧ ajI h' 320 14 = if ajI h 320 17 = 0 then pVa r l else ajI h 320 14) ∧ (pOk r = false → ajI h' 320 11 = nI (pAt r))
theorem S160_32 {B : Nat → Nat} {L t b : Nat} {l : Nat → Int32} : ∀ (F d : Nat) (h : ajH) (Q : Option Value → ajH → Prop) (e N : Nat) (u1 u2 u3 : Value), 33 ≤ d → ajShp h → MT B L t b h → SC h → LT l h → ajI h 320 10 = nI e → e ≤ L → ajI h 320 11 = -1 → ajI h 320 12 = nI (6 - 6) → ajI h 320 13 = 121 → 480 ≤ e + 2 * F + 1 → (ajI h 320 17 = 0 → ajI h 320 14 = 0) →
    (∀ h', gPost l (pEnd B L F e N) h h' → Q none h') → ajEv d 160 32 [.ref 320, u1, u2, u3] [] h Q := by
  intro F
  induction F with
  | zero => intro d h Q e N u1 u2 u3 hd hs ct sc lt ha hl hf1 hdp hy hF h0 H; have := ct.2.2.2.1; omega
  | succ F ih =>
    intro d h Q e N u1 u2 u3 hd hs ct sc lt ha hl hf1 hdp hy hF h0 H
    obtain ⟨d, rfl⟩ : ∃ e, d = e + 1 := ⟨d - 1, by omega⟩
    have c2 := ct.2.2.2.1
    have h6 := tSk_ge B L e
    have h7 := tSk_le B hl
    refine W160_32 hs ?_
    rw [hf1, if_neg (fun z => z rfl)]
    refine S150 hs ct ha hl ?_
    intro s1
    refine ⟨_, rfl, ?_⟩
    have f1 : FR h (ajSI h 320 10 (nI (tSk B L e))) P10 := FR_SI h P10a
    by_cases e1 : tCh B L (tSk B L e) = 59
    · rw [if_neg (fun z => z e1)]
      have l1 := tCh_lt e1 (by decide)
      rintro _ rfl
      rw [ajSI_SI, ajI_SI, if_pos ⟨rfl, rfl⟩, nI_1]
      have f2 : FR h (ajSI h 320 10 (nI (tSk B L e + 1))) P10 := FR_SI h P10a
      have eq1 : pEnd B L (F + 1) e N = pLaw B L (F + 1) (tSk B L e + 1) N := by unfold pEnd; rw [if_pos e1]
      rw [eq1] at H
      have hend := pLaw_end (B := B) (L := L) (F := F) (a := tSk B L e + 1) (N := N)
      have hg := pCla_gd (B := B) (L := L) (a := tSk B L e + 1) (by omega)
      refine S161 (by omega) s1 (MT_10 ct f2) (SC_10 sc f2) (LT_10 lt f2) rfl (by omega) hf1 hdp hy ?_
      intro h3 p3 s3
      refine ⟨rfl, ?_⟩
      generalize pCla B L (tSk B L e + 1) = k at hend hg p3 ⊢
      have f3 : FR h h3 Pk := FR_trans (FR_mono f2 P10_k) p3.1
      cases hk : k.1 with
      | false =>
        rw [hk] at hend
        have q3 := p3.2.2 hk
        have hr := hg.1
        refine W160_32 s3 ?_
        rw [q3, if_pos (by rw [sr_neg1 (by omega)]; exact fun z => z)]
        refine W160_66 s3 ?_
        rw [q3, if_pos (by rw [sr_neg1 (by omega)]; exact fun z => z)]
        refine H h3 ⟨f3, fun z => ?_, fun _ => ?_⟩
        · rw [hend.1] at z; cases z
        · rw [hend.2.1, if_neg (by decide)]; exact q3
      | true =>
        rw [hk] at hend
        have q3 := p3.2.1 hk
        have g3 := hg.2 hk
        have h17 : ajI (ajSI h 320 10 (nI (tSk B L e + 1))) 320 17 = ajI h 320 17 := rfl
        have h14 : ajI (ajSI h 320 10 (nI (tSk B L e + 1))) 320 14 = ajI h 320 14 := rfl
        have qf := q3.2.2.2
        unfold kFd at qf
        rw [h17, h14] at qf
        have hz : ajI h3 320 17 = 0 → ajI h3 320 14 = 0 := by
          intro z
          by_cases y : ajI h 320 17 = 0
          · by_cases x : cHas k l
            · rw [((qf.2 y).1 x).1] at z
              exact absurd z (by decide)
            · rw [((qf.2 y).2 x).2]; exact h0 y
          · rw [(qf.1 y).1] at z; exact absurd z y
        refine ih (d + 1) h3 Q k.2.1 (N + cLen k) _ _ _ hd s3 (MT_k ct f3) (SC_k sc f3) (LT_k lt f3) q3.1 hg.1 q3.2.1 q3.2.2.1 ((FR_I f3 (by unfold Pk; omega)).trans hy) (by omega) hz ?_
        intro h' p
        refine H h' ⟨FR_trans f3 p.1, fun z => ?_, fun z => ?_⟩
        · rw [hend.1, Bool.true_and] at z
          have p2 := p.2.1 z
          refine ⟨p2.1, ?_⟩
          rw [p2.2, hend.2.2 l rfl z]
          unfold cWo
          by_cases y : ajI h 320 17 = 0
          · rw [if_pos y]
            by_cases x : cHas k l
            · rw [if_pos x, ((qf.2 y).1 x).1, if_neg (by decide), ((qf.2 y).1 x).2]
            · rw [if_neg x, ((qf.2 y).2 x).1, if_pos rfl]
          · rw [if_neg y, (qf.1 y).1, if_neg y, (qf.1 y).2]
        · rw [hend.1, Bool.true_and] at z
          rw [hend.2.1, if_pos rfl]
          exact p.2.2 z
    · rw [if_pos e1]
      refine W160_66 s1 ?_
      rw [show ajI (ajSI h 320 10 (nI (tSk B L e))) 320 11 = -1 from hf1, if_neg (fun z => z rfl)]
      refine S150 (a := tSk B L e) s1 (MT_10 ct f1) rfl h7 ?_
      rw [tSk_id, ajSI_SI]
      intro s2
      refine ⟨_, rfl, ?_⟩
      unfold pEnd at H
      rw [if_neg e1] at H
      by_cases e2 : tCh B L (tSk B L e) = -1
      · rw [if_pos e2] at H ⊢
        refine H _ ⟨FR_mono f1 P10_k, fun _ => ⟨hf1, ?_⟩, fun z => by (cases z)⟩
        by_cases y : ajI h 320 17 = 0
        · rw [if_pos y]; exact h0 y
        · rw [if_neg y]; rfl
      · rw [if_neg e2] at H ⊢
        refine S151 (a := tSk B L e) s2 rfl hf1 ?_
        intro _
        exact ⟨_, rfl, H _ ⟨FR_mono (FR_trans f1 (FR_SI _ P10f)) P10_k, fun z => by (cases z), fun _ => rfl⟩⟩
def Pg (o j : Nat) : Prop := o = 320 ∧ (j = 5 ∨ j = 8 ∨ j = 9 ∨ j = 10 ∨ j = 11 ∨ j = 12 ∨ j = 13 ∨ j = 14 ∨ j = 17)
theorem Pk_g : ∀ o j, Pk o j → Pg o j := by unfold Pk Pg; omega
/-- what the reference's reading of a law leaves -/
theorem S160 {B : Nat → Nat} {L d t b : Nat} {h : ajH} {Q : Option Value → ajH → Prop} {l : Nat → Int32} (hd : 33 ≤ d) (hs : ajShp h) (hL : L ≤ 240) (htb : t = 321 ∧ b = 0 ∨ t = 322 ∧ b ≤ 720) (hB : ∀ k, B k < 256) (hby : ∀ k, k < L → ajI h t (b + k) = (nI (B k)).toInt8.toInt32) (sc : SC h) (lt : LT l h)
    (H : ∀ h', FR h h' Pg → (pOk (pLaw B L 240 0 0) = true → ajI h' 320 11 = -1 ∧ ajI h' 320 14 = pVa (pLaw B L 240 0 0) l) → (pOk (pLaw B L 240 0 0) = false → ajI h' 320 11 = nI (pAt (pLaw B L 240 0 0))) → Q none h') : ajEv d 160 0 [.ref 320, .ref t, .int (nI b), .int (nI L)] [] h Q := by
  obtain ⟨d, rfl⟩ : ∃ e, d = e + 1 := ⟨d - 1, by omega⟩
  have kt : ajKw t 101 := by rcases htb with z | z <;> rw [z.1] <;> exact ajKc rfl
  refine W160_0 hs (ajKwi kt) ?_
  refine W147_0 hs (ajKwi kt) ?_
  rintro _ rfl _ rfl _ rfl _ rfl _ rfl
  intro s1
  refine ⟨rfl, ?_⟩
  rintro _ rfl _ rfl _ rfl _ rfl
  generalize hh : ajSI (ajSI (ajSI (ajSI (ajSI (ajSI (ajSI (ajSI (ajSR h 320 5 t) 320 8 (nI b)) 320 9 (nI L)) 320 10 0) 320 11 (-1)) 320 13 121) 320 12 0) 320 17 0) 320 14 0 = h1
  have f1 : FR h h1 Pg := by
    subst hh
    exact (FR_trans (FR_trans (FR_trans (FR_trans (FR_trans (FR_trans (FR_trans (FR_trans (FR_SR h (show Pg 320 5 from ⟨rfl, by omega⟩)) (FR_SI _ (show Pg 320 8 from ⟨rfl, by omega⟩))) (FR_SI _ (show Pg 320 9 from ⟨rfl, by omega⟩))) (FR_SI _ (show Pg 320 10 from ⟨rfl, by omega⟩))) (FR_SI _ (show Pg 320 11 from ⟨rfl, by omega⟩))) (FR_SI _ (show Pg 320 13 from ⟨rfl, by omega⟩))) (FR_SI _ (show Pg 320 12 from ⟨rfl, by omega⟩))) (FR_SI _ (show Pg 320 17 from ⟨rfl, by omega⟩))) (FR_SI _ (show Pg 320 14 from ⟨rfl, by omega⟩)))
  have s2 : ajShp h1 := by subst hh; exact s1
  have e5 : ajR h1 320 5 = t := by subst hh; rfl
  have e8 : ajI h1 320 8 = nI b := by subst hh; rfl
  have e9 : ajI h1 320 9 = nI L := by subst hh; rfl
  have e10 : ajI h1 320 10 = nI 0 := by subst hh; rfl
  have e11 : ajI h1 320 11 = -1 := by subst hh; rfl
  have e12 : ajI h1 320 12 = nI (6 - 6) := by subst hh; rfl
  have e13 : ajI h1 320 13 = 121 := by subst hh; rfl
  have e14 : ajI h1 320 14 = 0 := by subst hh; rfl
  have e17 : ajI h1 320 17 = 0 := by subst hh; rfl
  clear hh s1
  have ct : MT B L t b h1 := ⟨e5, e8, e9, hL, htb, hB, fun k hk => by
    rw [← hby k hk]
    refine FR_I f1 ?_
    unfold Pg
    rcases htb with z | z <;> rw [z.1] <;> omega⟩
  have sc1 : SC h1 := SC_FR sc f1 (fun o j ho => by unfold Pg; omega)
  have lt1 : LT l h1 := LT_FR lt f1 (fun j => by unfold Pg; omega)
  have hend := pLaw_end (B := B) (L := L) (F := 239) (a := 0) (N := 0)
  have hg := pCla_gd (B := B) (L := L) (a := 0) (Nat.zero_le _)
  refine S161 (by omega) s2 ct sc1 lt1 e10 (Nat.zero_le _) e11 e12 e13 ?_
  intro h3 p3 s3
  refine ⟨rfl, ?_⟩
  generalize pCla B L 0 = k at hend hg p3 ⊢
  have f3 : FR h h3 Pg := FR_trans f1 (FR_mono p3.1 Pk_g)
  cases hk : k.1 with
  | false =>
    rw [hk] at hend
    have q3 := p3.2.2 hk
    have hr := hg.1
    refine W160_32 s3 ?_
    rw [if_pos (by rw [q3, sr_neg1 (by omega)]; exact fun z => z)]
    refine W160_66 s3 ?_
    rw [if_pos (by rw [q3, sr_neg1 (by omega)]; exact fun z => z)]
    refine H h3 f3 (fun z => ?_) (fun _ => ?_)
    · rw [hend.1] at z; cases z
    · rw [hend.2.1, if_neg (by decide)]; exact q3
  | true =>
    rw [hk] at hend
    have q3 := p3.2.1 hk
    have g3 := hg.2 hk
    have qf := q3.2.2.2
    unfold kFd at qf
    rw [e17, e14] at qf
    have qf := qf.2 rfl
    have hz : ajI h3 320 17 = 0 → ajI h3 320 14 = 0 := by
      intro z
      by_cases x : cHas k l
      · rw [(qf.1 x).1] at z
        exact absurd z (by decide)
      · exact (qf.2 x).2
    refine S160_32 239 (d + 1) h3 Q k.2.1 (0 + cLen k) _ _ _ hd s3 (MT_k ct p3.1) (SC_k sc1 p3.1) (LT_k lt1 p3.1) q3.1 hg.1 q3.2.1 q3.2.2.1 ((FR_I p3.1 (by unfold Pk; omega)).trans e13) (by omega) hz ?_
    intro h' p
    refine H h' (FR_trans f3 (FR_mono p.1 Pk_g)) (fun z => ?_) (fun z => ?_)
    · rw [hend.1, Bool.true_and] at z
      have p2 := p.2.1 z
      refine ⟨p2.1, ?_⟩
      rw [p2.2, hend.2.2 l rfl z]
      unfold cWo
      by_cases x : cHas k l
      · rw [if_pos x, (qf.1 x).1, if_neg (by decide), (qf.1 x).2]
      · rw [if_neg x, (qf.2 x).1, if_pos rfl]
    · rw [hend.1, Bool.true_and] at z
      rw [hend.2.1, if_pos rfl]
      exact p.2.2 z
