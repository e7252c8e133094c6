/-! The reference reads a law: rows by signs, conditions (printed by wip/src/34gen.py). -/
theorem S171 {d : Nat} {h : ajH} {Q : Option Value → ajH → Prop} {z : Int64} (hs : ajShp h) (H : Q (some (.int (bnd z))) h) : ajEv d 171 0 [.long z, ajU] [] h Q := W171_0 hs H
theorem S172 {d : Nat} {h : ajH} {Q : Option Value → ajH → Prop} {x : Int32} (hs : ajShp h) (H : Q (some (.int (flg (sRel x)))) h) : ajEv d 172 0 [.int x] [] h Q := by
  refine W172_0 hs ?_
  by_cases h1 : x = 61
  · subst h1; rw [if_pos rfl]; exact H
  · rw [if_neg h1]
    by_cases h2 : x = 60
    · subst h2; rw [if_pos rfl]; exact H
    · rw [if_neg h2]
      by_cases h3 : x = 62
      · subst h3; rw [if_neg (fun z => z rfl)]; exact H
      · rw [if_pos h3]
        unfold sRel at H
        rw [decide_eq_false h1, decide_eq_false h2, decide_eq_false h3] at H
        exact H
theorem rk_43 (v w : Int32) : rk 43 v w = bnd (v.toInt64 + w.toInt64) := rfl
theorem rk_45 (v w : Int32) : rk 45 v w = bnd (v.toInt64 - w.toInt64) := rfl
theorem rk_42 (v w : Int32) : rk 42 v w = bnd (v.toInt64 * w.toInt64) := rfl
theorem rk_47 (v w : Int32) : rk 47 v w = bnd (if w.toInt64 = 0 then 0 else v.toInt64 / w.toInt64) := rfl
theorem rk_61 (v w : Int32) : rk 61 v w = (if v = w then 1 else 0) := rfl
theorem rk_60 (v w : Int32) : rk 60 v w = (if v < w then 1 else 0) := rfl
theorem rk_62 (v w : Int32) : rk 62 v w = (if w < v then 1 else 0) := rfl
theorem rk_38 (v w : Int32) : rk 38 v w = (if v = 0 then 0 else if w = 0 then 0 else 1) := rfl
theorem rk_124 (v w : Int32) : rk 124 v w = (if v = 0 then (if w = 0 then 0 else 1) else 1) := rfl
theorem S168_87 {B : Nat → Nat} {L D K : Nat} {f : Nat → PR} {F d t b : Nat} {h : ajH} {Q : Option Value → ajH → Prop} {r : PR} {l : Nat → Int32} {z : Int64} {x3 : Int32} {h3 : ajH} {u1 u2 u3 u4 : Value} (hd : K + 1 ≤ d + 1) (s3 : ajShp h3) (hok : pOk r = true) (hsg : sMul (tCh B L (tSk B L (pAt r))) = true) (hlt : tSk B L (pAt r) < L) (hL : L ≤ 240) (h2 : L < pAt r + (F + 1)) (hg : pGd L (tSk B L (pAt r) + 1) (f (tSk B L (pAt r) + 1)))
    (p3 : mPost false L l D (f (tSk B L (pAt r) + 1)) h h3 x3) (hz : x3 = pVa (f (tSk B L (pAt r) + 1)) l → bnd z = rk (tCh B L (tSk B L (pAt r))) (pVa r l) x3)
    (ih : ∀ r', pOk r' = true → pAt r' ≤ L → L < pAt r' + F → ajI h3 320 10 = nI (pAt r') → ajI h3 320 11 = -1 → ajI h3 320 12 = nI (6 - D) → (∀ h' v, mPost false L l D (pRow B L sMul f F r') h3 h' v → Q (some (.int v)) h') → ∀ u2 u3 u4 : Value, ajEv (d + 1) 168 5 [.ref 320, .int (pVa r' l), u2, u3, u4] [] h3 Q)
    (H : ∀ h' v, mPost false L l D (pRow B L sMul f (F + 1) r) h h' v → Q (some (.int v)) h') : ajEv (d + 1) 168 87 [.ref 320, u1, u2, u3, u4] [.long z] h3 Q := by
  have h6 := tSk_ge B L (pAt r)
  refine W168_87 s3 ?_
  refine S171 s3 ?_
  intro _
  refine ⟨_, rfl, ?_⟩
  generalize hq : f (tSk B L (pAt r) + 1) = q at hg p3 hz
  cases hqo : pOk q with
  | false =>
    rw [pRow_bad hsg (by rw [hq]; exact hqo), hq] at H
    have q3 := p3.2.2.2 hqo
    have hr := hg.1
    refine W168_5 s3 ?_
    rw [q3.1, if_pos (by rw [sr_neg1 (by omega)]; exact fun z => z)]
    exact H h3 _ ⟨p3.1, fun z => by (cases z), fun z => by (cases z), fun _ => q3⟩
  | true =>
    rw [pRow_go hsg (by rw [hq]; exact hqo), hq] at H
    have q3 := p3.2.2.1 hqo
    have g3 := hg.2 hqo
    rw [hz q3.2.2.2, q3.2.2.2]
    refine ih (true, pAt q, pCo r ++ pCo q ++ [131072 ||| tCh B L (tSk B L (pAt r))], fun l => rk (tCh B L (tSk B L (pAt r))) (pVa r l) (pVa q l)) rfl hg.1 ?_ q3.1 q3.2.1 q3.2.2.1 ?_ _ _ _
    · show L < pAt q + F
      omega
    · intro h' v p
      exact H h' v (mPost_pre p3.1 p)
theorem S168_5 {B : Nat → Nat} {L D K : Nat} {f : Nat → PR} (hA : mSpec false 169 m4 K B L D f) (hf : ∀ x, x ≤ L → pGd L x (f x)) : ∀ (F d : Nat) (h : ajH) (Q : Option Value → ajH → Prop) (r : PR) (t b : Nat) (l : Nat → Int32) (u2 u3 u4 : Value), K + 1 ≤ d → ajShp h → MT B L t b h → SC h → LT l h → pOk r = true → pAt r ≤ L → L < pAt r + F → ajI h 320 10 = nI (pAt r) → ajI h 320 11 = -1 → ajI h 320 12 = nI (6 - D) →
    (∀ h' v, mPost false L l D (pRow B L sMul f F r) h h' v → Q (some (.int v)) h') → ajEv d 168 5 [.ref 320, .int (pVa r l), u2, u3, u4] [] h Q := by
  intro F
  induction F with
  | zero => intro d h Q r t b l u2 u3 u4 _ _ _ _ _ _ h1 h2; omega
  | succ F ih =>
    intro d h Q r t b l u2 u3 u4 hd hs ct sc lt hok h1 h2 ha hf1 hdp H
    obtain ⟨d, rfl⟩ : ∃ e, d = e + 1 := ⟨d - 1, by omega⟩
    have c2 := ct.2.2.2.1
    have h6 := tSk_ge B L (pAt r)
    have h7 := tSk_le B h1
    have f1 : FR h (ajSI h 320 10 (nI (tSk B L (pAt r)))) P10 := FR_SI h P10a
    refine W168_5 hs ?_
    rw [hf1, if_neg (fun z => z rfl)]
    refine S150 hs ct ha h1 ?_
    intro s1
    refine ⟨_, rfl, ?_⟩
    by_cases e1 : tCh B L (tSk B L (pAt r)) = 42
    · rw [if_pos e1]
      have hlt := tCh_lt e1 (by decide)
      have hg := hf (tSk B L (pAt r) + 1) (by omega)
      have hsg : sMul (tCh B L (tSk B L (pAt r))) = true := by rw [e1]; rfl
      refine W168_31 s1 ?_
      refine S150 (a := tSk B L (pAt r)) s1 (MT_10 ct f1) rfl h7 ?_
      rw [tSk_id, ajSI_SI]
      intro s2
      refine ⟨_, rfl, ?_⟩
      rw [if_neg (fun z => z e1)]
      refine W168_45 s2 ?_
      rintro _ rfl
      rw [ajSI_SI, ajI_SI, if_pos ⟨rfl, rfl⟩, nI_1]
      have f2 : FR h (ajSI h 320 10 (nI (tSk B L (pAt r) + 1))) P10 := FR_SI h P10a
      refine hA d _ _ (tSk B L (pAt r) + 1) t b l (by omega) s2 (MT_10 ct f2) (SC_10 sc f2) (LT_10 lt f2) rfl (by omega) hf1 hdp ?_
      intro h3 x3 p3 s3
      refine ⟨_, rfl, ?_⟩
      have p3 := mPost_pre f2 p3
      rw [if_neg (by decide)]
      refine S168_87 (K := K) (t := t) (b := b) hd s3 hok hsg hlt c2 h2 hg p3 (fun _ => by rw [e1, rk_42]) ?_ H
      intro r' a1 a2 a3 a4 a5 a6 a7 _ _ _
      exact ih (d + 1) h3 Q r' t b l _ _ _ hd s3 (MT_10 ct p3.1) (SC_10 sc p3.1) (LT_10 lt p3.1) a1 a2 a3 a4 a5 a6 a7
    · rw [if_neg e1]
      refine S150 (a := tSk B L (pAt r)) s1 (MT_10 ct f1) rfl h7 ?_
      rw [tSk_id, ajSI_SI]
      intro s2
      refine ⟨_, rfl, ?_⟩
      by_cases e2 : tCh B L (tSk B L (pAt r)) = 47
      · rw [if_neg (fun z => z e2)]
        have hlt := tCh_lt e2 (by decide)
        have hg := hf (tSk B L (pAt r) + 1) (by omega)
        have hsg : sMul (tCh B L (tSk B L (pAt r))) = true := by rw [e2]; rfl
        refine W168_31 s2 ?_
        refine S150 (a := tSk B L (pAt r)) s2 (MT_10 ct f1) rfl h7 ?_
        rw [tSk_id, ajSI_SI]
        intro s2
        refine ⟨_, rfl, ?_⟩
        rw [if_pos e1]
        refine W168_45 s2 ?_
        rintro _ rfl
        rw [ajSI_SI, ajI_SI, if_pos ⟨rfl, rfl⟩, nI_1]
        have f2 : FR h (ajSI h 320 10 (nI (tSk B L (pAt r) + 1))) P10 := FR_SI h P10a
        refine hA d _ _ (tSk B L (pAt r) + 1) t b l (by omega) s2 (MT_10 ct f2) (SC_10 sc f2) (LT_10 lt f2) rfl (by omega) hf1 hdp ?_
        intro h3 x3 p3 s3
        refine ⟨_, rfl, ?_⟩
        have p3 := mPost_pre f2 p3
        rw [if_pos rfl]
        have ih' : ∀ r', pOk r' = true → pAt r' ≤ L → L < pAt r' + F → ajI h3 320 10 = nI (pAt r') → ajI h3 320 11 = -1 → ajI h3 320 12 = nI (6 - D) → (∀ h' v, mPost false L l D (pRow B L sMul f F r') h3 h' v → Q (some (.int v)) h') → ∀ u2 u3 u4 : Value, ajEv (d + 1) 168 5 [.ref 320, .int (pVa r' l), u2, u3, u4] [] h3 Q := fun r' a1 a2 a3 a4 a5 a6 a7 _ _ _ => ih (d + 1) h3 Q r' t b l _ _ _ hd s3 (MT_10 ct p3.1) (SC_10 sc p3.1) (LT_10 lt p3.1) a1 a2 a3 a4 a5 a6 a7
        by_cases e3 : x3.toInt64 = 0
        · have e4 : lg_cmp x3.toInt64 0 = 0 := (lg_cmp_eq _ _).mpr e3
          rw [if_neg (fun z => z e4)]
          refine S168_87 (K := K) (t := t) (b := b) hd s3 hok hsg hlt c2 h2 hg p3 (fun _ => by rw [e2, rk_47, if_pos e3]) ih' H
        · have e4 : ¬ lg_cmp x3.toInt64 0 = 0 := fun z => e3 ((lg_cmp_eq _ _).mp z)
          rw [if_pos e4]
          refine ⟨e3, ?_⟩
          refine S168_87 (K := K) (t := t) (b := b) hd s3 hok hsg hlt c2 h2 hg p3 (fun _ => by rw [e2, rk_47, if_neg e3]) ih' H
      · rw [if_pos e2]
        have hsg : sMul (tCh B L (tSk B L (pAt r))) = false := by
          unfold sMul
          rw [decide_eq_false e1, decide_eq_false e2]; rfl
        rw [pRow_fail hsg] at H
        exact H _ _ ⟨f1, fun z => by (cases z), fun _ => ⟨rfl, hf1, hdp, rfl⟩, fun z => by (cases z)⟩
theorem S168 {B : Nat → Nat} {L D K : Nat} {f : Nat → PR} (hA : mSpec false 169 m4 K B L D f) (hf : ∀ x, x ≤ L → pGd L x (f x)) : mSpec false 168 m5 (K + 1) B L D (fun a => pGo B L sMul f (f a)) := by
  intro d h Q a t b l hd hs ct sc lt ha hl hf1 hdp H
  obtain ⟨d, rfl⟩ : ∃ e, d = e + 1 := ⟨d - 1, by omega⟩
  have c2 := ct.2.2.2.1
  have hg := hf a hl
  refine W168_0 hs ?_
  refine hA d _ _ a t b l (by omega) hs ct sc lt ha hl hf1 hdp ?_
  intro h1 v1 p1 s1
  refine ⟨_, rfl, ?_⟩
  unfold pGo at H
  dsimp only at H
  generalize f a = r at H p1 hg ⊢
  cases hok : pOk r with
  | false =>
    rw [hok, if_neg (by decide)] at H
    have q1 := p1.2.2.2 hok
    have hr := hg.1
    refine W168_5 s1 ?_
    rw [q1.1, if_pos (by rw [sr_neg1 (by omega)]; exact fun z => z)]
    exact H h1 v1 p1
  | true =>
    rw [hok, if_pos rfl] at H
    have q1 := p1.2.2.1 hok
    have g1 := hg.2 hok
    rw [q1.2.2.2]
    refine S168_5 hA hf 240 (d + 1) h1 Q r t b l _ _ _ (by omega) s1 (MT_10 ct p1.1) (SC_10 sc p1.1) (LT_10 lt p1.1) hok hg.1 (by omega) q1.1 q1.2.1 q1.2.2.1 ?_
    intro h' v p
    exact H h' v (mPost_pre p1.1 p)

theorem S167_77 {B : Nat → Nat} {L D K : Nat} {f : Nat → PR} {F d t b : Nat} {h : ajH} {Q : Option Value → ajH → Prop} {r : PR} {l : Nat → Int32} {z : Int64} {x3 : Int32} {h3 : ajH} {u1 u2 u3 u4 : Value} (hd : K + 1 ≤ d + 1) (s3 : ajShp h3) (hok : pOk r = true) (hsg : sAdd (tCh B L (tSk B L (pAt r))) = true) (hlt : tSk B L (pAt r) < L) (hL : L ≤ 240) (h2 : L < pAt r + (F + 1)) (hg : pGd L (tSk B L (pAt r) + 1) (f (tSk B L (pAt r) + 1)))
    (p3 : mPost false L l D (f (tSk B L (pAt r) + 1)) h h3 x3) (hz : x3 = pVa (f (tSk B L (pAt r) + 1)) l → bnd z = rk (tCh B L (tSk B L (pAt r))) (pVa r l) x3)
    (ih : ∀ r', pOk r' = true → pAt r' ≤ L → L < pAt r' + F → ajI h3 320 10 = nI (pAt r') → ajI h3 320 11 = -1 → ajI h3 320 12 = nI (6 - D) → (∀ h' v, mPost false L l D (pRow B L sAdd f F r') h3 h' v → Q (some (.int v)) h') → ∀ u2 u3 u4 : Value, ajEv (d + 1) 167 5 [.ref 320, .int (pVa r' l), u2, u3, u4] [] h3 Q)
    (H : ∀ h' v, mPost false L l D (pRow B L sAdd f (F + 1) r) h h' v → Q (some (.int v)) h') : ajEv (d + 1) 167 77 [.ref 320, u1, u2, u3, u4] [.long z] h3 Q := by
  have h6 := tSk_ge B L (pAt r)
  refine W167_77 s3 ?_
  refine S171 s3 ?_
  intro _
  refine ⟨_, rfl, ?_⟩
  generalize hq : f (tSk B L (pAt r) + 1) = q at hg p3 hz
  cases hqo : pOk q with
  | false =>
    rw [pRow_bad hsg (by rw [hq]; exact hqo), hq] at H
    have q3 := p3.2.2.2 hqo
    have hr := hg.1
    refine W167_5 s3 ?_
    rw [q3.1, if_pos (by rw [sr_neg1 (by omega)]; exact fun z => z)]
    exact H h3 _ ⟨p3.1, fun z => by (cases z), fun z => by (cases z), fun _ => q3⟩
  | true =>
    rw [pRow_go hsg (by rw [hq]; exact hqo), hq] at H
    have q3 := p3.2.2.1 hqo
    have g3 := hg.2 hqo
    rw [hz q3.2.2.2, q3.2.2.2]
    refine ih (true, pAt q, pCo r ++ pCo q ++ [131072 ||| tCh B L (tSk B L (pAt r))], fun l => rk (tCh B L (tSk B L (pAt r))) (pVa r l) (pVa q l)) rfl hg.1 ?_ q3.1 q3.2.1 q3.2.2.1 ?_ _ _ _
    · show L < pAt q + F
      omega
    · intro h' v p
      exact H h' v (mPost_pre p3.1 p)
theorem S167_5 {B : Nat → Nat} {L D K : Nat} {f : Nat → PR} (hA : mSpec false 168 m5 K B L D f) (hf : ∀ x, x ≤ L → pGd L x (f x)) : ∀ (F d : Nat) (h : ajH) (Q : Option Value → ajH → Prop) (r : PR) (t b : Nat) (l : Nat → Int32) (u2 u3 u4 : Value), K + 1 ≤ d → ajShp h → MT B L t b h → SC h → LT l h → pOk r = true → pAt r ≤ L → L < pAt r + F → ajI h 320 10 = nI (pAt r) → ajI h 320 11 = -1 → ajI h 320 12 = nI (6 - D) →
    (∀ h' v, mPost false L l D (pRow B L sAdd f F r) h h' v → Q (some (.int v)) h') → ajEv d 167 5 [.ref 320, .int (pVa r l), u2, u3, u4] [] h Q := by
  intro F
  induction F with
  | zero => intro d h Q r t b l u2 u3 u4 _ _ _ _ _ _ h1 h2; omega
  | succ F ih =>
    intro d h Q r t b l u2 u3 u4 hd hs ct sc lt hok h1 h2 ha hf1 hdp H
    obtain ⟨d, rfl⟩ : ∃ e, d = e + 1 := ⟨d - 1, by omega⟩
    have c2 := ct.2.2.2.1
    have h6 := tSk_ge B L (pAt r)
    have h7 := tSk_le B h1
    have f1 : FR h (ajSI h 320 10 (nI (tSk B L (pAt r)))) P10 := FR_SI h P10a
    refine W167_5 hs ?_
    rw [hf1, if_neg (fun z => z rfl)]
    refine S150 hs ct ha h1 ?_
    intro s1
    refine ⟨_, rfl, ?_⟩
    by_cases e1 : tCh B L (tSk B L (pAt r)) = 43
    · rw [if_pos e1]
      have hlt := tCh_lt e1 (by decide)
      have hg := hf (tSk B L (pAt r) + 1) (by omega)
      have hsg : sAdd (tCh B L (tSk B L (pAt r))) = true := by rw [e1]; rfl
      refine W167_31 s1 ?_
      refine S150 (a := tSk B L (pAt r)) s1 (MT_10 ct f1) rfl h7 ?_
      rw [tSk_id, ajSI_SI]
      intro s2
      refine ⟨_, rfl, ?_⟩
      rw [if_neg (fun z => z e1)]
      refine W167_45 s2 ?_
      rintro _ rfl
      rw [ajSI_SI, ajI_SI, if_pos ⟨rfl, rfl⟩, nI_1]
      have f2 : FR h (ajSI h 320 10 (nI (tSk B L (pAt r) + 1))) P10 := FR_SI h P10a
      refine hA d _ _ (tSk B L (pAt r) + 1) t b l (by omega) s2 (MT_10 ct f2) (SC_10 sc f2) (LT_10 lt f2) rfl (by omega) hf1 hdp ?_
      intro h3 x3 p3 s3
      refine ⟨_, rfl, ?_⟩
      have p3 := mPost_pre f2 p3
      rw [if_neg (by decide)]
      refine S167_77 (K := K) (t := t) (b := b) hd s3 hok hsg hlt c2 h2 hg p3 (fun _ => by rw [e1, rk_43]) ?_ H
      intro r' a1 a2 a3 a4 a5 a6 a7 _ _ _
      exact ih (d + 1) h3 Q r' t b l _ _ _ hd s3 (MT_10 ct p3.1) (SC_10 sc p3.1) (LT_10 lt p3.1) a1 a2 a3 a4 a5 a6 a7
    · rw [if_neg e1]
      refine S150 (a := tSk B L (pAt r)) s1 (MT_10 ct f1) rfl h7 ?_
      rw [tSk_id, ajSI_SI]
      intro s2
      refine ⟨_, rfl, ?_⟩
      by_cases e2 : tCh B L (tSk B L (pAt r)) = 45
      · rw [if_neg (fun z => z e2)]
        have hlt := tCh_lt e2 (by decide)
        have hg := hf (tSk B L (pAt r) + 1) (by omega)
        have hsg : sAdd (tCh B L (tSk B L (pAt r))) = true := by rw [e2]; rfl
        refine W167_31 s2 ?_
        refine S150 (a := tSk B L (pAt r)) s2 (MT_10 ct f1) rfl h7 ?_
        rw [tSk_id, ajSI_SI]
        intro s2
        refine ⟨_, rfl, ?_⟩
        rw [if_pos e1]
        refine W167_45 s2 ?_
        rintro _ rfl
        rw [ajSI_SI, ajI_SI, if_pos ⟨rfl, rfl⟩, nI_1]
        have f2 : FR h (ajSI h 320 10 (nI (tSk B L (pAt r) + 1))) P10 := FR_SI h P10a
        refine hA d _ _ (tSk B L (pAt r) + 1) t b l (by omega) s2 (MT_10 ct f2) (SC_10 sc f2) (LT_10 lt f2) rfl (by omega) hf1 hdp ?_
        intro h3 x3 p3 s3
        refine ⟨_, rfl, ?_⟩
        have p3 := mPost_pre f2 p3
        rw [if_pos rfl]
        have ih' : ∀ r', pOk r' = true → pAt r' ≤ L → L < pAt r' + F → ajI h3 320 10 = nI (pAt r') → ajI h3 320 11 = -1 → ajI h3 320 12 = nI (6 - D) → (∀ h' v, mPost false L l D (pRow B L sAdd f F r') h3 h' v → Q (some (.int v)) h') → ∀ u2 u3 u4 : Value, ajEv (d + 1) 167 5 [.ref 320, .int (pVa r' l), u2, u3, u4] [] h3 Q := fun r' a1 a2 a3 a4 a5 a6 a7 _ _ _ => ih (d + 1) h3 Q r' t b l _ _ _ hd s3 (MT_10 ct p3.1) (SC_10 sc p3.1) (LT_10 lt p3.1) a1 a2 a3 a4 a5 a6 a7
        refine S167_77 (K := K) (t := t) (b := b) hd s3 hok hsg hlt c2 h2 hg p3 (fun _ => by rw [e2, rk_45]) ih' H
      · rw [if_pos e2]
        have hsg : sAdd (tCh B L (tSk B L (pAt r))) = false := by
          unfold sAdd
          rw [decide_eq_false e1, decide_eq_false e2]; rfl
        rw [pRow_fail hsg] at H
        exact H _ _ ⟨f1, fun z => by (cases z), fun _ => ⟨rfl, hf1, hdp, rfl⟩, fun z => by (cases z)⟩
theorem S167 {B : Nat → Nat} {L D K : Nat} {f : Nat → PR} (hA : mSpec false 168 m5 K B L D f) (hf : ∀ x, x ≤ L → pGd L x (f x)) : mSpec false 167 m5 (K + 1) B L D (fun a => pGo B L sAdd f (f a)) := by
  intro d h Q a t b l hd hs ct sc lt ha hl hf1 hdp H
  obtain ⟨d, rfl⟩ : ∃ e, d = e + 1 := ⟨d - 1, by omega⟩
  have c2 := ct.2.2.2.1
  have hg := hf a hl
  refine W167_0 hs ?_
  refine hA d _ _ a t b l (by omega) hs ct sc lt ha hl hf1 hdp ?_
  intro h1 v1 p1 s1
  refine ⟨_, rfl, ?_⟩
  unfold pGo at H
  dsimp only at H
  generalize f a = r at H p1 hg ⊢
  cases hok : pOk r with
  | false =>
    rw [hok, if_neg (by decide)] at H
    have q1 := p1.2.2.2 hok
    have hr := hg.1
    refine W167_5 s1 ?_
    rw [q1.1, if_pos (by rw [sr_neg1 (by omega)]; exact fun z => z)]
    exact H h1 v1 p1
  | true =>
    rw [hok, if_pos rfl] at H
    have q1 := p1.2.2.1 hok
    have g1 := hg.2 hok
    rw [q1.2.2.2]
    refine S167_5 hA hf 240 (d + 1) h1 Q r t b l _ _ _ (by omega) s1 (MT_10 ct p1.1) (SC_10 sc p1.1) (LT_10 lt p1.1) hok hg.1 (by omega) q1.1 q1.2.1 q1.2.2.1 ?_
    intro h' v p
    exact H h' v (mPost_pre p1.1 p)

theorem S167D {B : Nat → Nat} {L : Nat} : ∀ D, D ≤ 6 → mSpec false 167 m5 (7 + 3 * D) B L D (pSum B L D) := by
  intro D
  induction D with
  | zero =>
    intro hD
    have h1 := S169 (B := B) (L := L) hD (fun E e => by omega)
    have h2 := S168 h1 (fun x hx => pAtom_gd pInn_gd hx)
    have h3 := S167 h2 (fun x hx => pTerm_gd pInn_gd hx)
    exact h3
  | succ D ih =>
    intro hD
    have h1 := S169 (B := B) (L := L) hD (fun E e => by
      have e1 : D = E := by omega
      subst e1
      exact ih (by omega))
    have h2 := S168 h1 (fun x hx => pAtom_gd pInn_gd hx)
    have h3 := S167 h2 (fun x hx => pTerm_gd pInn_gd hx)
    intro d h Q a t b l hd
    exact h3 d h Q a t b l (by omega)
/-! comparisons -/
theorem S166_12 {B : Nat → Nat} {L D d t b : Nat} {h : ajH} {Q : Option Value → ajH → Prop} {r : PR} {l : Nat → Int32} {v : Int32} {u1 u2 u3 u4 u5 : Value} (hD : D ≤ 6) (hd : 8 + 3 * D ≤ d) (hs : ajShp h) (ct : MT B L t b h) (sc : SC h) (lt : LT l h) (hg : pGd L 0 r)
    (hp : (pOk r = true → ajI h 320 10 = nI (pAt r) ∧ ajI h 320 11 = -1 ∧ ajI h 320 12 = nI (6 - D) ∧ v = pVa r l) ∧ (pOk r = false → ajI h 320 11 = nI (pAt r) ∧ ∃ a', a' ≤ L ∧ ajI h 320 10 = nI a'))
    (H : ∀ h' v, mPost true L l D (pRel B L D r) h h' v → Q (some (.int v)) h') : ajEv d 166 12 [.ref 320, u1, u2, u3, u4, u5] [.int v] h Q := by
  obtain ⟨d, rfl⟩ : ∃ e, d = e + 1 := ⟨d - 1, by omega⟩
  have c2 := ct.2.2.2.1
  refine W166_12 hs ?_
  unfold pRel at H
  cases hok : pOk r with
  | false =>
    rw [hok, if_neg (by decide)] at H
    have q1 := hp.2 hok
    have hr := hg.1
    rw [q1.1, if_neg (by rw [sr_neg1 (by omega)]; exact fun z => z)]
    exact H h 0 ⟨FR_refl _ _, fun _ => Or.inl rfl, fun z => by (rw [hok] at z; cases z), fun _ => q1⟩
  | true =>
    rw [hok, if_pos rfl] at H
    have q1 := hp.1 hok
    have g1 := hg.2 hok
    have h6 := tSk_ge B L (pAt r)
    have h7 := tSk_le B hg.1
    rw [q1.2.1, if_pos rfl]
    refine S150 hs ct q1.1 hg.1 ?_
    intro s1
    refine ⟨_, rfl, ?_⟩
    refine S172 s1 ?_
    intro _
    refine ⟨_, rfl, ?_⟩
    have f1 : FR h (ajSI h 320 10 (nI (tSk B L (pAt r)))) P10 := FR_SI h P10a
    cases hsg : sRel (tCh B L (tSk B L (pAt r))) with
    | false =>
      rw [hsg, if_neg (by decide)] at H
      rw [if_neg (by decide)]
      refine S151 (a := tSk B L (pAt r)) s1 rfl q1.2.1 ?_
      intro _
      exact ⟨_, rfl, Or.inl rfl, H _ 0 (mPost_pre f1 (mPost_F (fun _ => Or.inl rfl) h7 rfl))⟩
    | true =>
      rw [hsg, if_pos rfl] at H
      rw [if_pos (by decide)]
      have hlt : tSk B L (pAt r) < L := by
        by_cases z : tSk B L (pAt r) < L
        · exact z
        · rw [tCh_end (by omega)] at hsg
          cases hsg
      rintro _ rfl
      rw [ajSI_SI, ajI_SI, if_pos ⟨rfl, rfl⟩, nI_1]
      have f2 : FR h (ajSI h 320 10 (nI (tSk B L (pAt r) + 1))) P10 := FR_SI h P10a
      have hgs := pSum_gd (B := B) (L := L) D (tSk B L (pAt r) + 1) (by omega)
      refine S167D D hD d _ _ (tSk B L (pAt r) + 1) t b l (by omega) s1 (MT_10 ct f2) (SC_10 sc f2) (LT_10 lt f2) rfl (by omega) q1.2.1 q1.2.2.1 ?_
      intro h3 x3 p3 s3
      refine ⟨_, rfl, ?_⟩
      generalize pSum B L D (tSk B L (pAt r) + 1) = q at H p3 hgs ⊢
      have f3 := FR_trans f2 p3.1
      have hfin : ∀ y : Int32, (y = 0 ∨ y = 1) → (pOk q = true → y = rk (tCh B L (tSk B L (pAt r))) v x3) → Q (some (.int y)) h3 := by
        intro y y01 hy
        cases hq : pOk q with
        | false =>
          rw [hq, if_neg (by decide)] at H
          exact H h3 y ⟨f3, fun _ => y01, fun z => by (cases z), fun _ => p3.2.2.2 hq⟩
        | true =>
          rw [hq, if_pos rfl] at H
          have q3 := p3.2.2.1 hq
          refine H h3 y ⟨f3, fun _ => y01, fun _ => ⟨q3.1, q3.2.1, q3.2.2.1, ?_⟩, fun z => by (cases z)⟩
          show y = rk (tCh B L (tSk B L (pAt r))) (pVa r l) (pVa q l)
          rw [← q3.2.2.2, ← q1.2.2.2]
          exact hy hq
      by_cases e61 : tCh B L (tSk B L (pAt r)) = 61
      · rw [if_neg (fun z => z e61)]
        by_cases e : v = x3
        · rw [if_neg (fun z => z e)]; exact hfin 1 (Or.inr rfl) (fun _ => by rw [e61, rk_61, if_pos e])
        · rw [if_pos e]; exact hfin 0 (Or.inl rfl) (fun _ => by rw [e61, rk_61, if_neg e])
      · rw [if_pos e61]
        by_cases e60 : tCh B L (tSk B L (pAt r)) = 60
        · rw [if_neg (fun z => z e60)]
          by_cases e : x3 ≤ v
          · rw [if_pos e]; exact hfin 0 (Or.inl rfl) (fun _ => by rw [e60, rk_60, if_neg (fun z => fa_nle z e)])
          · rw [if_neg e]; exact hfin 1 (Or.inr rfl) (fun _ => by rw [e60, rk_60, if_pos (fa_nge e)])
        · rw [if_pos e60]
          have e62 : tCh B L (tSk B L (pAt r)) = 62 := by
            unfold sRel at hsg
            rw [decide_eq_false e61, decide_eq_false e60] at hsg
            exact of_decide_eq_true hsg
          by_cases e : v ≤ x3
          · rw [if_pos e]; exact hfin 0 (Or.inl rfl) (fun _ => by rw [e62, rk_62, if_neg (fun z => fa_nle z e)])
          · rw [if_neg e]; exact hfin 1 (Or.inr rfl) (fun _ => by rw [e62, rk_62, if_pos (fa_nge e)])
theorem S166 {B : Nat → Nat} {L D : Nat} (hD : D ≤ 6) : mSpec true 166 [.ref 320, .int 0, .int 0, ajU, ajU, ajU] (8 + 3 * D) B L D (fun a => pRel B L D (pSum B L D a)) := by
  intro d h Q a t b l hd hs ct sc lt ha hl hf1 hdp H
  obtain ⟨d, rfl⟩ : ∃ e, d = e + 1 := ⟨d - 1, by omega⟩
  have hg := pSum_gd (B := B) (L := L) D a hl
  refine W166_0 hs ?_
  rw [if_pos rfl]
  refine S167D D hD d _ _ a t b l (by omega) hs ct sc lt ha hl hf1 hdp ?_
  intro h1 v1 p1 s1
  refine ⟨_, rfl, ?_⟩
  exact S166_12 hD (by omega) s1 (MT_10 ct p1.1) (SC_10 sc p1.1) (LT_10 lt p1.1) (pGd_mono (Nat.zero_le _) hg) p1.2.2 (fun h' v p => H h' v (mPost_pre p1.1 p))
/-! units, truths, conditions -/
def m3 : List Value := [.ref 320, ajU, ajU]
def n5 : List Value := [.ref 320, .int 0, .int 0, ajU, ajU]
theorem S165_18 {B : Nat → Nat} {L D K : Nat} {f : Nat → PR} (hA : mSpec true 173 m3 K B L D f) (hf : ∀ x, x ≤ L → pGd L x (f x)) : ∀ (F d : Nat) (h : ajH) (Q : Option Value → ajH → Prop) (r : PR) (t b : Nat) (l : Nat → Int32) (u1 u2 u4 : Value), K + 1 ≤ d → ajShp h → MT B L t b h → SC h → LT l h → pOk r = true → pAt r ≤ L → L < pAt r + F → ajI h 320 10 = nI (pAt r) → ajI h 320 11 = -1 → ajI h 320 12 = nI (6 - D) → (pVa r l = 0 ∨ pVa r l = 1) →
    (∀ h' v, mPost true L l D (pRow B L sAnd f F r) h h' v → Q (some (.int v)) h') → ajEv d 165 18 [.ref 320, u1, u2, .int (pVa r l), u4] [] h Q := by
  intro F
  induction F with
  | zero => intro d h Q r t b l u1 u2 u4 _ _ _ _ _ _ h1 h2; omega
  | succ F ih =>
    intro d h Q r t b l u1 u2 u4 hd hs ct sc lt hok h1 h2 ha hf1 hdp h01 H
    obtain ⟨d, rfl⟩ : ∃ e, d = e + 1 := ⟨d - 1, by omega⟩
    have c2 := ct.2.2.2.1
    have h6 := tSk_ge B L (pAt r)
    have h7 := tSk_le B h1
    have f1 : FR h (ajSI h 320 10 (nI (tSk B L (pAt r)))) P10 := FR_SI h P10a
    refine W165_18 hs ?_
    rw [hf1, if_neg (fun z => z rfl)]
    refine S150 hs ct ha h1 ?_
    intro s1
    refine ⟨_, rfl, ?_⟩
    by_cases e1 : tCh B L (tSk B L (pAt r)) = 38
    · rw [if_neg (fun z => z e1)]
      have hlt := tCh_lt e1 (by decide)
      have hg := hf (tSk B L (pAt r) + 1) (by omega)
      have hsg : sAnd (tCh B L (tSk B L (pAt r))) = true := by rw [e1]; rfl
      rintro _ rfl
      rw [ajSI_SI, ajI_SI, if_pos ⟨rfl, rfl⟩, nI_1]
      have f2 : FR h (ajSI h 320 10 (nI (tSk B L (pAt r) + 1))) P10 := FR_SI h P10a
      refine hA d _ _ (tSk B L (pAt r) + 1) t b l (by omega) s1 (MT_10 ct f2) (SC_10 sc f2) (LT_10 lt f2) rfl (by omega) hf1 hdp ?_
      intro h3 x3 p3 s3
      refine ⟨_, rfl, ?_⟩
      have p3 := mPost_pre f2 p3
      have x01 := p3.2.1 rfl
      have hcont : ∀ y : Int32, y = rk 38 (pVa r l) x3 → ∀ u1 u2 : Value, ajEv (d + 1) 165 18 [.ref 320, u1, u2, .int y, .int x3] [] h3 Q := by
        intro y hy _ _
        have y01 : y = 0 ∨ y = 1 := by
          rw [hy, rk_38]
          rcases h01 with e | e <;> rcases x01 with e' | e' <;> rw [e, e'] <;> decide
        cases hq : pOk (f (tSk B L (pAt r) + 1)) with
        | false =>
          rw [pRow_bad hsg hq] at H
          have q3 := p3.2.2.2 hq
          have hr := hg.1
          refine W165_18 s3 ?_
          rw [q3.1, if_pos (by rw [sr_neg1 (by omega)]; exact fun z => z)]
          exact ⟨y01, H h3 y ⟨p3.1, fun _ => y01, fun z => by (cases z), fun _ => q3⟩⟩
        | true =>
          rw [pRow_go hsg hq] at H
          have q3 := p3.2.2.1 hq
          have g3 := hg.2 hq
          have ey : y = pVa ((true, pAt (f (tSk B L (pAt r) + 1)), pCo r ++ pCo (f (tSk B L (pAt r) + 1)) ++ [131072 ||| tCh B L (tSk B L (pAt r))], fun l => rk (tCh B L (tSk B L (pAt r))) (pVa r l) (pVa (f (tSk B L (pAt r) + 1)) l)) : PR) l := by
            rw [hy, q3.2.2.2]
            show _ = rk (tCh B L (tSk B L (pAt r))) _ _
            rw [e1]
          rw [ey]
          refine ih (d + 1) h3 Q (true, pAt (f (tSk B L (pAt r) + 1)), pCo r ++ pCo (f (tSk B L (pAt r) + 1)) ++ [131072 ||| tCh B L (tSk B L (pAt r))], fun l => rk (tCh B L (tSk B L (pAt r))) (pVa r l) (pVa (f (tSk B L (pAt r) + 1)) l)) t b l _ _ _ (by omega) s3 (MT_10 ct p3.1) (SC_10 sc p3.1) (LT_10 lt p3.1) rfl hg.1 ?_ q3.1 q3.2.1 q3.2.2.1 (by rw [← ey]; exact y01) ?_
          · show L < pAt (f (tSk B L (pAt r) + 1)) + F
            omega
          · intro h' v p
            exact H h' v (mPost_pre p3.1 p)
      by_cases e2 : pVa r l = 0
      · rw [if_pos e2]; exact hcont 0 (by rw [rk_38, if_pos e2]) _ _
      · rw [if_neg e2]
        by_cases e3 : x3 = 0
        · rw [if_pos e3]; exact hcont 0 (by rw [rk_38, if_neg e2, if_pos e3]) _ _
        · rw [if_neg e3]; exact hcont 1 (by rw [rk_38, if_neg e2, if_neg e3]) _ _
    · rw [if_pos e1]
      have hsg : sAnd (tCh B L (tSk B L (pAt r))) = false := by unfold sAnd; rw [decide_eq_false e1]
      rw [pRow_fail hsg] at H
      exact ⟨h01, H _ _ ⟨f1, fun _ => h01, fun _ => ⟨rfl, hf1, hdp, rfl⟩, fun z => by (cases z)⟩⟩
/-- behind the first thing -/
theorem S165_g {B : Nat → Nat} {L D K d t b : Nat} {f : Nat → PR} {h : ajH} {Q : Option Value → ajH → Prop} {r : PR} {l : Nat → Int32} {v : Int32} {u1 u2 u4 : Value} (hA : mSpec true 173 m3 K B L D f) (hf : ∀ x, x ≤ L → pGd L x (f x)) (hd : K + 1 ≤ d) (hs : ajShp h) (ct : MT B L t b h) (sc : SC h) (lt : LT l h) (hg : pGd L 0 r)
    {h0 : ajH} (p : mPost true L l D r h0 h v) (H : ∀ h' v, mPost true L l D (pGo B L sAnd f r) h h' v → Q (some (.int v)) h') : ajEv d 165 18 [.ref 320, u1, u2, .int v, u4] [] h Q := by
  have c2 := ct.2.2.2.1
  have v01 := p.2.1 rfl
  unfold pGo at H
  cases hok : pOk r with
  | false =>
    rw [hok, if_neg (by decide)] at H
    obtain ⟨d, rfl⟩ : ∃ e, d = e + 1 := ⟨d - 1, by omega⟩
    have q1 := p.2.2.2 hok
    have hr := hg.1
    refine W165_18 hs ?_
    rw [q1.1, if_pos (by rw [sr_neg1 (by omega)]; exact fun z => z)]
    exact ⟨v01, H h v ⟨FR_refl _ _, fun _ => v01, fun z => by (rw [hok] at z; cases z), fun _ => q1⟩⟩
  | true =>
    rw [hok, if_pos rfl] at H
    have q1 := p.2.2.1 hok
    have g1 := hg.2 hok
    rw [q1.2.2.2] at v01 ⊢
    exact S165_18 hA hf 240 d h Q r t b l _ _ _ (by omega) hs ct sc lt hok hg.1 (by omega) q1.1 q1.2.1 q1.2.2.1 v01 H

theorem S164_7 {B : Nat → Nat} {L D K : Nat} {f : Nat → PR} (hA : mSpec true 165 n5 K B L D f) (hf : ∀ x, x ≤ L → pGd L x (f x)) : ∀ (F d : Nat) (h : ajH) (Q : Option Value → ajH → Prop) (r : PR) (t b : Nat) (l : Nat → Int32) (u1 u2 u4 : Value), K + 1 ≤ d → ajShp h → MT B L t b h → SC h → LT l h → pOk r = true → pAt r ≤ L → L < pAt r + F → ajI h 320 10 = nI (pAt r) → ajI h 320 11 = -1 → ajI h 320 12 = nI (6 - D) → (pVa r l = 0 ∨ pVa r l = 1) →
    (∀ h' v, mPost true L l D (pRow B L sOr f F r) h h' v → Q (some (.int v)) h') → ajEv d 164 7 [.ref 320, u1, u2, .int (pVa r l), u4] [] h Q := by
  intro F
  induction F with
  | zero => intro d h Q r t b l u1 u2 u4 _ _ _ _ _ _ h1 h2; omega
  | succ F ih =>
    intro d h Q r t b l u1 u2 u4 hd hs ct sc lt hok h1 h2 ha hf1 hdp h01 H
    obtain ⟨d, rfl⟩ : ∃ e, d = e + 1 := ⟨d - 1, by omega⟩
    have c2 := ct.2.2.2.1
    have h6 := tSk_ge B L (pAt r)
    have h7 := tSk_le B h1
    have f1 : FR h (ajSI h 320 10 (nI (tSk B L (pAt r)))) P10 := FR_SI h P10a
    refine W164_7 hs ?_
    rw [hf1, if_neg (fun z => z rfl)]
    refine S150 hs ct ha h1 ?_
    intro s1
    refine ⟨_, rfl, ?_⟩
    by_cases e1 : tCh B L (tSk B L (pAt r)) = 124
    · rw [if_neg (fun z => z e1)]
      have hlt := tCh_lt e1 (by decide)
      have hg := hf (tSk B L (pAt r) + 1) (by omega)
      have hsg : sOr (tCh B L (tSk B L (pAt r))) = true := by rw [e1]; rfl
      rintro _ rfl
      rw [ajSI_SI, ajI_SI, if_pos ⟨rfl, rfl⟩, nI_1]
      have f2 : FR h (ajSI h 320 10 (nI (tSk B L (pAt r) + 1))) P10 := FR_SI h P10a
      refine hA d _ _ (tSk B L (pAt r) + 1) t b l (by omega) s1 (MT_10 ct f2) (SC_10 sc f2) (LT_10 lt f2) rfl (by omega) hf1 hdp ?_
      intro h3 x3 p3 s3
      refine ⟨_, rfl, ?_⟩
      have p3 := mPost_pre f2 p3
      have x01 := p3.2.1 rfl
      have hcont : ∀ y : Int32, y = rk 124 (pVa r l) x3 → ∀ u1 u2 : Value, ajEv (d + 1) 164 7 [.ref 320, u1, u2, .int y, .int x3] [] h3 Q := by
        intro y hy _ _
        have y01 : y = 0 ∨ y = 1 := by
          rw [hy, rk_124]
          rcases h01 with e | e <;> rcases x01 with e' | e' <;> rw [e, e'] <;> decide
        cases hq : pOk (f (tSk B L (pAt r) + 1)) with
        | false =>
          rw [pRow_bad hsg hq] at H
          have q3 := p3.2.2.2 hq
          have hr := hg.1
          refine W164_7 s3 ?_
          rw [q3.1, if_pos (by rw [sr_neg1 (by omega)]; exact fun z => z)]
          exact ⟨y01, H h3 y ⟨p3.1, fun _ => y01, fun z => by (cases z), fun _ => q3⟩⟩
        | true =>
          rw [pRow_go hsg hq] at H
          have q3 := p3.2.2.1 hq
          have g3 := hg.2 hq
          have ey : y = pVa ((true, pAt (f (tSk B L (pAt r) + 1)), pCo r ++ pCo (f (tSk B L (pAt r) + 1)) ++ [131072 ||| tCh B L (tSk B L (pAt r))], fun l => rk (tCh B L (tSk B L (pAt r))) (pVa r l) (pVa (f (tSk B L (pAt r) + 1)) l)) : PR) l := by
            rw [hy, q3.2.2.2]
            show _ = rk (tCh B L (tSk B L (pAt r))) _ _
            rw [e1]
          rw [ey]
          refine ih (d + 1) h3 Q (true, pAt (f (tSk B L (pAt r) + 1)), pCo r ++ pCo (f (tSk B L (pAt r) + 1)) ++ [131072 ||| tCh B L (tSk B L (pAt r))], fun l => rk (tCh B L (tSk B L (pAt r))) (pVa r l) (pVa (f (tSk B L (pAt r) + 1)) l)) t b l _ _ _ (by omega) s3 (MT_10 ct p3.1) (SC_10 sc p3.1) (LT_10 lt p3.1) rfl hg.1 ?_ q3.1 q3.2.1 q3.2.2.1 (by rw [← ey]; exact y01) ?_
          · show L < pAt (f (tSk B L (pAt r) + 1)) + F
            omega
          · intro h' v p
            exact H h' v (mPost_pre p3.1 p)
      by_cases e2 : pVa r l = 0
      · rw [if_neg (fun z => z e2)]
        by_cases e3 : x3 = 0
        · rw [if_pos e3]; exact hcont 0 (by rw [rk_124, if_pos e2, if_pos e3]) _ _
        · rw [if_neg e3]; exact hcont 1 (by rw [rk_124, if_pos e2, if_neg e3]) _ _
      · rw [if_pos e2]; exact hcont 1 (by rw [rk_124, if_neg e2]) _ _
    · rw [if_pos e1]
      have hsg : sOr (tCh B L (tSk B L (pAt r))) = false := by unfold sOr; rw [decide_eq_false e1]
      rw [pRow_fail hsg] at H
      exact ⟨h01, H _ _ ⟨f1, fun _ => h01, fun _ => ⟨rfl, hf1, hdp, rfl⟩, fun z => by (cases z)⟩⟩
/-- behind the first thing -/
theorem S164_g {B : Nat → Nat} {L D K d t b : Nat} {f : Nat → PR} {h : ajH} {Q : Option Value → ajH → Prop} {r : PR} {l : Nat → Int32} {v : Int32} {u1 u2 u4 : Value} (hA : mSpec true 165 n5 K B L D f) (hf : ∀ x, x ≤ L → pGd L x (f x)) (hd : K + 1 ≤ d) (hs : ajShp h) (ct : MT B L t b h) (sc : SC h) (lt : LT l h) (hg : pGd L 0 r)
    {h0 : ajH} (p : mPost true L l D r h0 h v) (H : ∀ h' v, mPost true L l D (pGo B L sOr f r) h h' v → Q (some (.int v)) h') : ajEv d 164 7 [.ref 320, u1, u2, .int v, u4] [] h Q := by
  have c2 := ct.2.2.2.1
  have v01 := p.2.1 rfl
  unfold pGo at H
  cases hok : pOk r with
  | false =>
    rw [hok, if_neg (by decide)] at H
    obtain ⟨d, rfl⟩ : ∃ e, d = e + 1 := ⟨d - 1, by omega⟩
    have q1 := p.2.2.2 hok
    have hr := hg.1
    refine W164_7 hs ?_
    rw [q1.1, if_pos (by rw [sr_neg1 (by omega)]; exact fun z => z)]
    exact ⟨v01, H h v ⟨FR_refl _ _, fun _ => v01, fun z => by (rw [hok] at z; cases z), fun _ => q1⟩⟩
  | true =>
    rw [hok, if_pos rfl] at H
    have q1 := p.2.2.1 hok
    have g1 := hg.2 hok
    rw [q1.2.2.2] at v01 ⊢
    exact S164_7 hA hf 240 d h Q r t b l _ _ _ (by omega) hs ct sc lt hok hg.1 (by omega) q1.1 q1.2.1 q1.2.2.1 v01 H

theorem S165 {B : Nat → Nat} {L D K : Nat} (hA : mSpec true 173 m3 K B L D (pUnit B L D)) : mSpec true 165 n5 (K + 1) B L D (fun a => pTru B L (pUnit B L D) (pUnit B L D a)) := by
  intro d h Q a t b l hd hs ct sc lt ha hl hf1 hdp H
  obtain ⟨d, rfl⟩ : ∃ e, d = e + 1 := ⟨d - 1, by omega⟩
  refine W165_0 hs ?_
  rw [if_pos rfl]
  refine hA d _ _ a t b l (by omega) hs ct sc lt ha hl hf1 hdp ?_
  intro h1 v1 p1 s1
  refine ⟨_, rfl, ?_⟩
  exact S165_g hA (fun x hx => pUnit_gd D x hx) (by omega) s1 (MT_10 ct p1.1) (SC_10 sc p1.1) (LT_10 lt p1.1) (pGd_mono (Nat.zero_le _) (pUnit_gd D a hl)) p1 (fun h' v p => H h' v (mPost_pre p1.1 p))
theorem S164 {B : Nat → Nat} {L D K : Nat} (hA : mSpec true 165 n5 K B L D (fun a => pTru B L (pUnit B L D) (pUnit B L D a))) : mSpec true 164 n5 (K + 1) B L D (fun a => pCon B L (pUnit B L D) (pUnit B L D a)) := by
  intro d h Q a t b l hd hs ct sc lt ha hl hf1 hdp H
  obtain ⟨d, rfl⟩ : ∃ e, d = e + 1 := ⟨d - 1, by omega⟩
  refine W164_0 hs ?_
  refine hA d _ _ a t b l (by omega) hs ct sc lt ha hl hf1 hdp ?_
  intro h1 v1 p1 s1
  refine ⟨_, rfl, ?_⟩
  exact S164_g hA (fun x hx => pTru_gd (fun y hy => pUnit_gd D y hy) (pUnit_gd D x hx)) (by omega) s1 (MT_10 ct p1.1) (SC_10 sc p1.1) (LT_10 lt p1.1) (pGd_mono (Nat.zero_le _) (pTru_gd (fun y hy => pUnit_gd D y hy) (pUnit_gd D a hl))) p1 (fun h' v p => H h' v (mPost_pre p1.1 p))
theorem S173 {B : Nat → Nat} {L D : Nat} (hD : D ≤ 6) (hC : ∀ E, D = E + 1 → mSpec true 173 m3 (10 + 3 * E) B L E (pUnit B L E) ∧ mSpec true 164 n5 (12 + 3 * E) B L E (fun a => pCon B L (pUnit B L E) (pUnit B L E a))) : mSpec true 173 m3 (10 + 3 * D) B L D (pUnit B L D) := by
  intro d h Q a t b l hd hs ct sc lt ha hl hf1 hdp H
  obtain ⟨d, rfl⟩ : ∃ e, d = e + 2 := ⟨d - 2, by omega⟩
  have c2 := ct.2.2.2.1
  have h6 := tSk_ge B L a
  have h7 := tSk_le B hl
  refine W173_0 hs ?_
  refine S150 hs ct ha hl ?_
  intro s1
  refine ⟨_, rfl, ?_⟩
  have f1 : FR h (ajSI h 320 10 (nI (tSk B L a))) P10 := FR_SI h P10a
  have ct1 := MT_10 ct f1
  have sc1 := SC_10 sc f1
  have lt1 := LT_10 lt f1
  have ha1 : ajI (ajSI h 320 10 (nI (tSk B L a))) 320 10 = nI (tSk B L a) := rfl
  have hf1' : ajI (ajSI h 320 10 (nI (tSk B L a))) 320 11 = -1 := hf1
  have hd1 : ajI (ajSI h 320 10 (nI (tSk B L a))) 320 12 = nI (6 - D) := hdp
  have H : ∀ h' v, mPost true L l D (pUnit B L D a) (ajSI h 320 10 (nI (tSk B L a))) h' v → Q (some (.int v)) h' := fun h' v p => H h' v (mPost_pre f1 p)
  clear hs ct sc lt ha hf1 hdp f1
  generalize ajSI h 320 10 (nI (tSk B L a)) = h1 at *
  have hfail : pUnit B L D a = pF (tSk B L a) → D = 0 → ajShp (ajSI h1 320 11 (nI (tSk B L a))) → ∃ x4, some (Value.int (0 : Int32)) = some (.int x4) ∧ (if ¬ x4 = (0 : Int32) then False else Q (some (.int (0 : Int32))) (ajSI h1 320 11 (nI (tSk B L a)))) := by
    intro hu _ _
    refine ⟨0, rfl, ?_⟩
    rw [if_neg (fun z => z rfl)]
    rw [hu] at H
    exact H _ 0 (mPost_F (fun _ => Or.inl rfl) h7 ha1)
  by_cases e33 : tCh B L (tSk B L a) = 33
  · rw [if_neg (fun z => z e33)]
    have hlt := tCh_lt e33 (by decide)
    refine S170 s1 ha1 hf1' hd1 hD ?_ ?_
    · intro E hE s2
      subst hE
      refine ⟨_, rfl, ?_⟩
      rw [if_pos (by decide)]
      have f2 : FR h1 (ajSI (ajSI h1 320 12 (nI (6 - E))) 320 10 (nI (tSk B L a + 1))) P10 := FR_trans (FR_SI h1 P10d) (FR_SI _ P10a)
      have hu : pUnit B L (E + 1) a = pNeg (pUnit B L E (tSk B L a + 1)) := by
        conv => lhs; unfold pUnit
        rw [if_pos e33]; rfl
      rw [hu] at H
      have hg := pUnit_gd (B := B) (L := L) E (tSk B L a + 1) (by omega)
      refine (hC E rfl).1 (d + 1) _ _ (tSk B L a + 1) t b l (by omega) s2 (MT_10 ct1 f2) (SC_10 sc1 f2) (LT_10 lt1 f2) rfl (by omega) hf1' rfl ?_
      intro h3 x3 p3 s3
      refine ⟨_, rfl, ?_⟩
      have f3 := FR_trans f2 p3.1
      have x01 := p3.2.1 rfl
      generalize pUnit B L E (tSk B L a + 1) = r at H p3 hg ⊢
      rintro _ rfl
      have f4 : FR h1 (ajSI h3 320 12 (ajI h3 320 12 - 1)) P10 := FR_trans f3 (FR_SI _ P10d)
      have hfin : ∀ y : Int32, (y = 0 ∨ y = 1) → y = 1 - x3 → Q (some (.int y)) (ajSI h3 320 12 (ajI h3 320 12 - 1)) := by
        intro y y01 hy
        unfold pNeg at H
        cases hq : pOk r with
        | false =>
          rw [hq, if_neg (by decide)] at H
          exact H _ y ⟨f4, fun _ => y01, fun z => by (cases z), fun _ => p3.2.2.2 hq⟩
        | true =>
          rw [hq, if_pos rfl] at H
          have q3 := p3.2.2.1 hq
          refine H _ y ⟨f4, fun _ => y01, fun _ => ⟨q3.1, q3.2.1, ?_, ?_⟩, fun z => by (cases z)⟩
          · rw [ajI_SI, if_pos ⟨rfl, rfl⟩, q3.2.2.1, sl_1, sr_sub (by omega)]
            exact congrArg nI (by omega)
          · show y = 1 - pVa r l
            rw [hy, q3.2.2.2]
      rcases x01 with e | e
      · subst e
        rw [if_neg (by decide)]
        exact hfin 1 (Or.inr rfl) rfl
      · subst e
        rw [if_pos (by decide)]
        exact hfin 0 (Or.inl rfl) rfl
    · intro hE s2
      subst hE
      have hu : pUnit B L 0 a = pF (tSk B L a) := by
        unfold pUnit
        rw [if_pos (Or.inl e33)]
      rw [hu] at H
      refine ⟨_, rfl, ?_⟩
      rw [if_neg (by decide)]
      exact H _ 0 (mPost_F (fun _ => Or.inl rfl) h7 ha1)
  · rw [if_pos e33]
    by_cases e40 : tCh B L (tSk B L a) = 40
    · rw [if_neg (fun z => z e40)]
      have hlt := tCh_lt e40 (by decide)
      refine S170 s1 ha1 hf1' hd1 hD ?_ ?_
      · intro E hE s2
        subst hE
        refine ⟨_, rfl, ?_⟩
        rw [if_pos (by decide)]
        have f2 : FR h1 (ajSI (ajSI h1 320 12 (nI (6 - E))) 320 10 (nI (tSk B L a + 1))) P10 := FR_trans (FR_SI h1 P10d) (FR_SI _ P10a)
        have hu := show pUnit B L (E + 1) a = _ from rfl
        conv at hu => rhs; unfold pUnit
        rw [if_neg e33, if_pos e40] at hu
        have hg := pCon_gd (B := B) (L := L) (u := pUnit B L E) (fun x hx => pUnit_gd E x hx) (pUnit_gd (B := B) E (tSk B L a + 1) (by omega))
        refine (hC E rfl).2 (d + 1) _ _ (tSk B L a + 1) t b l (by omega) s2 (MT_10 ct1 f2) (SC_10 sc1 f2) (LT_10 lt1 f2) rfl (by omega) hf1' rfl ?_
        dsimp only
        intro h3 x3 p3 s3
        refine ⟨_, rfl, ?_⟩
        have f3 := FR_trans f2 p3.1
        have x01 := p3.2.1 rfl
        generalize pCon B L (pUnit B L E) (pUnit B L E (tSk B L a + 1)) = r at hu p3 hg ⊢
        cases hok : pOk r with
        | false =>
          rw [hok, if_neg (by decide)] at hu
          rw [hu] at H
          have q3 := p3.2.2.2 hok
          have hr := hg.1
          refine S163f s3 q3.1 (by omega) ?_
          intro _
          refine ⟨_, rfl, ?_⟩
          rw [if_neg (by decide)]
          exact H h3 0 ⟨f3, fun _ => Or.inl rfl, fun z => by (cases z), fun _ => q3⟩
        | true =>
          rw [hok, if_pos rfl] at hu
          have q3 := p3.2.2.1 hok
          have h8 := tSk_le B hg.1
          refine S163 s3 (MT_10 ct1 f3) q3.1 hg.1 q3.2.1 (by decide) ?_ ?_
          · intro e4 l4 s4
            refine ⟨_, rfl, ?_⟩
            rw [if_pos (by decide)]
            rw [if_pos e4] at hu
            rw [hu] at H
            rintro _ rfl
            refine ⟨x01, H _ x3 ⟨FR_trans (FR_trans f3 (FR_SI _ P10a)) (FR_SI _ P10d), fun _ => x01, fun _ => ⟨rfl, q3.2.1, ?_, q3.2.2.2⟩, fun z => by (cases z)⟩⟩
            rw [ajI_SI, if_pos ⟨rfl, rfl⟩, ajI_SI, if_neg (by omega), q3.2.2.1, sl_1, sr_sub (by omega)]
            exact congrArg nI (by omega)
          · intro e4 s4
            refine ⟨_, rfl, ?_⟩
            rw [if_neg (by decide)]
            rw [if_neg e4] at hu
            rw [hu] at H
            exact H _ 0 (mPost_pre (FR_trans f3 (FR_SI _ P10a)) (mPost_F (fun _ => Or.inl rfl) h8 rfl))
      · intro hE s2
        subst hE
        have hu : pUnit B L 0 a = pF (tSk B L a) := by
          unfold pUnit
          rw [if_pos (Or.inr e40)]
        rw [hu] at H
        refine ⟨_, rfl, ?_⟩
        rw [if_neg (by decide)]
        exact H _ 0 (mPost_F (fun _ => Or.inl rfl) h7 ha1)
    · rw [if_pos e40]
      have hu : pUnit B L D a = pRel B L D (pSum B L D (tSk B L a)) := by
        cases D with
        | zero => unfold pUnit; rw [if_neg (by rintro (z | z); exact e33 z; exact e40 z)]
        | succ E => conv => lhs; unfold pUnit
                    rw [if_neg e33, if_neg e40]
      rw [hu] at H
      refine S166 hD (d + 1) _ _ (tSk B L a) t b l (by omega) s1 ct1 sc1 lt1 ha1 h7 hf1' hd1 ?_
      dsimp only
      intro h3 x3 p3 s3
      exact ⟨_, rfl, p3.2.1 rfl, H h3 x3 p3⟩
theorem S173D {B : Nat → Nat} {L : Nat} : ∀ D, D ≤ 6 → mSpec true 173 m3 (10 + 3 * D) B L D (pUnit B L D) ∧ mSpec true 165 n5 (11 + 3 * D) B L D (fun a => pTru B L (pUnit B L D) (pUnit B L D a)) ∧ mSpec true 164 n5 (12 + 3 * D) B L D (fun a => pCon B L (pUnit B L D) (pUnit B L D a)) := by
  intro D
  induction D with
  | zero =>
    intro hD
    have h1 := S173 (B := B) (L := L) hD (fun E e => by omega)
    have h2 := S165 h1
    have h3 := S164 h2
    exact ⟨h1, h2, h3⟩
  | succ D ih =>
    intro hD
    have h1 := S173 (B := B) (L := L) hD (fun E e => by
      have e1 : D = E := by omega
      subst e1
      have z := ih (by omega)
      exact ⟨z.1, z.2.2⟩)
    have h2 := S165 h1
    have h3 := S164 h2
    refine ⟨h1, ?_, ?_⟩
    · intro d h Q a t b l hd
      exact h2 d h Q a t b l (by omega)
    · intro d h Q a t b l hd
      exact h3 d h Q a t b l (by omega)
