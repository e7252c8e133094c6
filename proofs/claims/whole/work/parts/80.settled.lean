/-! When it is settled, and on what. -/
def cvN (R : Nat → Int32) (v : Nat) : Nat → Nat
  | 0 => 0
  | n + 1 => if onB R n = true ∧ R (2 * n) = nI v then cvN R v n + 1 else cvN R v n
theorem cvN_le (R : Nat → Int32) (v : Nat) : ∀ n, cvN R v n ≤ n := by
  intro n
  induction n with
  | zero => exact Nat.le_refl 0
  | succ n ih => unfold cvN; split <;> omega
def cvF (n : Nat) (R : Nat → Int32) : Nat → Nat → Int32 → Nat → Int32
  | 0, _, b, _ => b
  | f + 1, v, b, m => if m < cvN R v n then cvF n R f (v + 1) (nI v) (cvN R v n) else cvF n R f (v + 1) b m
def cvS (n : Nat) (R : Nat → Int32) : Int32 := cvF n R 10 0 (-1) 0
theorem S109_20 {d v n : Nat} {h : ajH} {Q : Option Value → ajH → Prop} {R : Nat → Int32} {b m : Int32} (hs : ajShp h) (cs : CS h 59 n R) (n8 : n ≤ 8)
    (H : ∀ (u6 : Value), ajEv (d + 1) 109 63 [.ref 59, .int (nI n), .int b, .int m, .int (nI v), .int (nI (cvN R v n)), u6] [] h Q) : ∀ (f i : Nat), i + f = n → ajEv (d + 1) 109 20 [.ref 59, .int (nI n), .int b, .int m, .int (nI v), .int (nI (cvN R v i)), .int (nI i)] [] h Q := by
  intro f
  induction f with
  | zero =>
    intro i hi
    obtain rfl : i = n := by omega
    refine W109_20 hs (ajKc rfl) ?_
    rw [if_pos (by rw [sr_le (by omega) (by omega)]; omega)]
    exact H _
  | succ f ih =>
    intro i hi
    have hi' : i < n := by omega
    refine W109_20 hs (ajKc rfl) ?_
    rw [if_neg (by rw [sr_le (by omega) (by omega)]; omega), if_neg (by rw [sl_8, sr_le (by omega) (by omega)]; omega)]
    refine S72b (ajKc rfl) hs (CS_CB cs) n8 hi' ?_
    intro s1
    refine ⟨_, rfl, ?_⟩
    have ihn := ih (i + 1) (by omega)
    have es : cvN R v (i + 1) = if onB R i = true ∧ R (2 * i) = nI v then cvN R v i + 1 else cvN R v i := rfl
    cases eo : onB R i with
    | false =>
      rw [if_pos (show flg false = 0 from rfl), nI_1]
      rw [es, eo, if_neg (fun z => by cases z.1)] at ihn
      exact ihn
    | true =>
      rw [if_neg (by decide)]
      refine ⟨by rw [sr_in (by omega)]; omega, ?_⟩
      rw [sr_N (by omega), cs.2 i hi']
      by_cases y : R (2 * i) = nI v
      · rw [if_neg (fun z => z y), nI_1, nI_1]
        rw [es, if_pos ⟨eo, y⟩] at ihn
        exact ihn
      · rw [if_pos y, nI_1]
        rw [es, if_neg (fun z => y z.2)] at ihn
        exact ihn
theorem S109_7 {d n : Nat} {h : ajH} {Q : Option Value → ajH → Prop} {R : Nat → Int32} (hs : ajShp h) (cs : CS h 59 n R) (n8 : n ≤ 8) : ∀ (f v m : Nat) (b : Int32) (u5 u6 : Value), v + f = 10 → m ≤ 8 →
    Q (some (.int (cvF n R f v b m))) h → ajEv (d + 1) 109 7 [.ref 59, .int (nI n), .int b, .int (nI m), .int (nI v), u5, u6] [] h Q := by
  intro f
  induction f with
  | zero =>
    intro v m b u5 u6 hv hm H
    refine W109_7 hs (ajKc rfl) ?_
    rw [if_pos (by rw [sl_9, sr_lt (by omega) (by omega)]; omega)]
    exact H
  | succ f ih =>
    intro v m b u5 u6 hv hm H
    have l := cvN_le R v n
    refine W109_7 hs (ajKc rfl) ?_
    rw [if_neg (by rw [sl_9, sr_lt (by omega) (by omega)]; omega)]
    refine S109_20 (v := v) hs cs n8 ?_ n 0 (by omega)
    intro u6
    refine W109_63 hs (ajKc rfl) ?_
    unfold cvF at H
    by_cases y : m < cvN R v n
    · rw [if_neg (by rw [sr_le (by omega) (by omega)]; omega), nI_1]
      rw [if_pos y] at H
      exact ih (v + 1) _ _ _ _ (by omega) (by omega) H
    · rw [if_pos (by rw [sr_le (by omega) (by omega)]; omega), nI_1]
      rw [if_neg y] at H
      exact ih (v + 1) _ _ _ _ (by omega) hm H
theorem S109 {d n : Nat} {h : ajH} {Q : Option Value → ajH → Prop} {R : Nat → Int32} (hs : ajShp h) (cs : CS h 59 n R) (n8 : n ≤ 8) (H : Q (some (.int (cvS n R))) h) : ajEv (d + 1) 109 0 [.ref 59, .int (nI n), ajU, ajU, ajU, ajU, ajU] [] h Q := by
  refine W109_0 hs (ajKc rfl) ?_
  exact S109_7 hs cs n8 10 0 0 (-1) _ _ (by omega) (by omega) H
theorem S225_20 {d v n : Nat} {h : ajH} {Q : Option Value → ajH → Prop} {R : Nat → Int32} {b m : Int32} (hs : ajShp h) (mw : RW h 332 R) (e24 : ajI h 320 24 = nI n) (n8 : n ≤ 8)
    (H : ∀ (u6 : Value), (if m < nI (cvN R v n) then ajEv (d + 1) 225 7 [.ref 320, .ref 332, .int (nI v), .int (nI (cvN R v n)), .int (nI v + 1), .int (nI (cvN R v n)), u6] [] h Q else ajEv (d + 1) 225 7 [.ref 320, .ref 332, .int b, .int m, .int (nI v + 1), .int (nI (cvN R v n)), u6] [] h Q)) : ∀ (f i : Nat), i + f = n → ajEv (d + 1) 225 20 [.ref 320, .ref 332, .int b, .int m, .int (nI v), .int (nI (cvN R v i)), .int (nI i)] [] h Q := by
  intro f
  induction f with
  | zero =>
    intro i hi
    obtain rfl : i = n := by omega
    refine W225_20 hs (rB_i (Or.inr rfl)) ?_
    rw [e24, if_pos (by rw [sr_le (by omega) (by omega)]; omega)]
    exact H _
  | succ f ih =>
    intro i hi
    have hi' : i < n := by omega
    refine W225_20 hs (rB_i (Or.inr rfl)) ?_
    rw [e24, if_neg (by rw [sr_le (by omega) (by omega)]; omega)]
    refine S193 (Or.inr rfl) hs mw (by omega) ?_
    intro s1
    refine ⟨_, rfl, ?_⟩
    have ihn := ih (i + 1) (by omega)
    have es : cvN R v (i + 1) = if onB R i = true ∧ R (2 * i) = nI v then cvN R v i + 1 else cvN R v i := rfl
    cases eo : onB R i with
    | false =>
      rw [if_pos (show flg false = 0 from rfl), nI_1, Int32.add_zero]
      rw [es, eo, if_neg (fun z => by cases z.1)] at ihn
      exact ihn
    | true =>
      rw [if_neg (by decide), sl_2, sr_mul, Int32.add_zero, rB_l (Or.inr rfl)]
      refine ⟨by rw [sr_in (by omega)]; omega, ?_⟩
      rw [sr_N (by omega), mw _ (by omega)]
      by_cases y : R (2 * i) = nI v
      · rw [if_neg (fun z => z y), nI_1, nI_1]
        rw [es, if_pos ⟨eo, y⟩] at ihn
        exact ihn
      · rw [if_pos y, Int32.add_zero, nI_1]
        rw [es, if_neg (fun z => y z.2)] at ihn
        exact ihn
theorem S225_7 {d n : Nat} {h : ajH} {Q : Option Value → ajH → Prop} {R : Nat → Int32} (hs : ajShp h) (mw : RW h 332 R) (e24 : ajI h 320 24 = nI n) (n8 : n ≤ 8) : ∀ (f v m : Nat) (b : Int32) (u5 u6 : Value), v + f = 10 → m ≤ 8 →
    Q (some (.int (cvF n R f v b m))) h → ajEv (d + 1) 225 7 [.ref 320, .ref 332, .int b, .int (nI m), .int (nI v), u5, u6] [] h Q := by
  intro f
  induction f with
  | zero =>
    intro v m b u5 u6 hv hm H
    refine W225_7 hs (rB_i (Or.inr rfl)) ?_
    rw [if_pos (by rw [sl_9, sr_lt (by omega) (by omega)]; omega)]
    exact H
  | succ f ih =>
    intro v m b u5 u6 hv hm H
    have l := cvN_le R v n
    refine W225_7 hs (rB_i (Or.inr rfl)) ?_
    rw [if_neg (by rw [sl_9, sr_lt (by omega) (by omega)]; omega)]
    refine S225_20 (v := v) hs mw e24 n8 ?_ n 0 (by omega)
    intro u6
    unfold cvF at H
    by_cases y : m < cvN R v n
    · rw [if_pos (by rw [sr_lt (by omega) (by omega)]; omega), nI_1]
      rw [if_pos y] at H
      exact ih (v + 1) _ _ _ _ (by omega) (by omega) H
    · rw [if_neg (by rw [sr_lt (by omega) (by omega)]; omega), nI_1]
      rw [if_neg y] at H
      exact ih (v + 1) _ _ _ _ (by omega) hm H
theorem S225 {d n : Nat} {h : ajH} {Q : Option Value → ajH → Prop} {R : Nat → Int32} (hs : ajShp h) (mw : RW h 332 R) (e24 : ajI h 320 24 = nI n) (n8 : n ≤ 8) (H : Q (some (.int (cvS n R))) h) : ajEv (d + 1) 225 0 [.ref 320, .ref 332, ajU, ajU, ajU, ajU, ajU] [] h Q := by
  refine W225_0 hs (rB_i (Or.inr rfl)) ?_
  exact S225_7 hs mw e24 n8 10 0 0 (-1) _ _ (by omega) (by omega) H
/-- turn n, the last change at s, by which they were of the opinion cv -/
noncomputable def stF (E : EV) (w : Int32) : Nat → Nat → Nat → Int32 → (Nat → Int32) → Int32
  | 0, _, _, _, _ => -1
  | f + 1, n, s, cv, R =>
    if iChg E (iGo (eN E) R) = 0 then (if n - s = eN E then (if ¬ w = 0 then cv else nI s) else stF E w f (n + 1) s cv (iNx E R))
    else if 99 < n then -1 else if eN E = 0 then (if ¬ w = 0 then cvS (eN E) (iNx E R) else nI n) else stF E w f (n + 1) n (cvS (eN E) (iNx E R)) (iNx E R)
noncomputable def aSet (S : GS) (v : Int32) : Int32 := if (decide (0 < gz S) && isp 2 v) = true then stF (gE S) v 107 1 0 (cvS (gz S) (gX S).1) (gX S).1 else -1
theorem se_n {S : GS} {v : Int32} {h : ajH} {Q : Option Value → ajH → Prop} (H : Q (some (.int (aSet S v))) h) (e : (decide (0 < gz S) && isp 2 v) = false) : Q (some (.int (-1))) h := by
  unfold aSet at H
  rw [e, if_neg (by decide)] at H
  exact H
theorem S108_dead {S : GS} {d : Nat} {w : Int32} (vd : GVd S) (hz : 0 < gz S) : ∀ (f n q s : Nat) (cv : Int32) (h : ajH) (Q : Option Value → ajH → Prop) (R : Nat → Int32) (T : Nat), n + f = 108 → ajShp h → CI S h → RV (gz S) T R → T + f ≤ 100000 → CS h 59 (gz S) R → 99 < s → s < n → q < n →
    (∀ h', FR h h' PTr → CI S h' → Q (some (.int (-1))) h') → ajEv (d + 5) 108 52 [.ref 1, .int w, .int (nI s), .int cv, .int (nI q), .int (nI n)] [] h Q := by
  have z8 := vd.z8
  intro f
  have out : ∀ (n q s : Nat) (cv : Int32) (h : ajH) (Q : Option Value → ajH → Prop), ajShp h → CI S h → 99 < s → s < 1000 → q < 1000 → (∀ h', FR h h' PTr → CI S h' → Q (some (.int (-1))) h') → ajEv (d + 5) 108 127 [.ref 1, .int w, .int (nI s), .int cv, .int (nI q), .int (nI n)] [] h Q := by
    intro n q s cv h Q hs c h99 h1 h2 H
    refine W108_127 hs ?_
    have H0 := H h (FR_refl _ _) c
    by_cases y : nI q < ajI h 4 0
    · rw [if_pos y]; exact H0
    · rw [if_neg y, if_neg (by rw [sl_99, sr_le (by omega) (by omega)]; omega)]; exact H0
  induction f with
  | zero =>
    intro n q s cv h Q R T hn hs c rv hT cs h99 hsn hq H
    refine W108_52 hs ?_
    rw [if_pos (by rw [sl_107, sr_lt (by omega) (by omega)]; omega)]
    exact out n q s cv h Q hs c h99 (by omega) (by omega) H
  | succ f ih =>
    intro n q s cv h Q R T hn hs c rv hT cs h99 hsn hq H
    refine W108_52 hs ?_
    rw [if_neg (by rw [sl_107, sr_lt (by omega) (by omega)]; omega), c.2.1.1]
    by_cases yq : nI (gz S) ≤ nI q
    · rw [if_pos yq]
      exact out n q s cv h Q hs c h99 (by omega) (by omega) H
    · rw [if_neg yq]
      refine S64 hs c.2.2.1 vd ?_
      intro s1
      refine ⟨_, rfl, ?_⟩
      refine cTr (s := false) s1 c vd hz rv cs ?_
      intro h1 f1 c1 cs1 _ _ e15 s2
      refine ⟨rfl, ?_⟩
      rw [iTurn_f] at e15 cs1
      have rv1 : RV (gz S) (T + 1) (iNx (gE S) R) := RV_nx (gE_g vd) (gE_ok vd) z8 rv (by omega)
      have cs1 : CS h1 59 (gz S) (iNx (gE S) R) := cs1
      rw [e15, nI_1, c1.2.1.1]
      by_cases yc : iChg (gE S) (iGo (eN (gE S)) R) = 0
      · rw [if_pos yc, nI_1]
        exact ih (n + 1) (q + 1) s cv h1 Q _ (T + 1) (by omega) s2 c1 rv1 (by omega) cs1 h99 (by omega) (by omega) (fun h' g c' => H h' (FR_trans f1 g) c')
      · rw [if_neg yc]
        refine S109 s2 cs1 z8 ?_
        intro s3
        refine ⟨_, rfl, ?_⟩
        rw [nI_1]
        exact ih (n + 1) 0 n _ h1 Q _ (T + 1) (by omega) s3 c1 rv1 (by omega) cs1 (by omega) (by omega) (by omega) (fun h' g c' => H h' (FR_trans f1 g) c')
theorem S108_52 {S : GS} {d : Nat} {w : Int32} (vd : GVd S) (hz : 0 < gz S) : ∀ (f n s : Nat) (cv : Int32) (h : ajH) (Q : Option Value → ajH → Prop) (R : Nat → Int32) (T : Nat), n + f = 108 → ajShp h → CI S h → RV (gz S) T R → T + f ≤ 100000 → CS h 59 (gz S) R → s ≤ 99 → s < n → n - 1 - s < gz S →
    (∀ h', FR h h' PTr → CI S h' → Q (some (.int (stF (gE S) w f n s cv R))) h') → ajEv (d + 5) 108 52 [.ref 1, .int w, .int (nI s), .int cv, .int (nI (n - 1 - s)), .int (nI n)] [] h Q := by
  have z8 := vd.z8
  intro f
  induction f with
  | zero =>
    intro n s cv h Q R T hn hs c rv hT cs h99 hsn hq H
    exfalso; omega
  | succ f ih =>
    intro n s cv h Q R T hn hs c rv hT cs h99 hsn hq H
    refine W108_52 hs ?_
    rw [if_neg (by rw [sl_107, sr_lt (by omega) (by omega)]; omega), c.2.1.1, if_neg (by rw [sr_le (by omega) (by omega)]; omega)]
    refine S64 hs c.2.2.1 vd ?_
    intro s1
    refine ⟨_, rfl, ?_⟩
    refine cTr (s := false) s1 c vd hz rv cs ?_
    intro h1 f1 c1 cs1 _ _ e15 s2
    refine ⟨rfl, ?_⟩
    rw [iTurn_f] at e15 cs1
    have rv1 : RV (gz S) (T + 1) (iNx (gE S) R) := RV_nx (gE_g vd) (gE_ok vd) z8 rv (by omega)
    have cs1 : CS h1 59 (gz S) (iNx (gE S) R) := cs1
    rw [e15, nI_1, c1.2.1.1]
    have es : stF (gE S) w (f + 1) n s cv R = (if iChg (gE S) (iGo (eN (gE S)) R) = 0 then (if n - s = gz S then (if ¬ w = 0 then cv else nI s) else stF (gE S) w f (n + 1) s cv (iNx (gE S) R))
      else if 99 < n then -1 else if gz S = 0 then (if ¬ w = 0 then cvS (gz S) (iNx (gE S) R) else nI n) else stF (gE S) w f (n + 1) n (cvS (gz S) (iNx (gE S) R)) (iNx (gE S) R)) := rfl
    rw [es] at H
    by_cases yc : iChg (gE S) (iGo (eN (gE S)) R) = 0
    · rw [if_pos yc, nI_1, show n - 1 - s + 1 = n - s by omega]
      rw [if_pos yc] at H
      by_cases ye : n - s = gz S
      · rw [if_pos ye] at H
        refine W108_52 s2 ?_
        have H1 := H h1 f1 c1
        have fin : ajEv (d + 5) 108 127 [.ref 1, .int w, .int (nI s), .int cv, .int (nI (n - s)), .int (nI (n + 1))] [] h1 Q := by
          refine W108_127 s2 ?_
          rw [c1.2.1.1, if_neg (by rw [sr_lt (by omega) (by omega)]; omega), if_pos (by rw [sl_99, sr_le (by omega) (by omega)]; omega)]
          by_cases yw : w = 0
          · rw [if_neg (fun z => z yw)]; rw [if_neg (fun z => z yw)] at H1; exact H1
          · rw [if_pos yw]; rw [if_pos yw] at H1; exact H1
        by_cases y7 : (107 : Int32) < nI (n + 1)
        · rw [if_pos y7]; exact fin
        · rw [if_neg y7, c1.2.1.1, if_pos (by rw [sr_le (by omega) (by omega)]; omega)]; exact fin
      · rw [if_neg ye] at H
        have r := ih (n + 1) s cv h1 Q _ (T + 1) (by omega) s2 c1 rv1 (by omega) cs1 h99 (by omega) (by omega) (fun h' g c' => H h' (FR_trans f1 g) c')
        rw [show n + 1 - 1 - s = n - s by omega] at r
        exact r
    · rw [if_neg yc]
      rw [if_neg yc] at H
      refine S109 s2 cs1 z8 ?_
      intro s3
      refine ⟨_, rfl, ?_⟩
      by_cases y9 : 99 < n
      · rw [if_pos y9] at H
        rw [nI_1]
        exact S108_dead vd hz f (n + 1) 0 n _ h1 Q _ (T + 1) (by omega) s3 c1 rv1 (by omega) cs1 y9 (by omega) (by omega) (fun h' g c' => H h' (FR_trans f1 g) c')
      · rw [if_neg y9, if_neg (by omega)] at H
        have r := ih (n + 1) n (cvS (gz S) (iNx (gE S) R)) h1 Q _ (T + 1) (by omega) s3 c1 rv1 (by omega) cs1 (by omega) (by omega) (by omega) (fun h' g c' => H h' (FR_trans f1 g) c')
        rw [show n + 1 - 1 - n = 0 by omega] at r
        rw [nI_1]
        exact r
theorem isp_2n {v : Int32} (c : isp 2 v = false) : v < 0 ∨ 1 < v := by
  have q := in_isp (n := 2) (v := v) (by omega)
  rw [c] at q
  by_cases y : v < 0
  · exact Or.inl y
  · rw [if_neg y] at q
    by_cases y2 : nI 2 - 1 < v
    · exact Or.inr y2
    · rw [if_neg y2] at q; cases q
theorem S108 {S : GS} {d : Nat} {v : Int32} {h : ajH} {Q : Option Value → ajH → Prop} (hs : ajShp h) (c : CI S h) (vd : GVd S)
    (H : ∀ h', FR h h' PTr → CI S h' → Q (some (.int (aSet S v))) h') : ajEv (d + 5) 108 0 [.ref 1, .int v, ajU, ajU, ajU, ajU] [] h Q := by
  have z8 := vd.z8
  have H0 := H h (FR_refl _ _) c
  refine W108_0 hs ?_
  refine S56 hs c.2.1 z8 ?_
  intro s1
  refine ⟨_, rfl, ?_⟩
  by_cases hz : 0 < gz S
  · rw [decide_eq_true hz, if_neg (by decide)]
    cases e : isp 2 v with
    | false =>
      have H1 := se_n H0 (by rw [e, Bool.and_false])
      rcases isp_2n e with y | y
      · rw [if_pos y]; exact H1
      · by_cases y0 : v < 0
        · rw [if_pos y0]; exact H1
        · rw [if_neg y0, if_neg (fa_nle y)]; exact H1
    | true =>
      unfold aSet at H
      rw [decide_eq_true hz, e, if_pos (show (true && true) = true from rfl)] at H
      have go : ajEv (d + 4) 62 0 [.ref 59, .ref 54] [] h (fun r h7 => ajShp h7 → r = none ∧ ajEv (d + 4) 109 0 [.ref 59, .int (ajI h7 4 0), ajU, ajU, ajU, ajU, ajU] [] h7 (fun r h9 => ajShp h9 → ∃ x10, r = some (.int x10) ∧ ajEv (d + 4 + 1) 108 52 [.ref 1, .int v, .int 0, .int x10, .int 0, .int 1] [] h9 Q)) := by
        refine cFo s1 c vd hz ?_
        intro h1 f1 c1 cs1 s2
        refine ⟨rfl, ?_⟩
        rw [c1.2.1.1]
        refine S109 s2 cs1 z8 ?_
        intro s3
        refine ⟨_, rfl, ?_⟩
        exact S108_52 vd hz 107 1 0 _ h1 Q _ 1000 (by omega) s3 c1 (vd.xv hz).1 (by omega) cs1 (by omega) (by omega) (by omega) (fun h' g c' => H h' (FR_trans f1 g) c')
      rcases isp_2 e with rfl | rfl
      · rw [if_neg (by decide), if_pos (by decide)]; exact go
      · rw [if_neg (by decide), if_pos (by decide)]; exact go
  · rw [decide_eq_false hz, if_pos (show flg false = 0 from rfl)]
    exact se_n H0 (by rw [decide_eq_false hz]; rfl)
theorem S224_49 {S : GS} {d : Nat} {w : Int32} (vd : GVd S) (hz : 0 < gz S) : ∀ (f n s : Nat) (cv : Int32) (h : ajH) (Q : Option Value → ajH → Prop) (R : Nat → Int32) (T : Nat) (u5 : Value), n + f = 108 → ajShp h → MI S h → RV (gz S) T R → T + f ≤ 100000 → RW h 332 R → s ≤ 99 → s < n → n - 1 - s < gz S →
    (∀ h', FR h h' PMt → MI S h' → Q (some (.int (stF (gE S) w f n s cv R))) h') → ajEv (d + 38) 224 49 [.ref 320, .int w, .int (nI s), .int cv, .int (nI n), u5] [] h Q := by
  have z8 := vd.z8
  intro f
  induction f with
  | zero =>
    intro n s cv h Q R T u5 hn hs c rv hT mw h99 hsn hq H
    exfalso; omega
  | succ f ih =>
    intro n s cv h Q R T u5 hn hs c rv hT mw h99 hsn hq H
    refine W224_49 hs ?_
    rw [c.2.1.1, sl_99, sr_add, if_neg (by rw [sr_lt (by omega) (by omega)]; omega)]
    refine mTr (s := false) hs c vd hz rv (by omega) mw ?_
    intro h1 f1 c1 mw1 _ e37 s1
    refine ⟨_, rfl, ?_⟩
    rw [iTurn_f] at e37 mw1
    have rv1 : RV (gz S) (T + 1) (iNx (gE S) R) := RV_nx (gE_g vd) (gE_ok vd) z8 rv (by omega)
    have mw1 : RW h1 332 (iNx (gE S) R) := mw1
    have es : stF (gE S) w (f + 1) n s cv R = (if iChg (gE S) (iGo (eN (gE S)) R) = 0 then (if n - s = gz S then (if ¬ w = 0 then cv else nI s) else stF (gE S) w f (n + 1) s cv (iNx (gE S) R))
      else if 99 < n then -1 else if gz S = 0 then (if ¬ w = 0 then cvS (gz S) (iNx (gE S) R) else nI n) else stF (gE S) w f (n + 1) n (cvS (gz S) (iNx (gE S) R)) (iNx (gE S) R)) := rfl
    rw [es] at H
    rw [e37]
    by_cases yc : iChg (gE S) (iGo (eN (gE S)) R) = 0
    · rw [if_pos yc]
      rw [if_pos yc] at H
      refine W224_91 s1 ?_
      rw [if_pos (by rw [sl_99, sr_le (by omega) (by omega)]; omega), c1.2.1.1, sr_sub (by omega)]
      by_cases ye : n - s = gz S
      · rw [if_pos ye] at H
        rw [ye, if_neg (fun z => z rfl)]
        have H1 := H h1 f1 c1
        by_cases yw : w = 0
        · rw [if_neg (fun z => z yw)]; rw [if_neg (fun z => z yw)] at H1; exact H1
        · rw [if_pos yw]; rw [if_pos yw] at H1; exact H1
      · rw [if_neg ye] at H
        rw [if_pos (fun z => ye ((sr_eq (by omega) (by omega)).mp z)), nI_1]
        exact ih (n + 1) s cv h1 Q _ (T + 1) _ (by omega) s1 c1 rv1 (by omega) mw1 h99 (by omega) (by omega) (fun h' g c' => H h' (FR_trans f1 g) c')
    · rw [if_neg yc]
      rw [if_neg yc] at H
      refine S225 s1 mw1 c1.2.1.1 z8 ?_
      intro s2
      refine ⟨_, rfl, ?_⟩
      refine W224_91 s2 ?_
      by_cases y9 : 99 < n
      · rw [if_pos y9] at H
        rw [if_neg (by rw [sl_99, sr_le (by omega) (by omega)]; omega)]
        exact H h1 f1 c1
      · rw [if_neg y9, if_neg (by omega)] at H
        rw [if_pos (by rw [sl_99, sr_le (by omega) (by omega)]; omega), c1.2.1.1, sr_sub (by omega), if_pos (fun z => by have := (sr_eq (by omega) (by omega)).mp z; omega), nI_1]
        exact ih (n + 1) n _ h1 Q _ (T + 1) _ (by omega) s2 c1 rv1 (by omega) mw1 (by omega) (by omega) (by omega) (fun h' g c' => H h' (FR_trans f1 g) c')
theorem S224 {S : GS} {d : Nat} {v : Int32} {h : ajH} {Q : Option Value → ajH → Prop} (hs : ajShp h) (c : MI S h) (vd : GVd S)
    (H : ∀ h', FR h h' PMt → MI S h' → Q (some (.int (aSet S v))) h') : ajEv (d + 38) 224 0 [.ref 320, .int v, ajU, ajU, ajU, ajU] [] h Q := by
  have z8 := vd.z8
  refine W224_0 hs ?_
  rintro _ rfl
  have c0 := MI_0 (x := 0) c
  have f0 := FR_t0 h 0
  have s0 : ajShp (ajSI h 320 0 0) := hs
  generalize ajSI h 320 0 0 = h0 at c0 f0 s0
  have H0 := H h0 f0 c0
  rw [c0.2.1.1]
  by_cases hz : 0 < gz S
  · rw [if_neg (fun z => by have := (sr_eq (b := 0) (by omega) (by omega)).mp z; omega)]
    refine S145 (lo := 0) (hi := 1) s0 ?_
    intro s1
    refine ⟨_, rfl, ?_⟩
    have q2 := in_isp (n := 2) (v := v) (by omega)
    rw [show nI 2 - 1 = (1 : Int32) from rfl] at q2
    rw [q2]
    cases e : isp 2 v with
    | false =>
      rw [if_neg (show ¬ ¬ flg false = 0 from fun z => z rfl)]
      exact se_n H0 (by rw [e, Bool.and_false])
    | true =>
      rw [if_pos (by decide)]
      unfold aSet at H
      rw [decide_eq_true hz, e, if_pos (show (true && true) = true from rfl)] at H
      refine mFo s1 c0 ?_
      intro h1 f1 c1 mw1 s2
      refine ⟨rfl, ?_⟩
      refine S225 s2 mw1 c1.2.1.1 z8 ?_
      intro s3
      refine ⟨_, rfl, ?_⟩
      exact S224_49 vd hz 107 1 0 _ h1 Q _ 1000 _ (by omega) s3 c1 (vd.xv hz).1 (by omega) mw1 (by omega) (by omega) (by omega) (fun h' g c' => H h' (FR_trans f0 (FR_trans f1 g)) c')
  · rw [show gz S = 0 by omega, if_pos (show nI 0 = 0 from rfl)]
    exact se_n H0 (by rw [decide_eq_false hz]; rfl)
