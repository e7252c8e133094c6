/-! Whose opinion it was, the class. -/
noncomputable def iAt (S : GS) (k v : Nat) : Nat → Int32 := rTold (gz S) (gRU S) (fun i j => if i = k ∧ j = 1 then v else gFO S i j)
theorem iAt_k {S : GS} {k v : Nat} (z8 : gz S ≤ 8) (hk : k < gz S) : iAt S k v (2 * k) = nI v := by
  unfold iAt
  rw [rTold_v z8 hk]
  show nI (if k = k ∧ 1 = 1 then v else gFO S k 1) = _
  rw [if_pos ⟨rfl, rfl⟩]
theorem iAt_e {S : GS} {k v j : Nat} (hj : ¬ j = 2 * k) : iAt S k v j = rTold (gz S) (gRU S) (gFO S) j := by
  unfold iAt rTold
  by_cases y : j < 16
  · rw [if_pos y, if_pos y]
    by_cases y2 : j % 2 = 0 ∧ j / 2 < gz S
    · rw [if_pos y2, if_pos y2]
      show nI (if j / 2 = k ∧ 1 = 1 then v else gFO S (j / 2) 1) = _
      rw [if_neg (by omega)]
    · rw [if_neg y2, if_neg y2]
  · rw [if_neg y, if_neg y]
theorem iAt_rv {S : GS} {k v : Nat} (vd : GVd S) (hz : 0 < gz S) (hv : v < 10) : RV (gz S) 1000 (iAt S k v) := by
  refine RV_told vd.z8 hz vd.ru.1 vd.ru.2 (fun i hi => ?_)
  show (if i = k ∧ 1 = 1 then v else gFO S i 1) < 10
  split
  · exact hv
  · exact (vd.fo i hi).1
/-- the t-th turn from now on, is it done -/
noncomputable def dnS (E : EV) : Nat → (Nat → Int32) → Bool
  | 0, R => !decide (iDone E (iGo (eN E) R) = 0)
  | t + 1, R => dnS E t (iNx E R)
noncomputable def paF (E : EV) : Nat → Nat → (Nat → Int32) → Int32 → Int32
  | 0, _, _, a => a
  | f + 1, i, R, a => paF E f (i + 1) (iNx E R) (if iDone E (iGo (eN E) R) = 0 then a else a ||| bt i)
theorem hb_paF (E : EV) : ∀ (f i : Nat) (R : Nat → Int32) (a : Int32) (b : Nat), i + f ≤ 32 → b < 32 → hb (paF E f i R a) b = (hb a b || (decide (i ≤ b) && decide (b < i + f) && dnS E (b - i) R)) := by
  intro f
  induction f with
  | zero =>
    intro i R a b hi hb'
    show hb a b = _
    by_cases y : i ≤ b
    · rw [decide_eq_false (show ¬ b < i + 0 by omega), Bool.and_false, Bool.false_and, Bool.or_false]
    · rw [decide_eq_false y, Bool.false_and, Bool.false_and, Bool.or_false]
  | succ f ih =>
    intro i R a b hi hb'
    show hb (paF E f (i + 1) (iNx E R) (if iDone E (iGo (eN E) R) = 0 then a else a ||| bt i)) b = _
    rw [ih (i + 1) _ _ b (by omega) hb']
    have e1 : hb (if iDone E (iGo (eN E) R) = 0 then a else a ||| bt i) b = (hb a b || (decide (b = i) && !decide (iDone E (iGo (eN E) R) = 0))) := by
      by_cases y : iDone E (iGo (eN E) R) = 0
      · rw [if_pos y, decide_eq_true y]; simp
      · rw [if_neg y, decide_eq_false y, hb_or, hb_bt (by omega) hb']; simp
    rw [e1]
    by_cases y : b = i
    · subst y
      rw [decide_eq_true rfl, decide_eq_false (show ¬ b + 1 ≤ b by omega), decide_eq_true (show b ≤ b by omega), decide_eq_true (show b < b + (f + 1) by omega), Nat.sub_self]
      show _ = (hb a b || (true && true && !decide (iDone E (iGo (eN E) R) = 0)))
      simp
    · rw [decide_eq_false y]
      by_cases y2 : i ≤ b
      · rw [decide_eq_true y2, decide_eq_true (show i + 1 ≤ b by omega), show b - i = (b - (i + 1)) + 1 by omega, show i + 1 + f = i + (f + 1) by omega]
        show _ = (hb a b || (true && decide (b < i + (f + 1)) && dnS E (b - (i + 1)) (iNx E R)))
        simp
      · rw [decide_eq_false y2, decide_eq_false (show ¬ i + 1 ≤ b by omega)]; simp
theorem hb_sgM (st : Nat → Nat) (sb : Nat → Bool) (b : Bool) : ∀ n, (∀ i, i < n → 1 ≤ st i ∧ st i ≤ 20) → ∀ j, j < 32 → (hb (sgM st sb b n) j = true ↔ ∃ i, i < n ∧ sb i = b ∧ st i - 1 = j) := by
  intro n
  induction n with
  | zero =>
    intro _ j hj
    show hb 0 j = true ↔ _
    rw [hb_0]
    exact ⟨fun z => (by cases z), fun ⟨i, hi, _⟩ => absurd hi (by omega)⟩
  | succ n ih =>
    intro h j hj
    have ihn := ih (fun i hi => h i (by omega)) j hj
    have hn := h n (by omega)
    show hb (if sb n = b then sgM st sb b n ||| bt (st n - 1) else sgM st sb b n) j = true ↔ _
    by_cases y : sb n = b
    · rw [if_pos y, hb_or, hb_bt (by omega) hj, Bool.or_eq_true, ihn, decide_eq_true_eq]
      constructor
      · rintro (⟨i, hi, e1, e2⟩ | e)
        · exact ⟨i, by omega, e1, e2⟩
        · exact ⟨n, by omega, y, e.symm⟩
      · rintro ⟨i, hi, e1, e2⟩
        by_cases z : i = n
        · subst z; exact Or.inr e2.symm
        · exact Or.inl ⟨i, by omega, e1, e2⟩
    · rw [if_neg y, ihn]
      constructor
      · rintro ⟨i, hi, e1, e2⟩; exact ⟨i, by omega, e1, e2⟩
      · rintro ⟨i, hi, e1, e2⟩
        by_cases z : i = n
        · subst z; exact absurd e1 y
        · exact ⟨i, by omega, e1, e2⟩
theorem and_0 (x y : Int32) : x &&& y = 0 ↔ ∀ j, j < 32 → hb y j = true → hb x j = false := by
  constructor
  · intro e j hj hy
    have := congrArg (fun m => hb m j) e
    simp only [hb_and, hb_0] at this
    rw [hy, Bool.and_true] at this
    exact this
  · intro e
    refine hb_ext fun j hj => ?_
    rw [hb_and, hb_0]
    cases hy : hb y j with
    | false => rw [Bool.and_false]
    | true => rw [e j hj hy, Bool.false_and]
/-- does it fit what was seen -/
noncomputable def fitB (S : GS) (R : Nat → Int32) : Bool := decide (∀ i, i < gns S → dnS (gE S) (gst S i - 1) R = gsb S i)
theorem sgX_ge {st : Nat → Nat} : ∀ n i, i < n → st i ≤ sgX st n := by
  intro n
  induction n with
  | zero => intro i hi; omega
  | succ n ih =>
    intro i hi
    show st i ≤ (if sgX st n < st n then st n else sgX st n)
    by_cases y : i = n
    · subst y; split <;> omega
    · have := ih i (by omega)
      split <;> omega
theorem S114 {S : GS} {d n : Nat} {R : Nat → Int32} {h : ajH} {Q : Option Value → ajH → Prop} (hs : ajShp h) (c : c7 S h) (vd : GVd S) (hn : ∀ i, i < gns S → gst S i ≤ n) (n20 : n ≤ 20)
    (H : Q (some (.int (flg (fitB S R)))) h) : ajEv d 114 0 [.ref 271, .int (paF (gE S) n 0 R 0)] [] h Q := by
  have st := vd.st
  have hp : ∀ j, j < n → hb (paF (gE S) n 0 R 0) j = dnS (gE S) j R := fun j hj => by
    rw [hb_paF _ _ _ _ _ _ (by omega) (by omega), hb_0, decide_eq_true (show 0 ≤ j by omega), decide_eq_true (show j < 0 + n by omega)]; simp
  have kF := hb_sgM (gst S) (gsb S) false (gns S) st
  have kT := hb_sgM (gst S) (gsb S) true (gns S) st
  have a1 : paF (gE S) n 0 R 0 &&& sgM (gst S) (gsb S) false (gns S) = 0 ↔ ∀ i, i < gns S → gsb S i = false → dnS (gE S) (gst S i - 1) R = false := by
    rw [and_0]
    constructor
    · intro e i hi hb'
      have s := st i hi
      have l := hn i hi
      rw [← hp (gst S i - 1) (by omega)]
      exact e _ (by omega) ((kF _ (by omega)).mpr ⟨i, hi, hb', rfl⟩)
    · intro e j hj hy
      obtain ⟨i, hi, e1, rfl⟩ := (kF j hj).mp hy
      have s := st i hi
      have l := hn i hi
      rw [hp _ (by omega)]; exact e i hi e1
  have a2 : (paF (gE S) n 0 R 0 ^^^ -1) &&& sgM (gst S) (gsb S) true (gns S) = 0 ↔ ∀ i, i < gns S → gsb S i = true → dnS (gE S) (gst S i - 1) R = true := by
    rw [and_0]
    constructor
    · intro e i hi hb'
      have s := st i hi
      have l := hn i hi
      have := e (gst S i - 1) (by omega) ((kT _ (by omega)).mpr ⟨i, hi, hb', rfl⟩)
      rw [hb_not _ (by omega), hp _ (by omega)] at this
      cases z : dnS (gE S) (gst S i - 1) R with
      | true => rfl
      | false => rw [z] at this; cases this
    · intro e j hj hy
      obtain ⟨i, hi, e1, rfl⟩ := (kT j hj).mp hy
      have s := st i hi
      have l := hn i hi
      rw [hb_not _ (by omega), hp _ (by omega), e i hi e1]; rfl
  refine W114_0 hs ?_
  rw [c.2.1, c.2.2.1]
  unfold fitB at H
  by_cases y1 : paF (gE S) n 0 R 0 &&& sgM (gst S) (gsb S) false (gns S) = 0
  · rw [if_neg (fun z => z y1)]
    by_cases y2 : (paF (gE S) n 0 R 0 ^^^ -1) &&& sgM (gst S) (gsb S) true (gns S) = 0
    · rw [if_neg (fun z => z y2)]
      rw [decide_eq_true (fun i hi => by
        cases e : gsb S i with
        | false => exact a1.mp y1 i hi e
        | true => exact a2.mp y2 i hi e)] at H
      exact H
    · rw [if_pos y2]
      rw [decide_eq_false (fun z => y2 (a2.mpr (fun i hi e => (z i hi).trans e)))] at H
      exact H
  · rw [if_pos y1]
    rw [decide_eq_false (fun z => y1 (a1.mpr (fun i hi e => (z i hi).trans e)))] at H
    exact H
theorem S113_35 {S : GS} {d n : Nat} (vd : GVd S) (hz : 0 < gz S) (n20 : n ≤ 20) : ∀ (f i : Nat) (h : ajH) (Q : Option Value → ajH → Prop) (R : Nat → Int32) (T : Nat) (a : Int32) (u1 u2 : Value), i + f = n → ajShp h → CI S h → RV (gz S) T R → T + f ≤ 100000 → CS h 59 (gz S) R →
    (∀ h', FR h h' PTr → CI S h' → Q (some (.int (paF (gE S) f i R a))) h') → ajEv (d + 5) 113 35 [.ref 1, u1, u2, .int (nI n), .int a, .int (nI i)] [] h Q := by
  have z8 := vd.z8
  intro f
  induction f with
  | zero =>
    intro i h Q R T a u1 u2 hi hs c rv hT cs H
    refine W113_35 hs ?_
    rw [if_pos (by rw [sr_le (by omega) (by omega)]; omega)]
    exact H h (FR_refl _ _) c
  | succ f ih =>
    intro i h Q R T a u1 u2 hi hs c rv hT cs H
    refine W113_35 hs ?_
    rw [if_neg (by rw [sr_le (by omega) (by omega)]; omega), if_neg (by rw [sl_20, sr_le (by omega) (by omega)]; omega)]
    refine S64 hs c.2.2.1 vd ?_
    intro s1
    refine ⟨_, rfl, ?_⟩
    refine cTr (s := false) s1 c vd hz rv cs ?_
    intro h1 f1 c1 cs1 _ e14 _ s2
    refine ⟨rfl, ?_⟩
    rw [iTurn_f] at e14
    have rv1 : RV (gz S) (T + 1) (iNx (gE S) R) := RV_nx (gE_g vd) (gE_ok vd) z8 rv (by omega)
    have cs1 : CS h1 59 (gz S) (iNx (gE S) R) := cs1
    have es : paF (gE S) (f + 1) i R a = paF (gE S) f (i + 1) (iNx (gE S) R) (if iDone (gE S) (iGo (eN (gE S)) R) = 0 then a else a ||| bt i) := rfl
    rw [es] at H
    rw [e14, nI_1, bt_def]
    by_cases y : iDone (gE S) (iGo (eN (gE S)) R) = 0
    · rw [if_pos y]
      rw [if_pos y] at H
      exact ih (i + 1) h1 Q _ (T + 1) _ _ _ (by omega) s2 c1 rv1 (by omega) cs1 (fun h' g c' => H h' (FR_trans f1 g) c')
    · rw [if_neg y]
      rw [if_neg y] at H
      exact ih (i + 1) h1 Q _ (T + 1) _ _ _ (by omega) s2 c1 rv1 (by omega) cs1 (fun h' g c' => H h' (FR_trans f1 g) c')
theorem S113 {S : GS} {d n k v : Nat} {h : ajH} {Q : Option Value → ajH → Prop} (vd : GVd S) (hk : k < gz S) (hv : v < 10) (n20 : n ≤ 20) (hs : ajShp h) (c : CI S h)
    (H : ∀ h', FR h h' PTr → CI S h' → Q (some (.int (paF (gE S) n 0 (iAt S k v) 0))) h') : ajEv (d + 5) 113 0 [.ref 1, .int (nI k), .int (nI v), .int (nI n), ajU, ajU] [] h Q := by
  have z8 := vd.z8
  have hz : 0 < gz S := by omega
  refine W113_0 hs ?_
  refine S45 (LG := fun _ _ => 0) sQ_59 z8 vd.ru.2 hs c.2.1 ?_
  intro h1 f1 cx1 s1
  refine ⟨rfl, ?_⟩
  have f1' : FR h h1 PTr := FR_mono f1 (fun o j z => by unfold PCc at z; unfold PTr; omega)
  have c1 := CI_tr c f1' (fun o j z => z)
  refine S58 s1 c1.2.1 ?_
  intro s2
  refine ⟨_, rfl, ?_⟩
  rw [isp_y (by omega) hk, if_neg (by decide)]
  refine ⟨by rw [sr_in (by omega)]; omega, ?_⟩
  rintro _ rfl
  rw [sr_N (by omega)]
  have f2 : FR h1 (ajSI h1 60 k (nI v)) (fun o j => o = 60 ∧ j = k) := FR_SI h1 ⟨rfl, rfl⟩
  have s3 : ajShp (ajSI h1 60 k (nI v)) := s2
  have e60 : ajI (ajSI h1 60 k (nI v)) 60 k = nI v := by rw [ajI_SI, if_pos ⟨rfl, rfl⟩]
  generalize ajSI h1 60 k (nI v) = h2 at f2 s3 e60
  have f2' : FR h1 h2 PTr := FR_mono f2 (fun o j z => by unfold PTr; omega)
  have c2 := CI_tr c1 f2' (fun o j z => z)
  obtain ⟨⟨a0, a1, a2, a3, a4, a5, a6, a7⟩, av⟩ := cx1.1
  have cs2 : CS h2 59 (gz S) (iAt S k v) := by
    refine ⟨⟨?_, ?_, ?_, ?_, ?_, ?_, ?_, ?_⟩, fun i hi => ?_⟩
    · rw [FR_I f2 (by omega), a0]
      exact mk_congr _ (fun i hi => by show decide (rTold (gz S) (gRU S) (gFO S) (2 * i + 1) = 0) = decide (iAt S k v (2 * i + 1) = 0); rw [rTold_h (by omega), iAt_e (by omega), rTold_h (by omega)])
    · rw [FR_I f2 (by omega), a1]
      exact mk_congr _ (fun i hi => by show decide (rTold (gz S) (gRU S) (gFO S) (2 * i + 1) = 2) = decide (iAt S k v (2 * i + 1) = 2); rw [rTold_h (by omega), iAt_e (by omega), rTold_h (by omega)])
    · rw [FR_I f2 (by omega), a2]; rfl
    · rw [FR_I f2 (by omega), a3]; rfl
    · rw [FR_I f2 (by omega), a4]; rfl
    · rw [FR_I f2 (by omega), a5]; rfl
    · rw [FR_I f2 (by omega), a6]; rfl
    · rw [FR_I f2 (by omega), a7]; rfl
    · by_cases y : i = k
      · subst y; rw [iAt_k z8 hi]; exact e60
      · rw [FR_I f2 (by omega), iAt_e (by omega)]; exact av i hi
  exact S113_35 vd hz n20 n 0 h2 Q _ 1000 0 _ _ (by omega) s3 c2 (iAt_rv vd hz hv) (by omega) cs2 (fun h' g c' => H h' (FR_trans f1' (FR_trans f2' g)) c')
/-- the views that fit, one after the other -/
noncomputable def vwF (S : GS) (k : Nat) (i : Int32) : Nat → Nat → Nat → Int32
  | 0, _, n => if i = -1 then nI n else -1
  | f + 1, v, n => if fitB S (iAt S k v) = true then (if nI n = i then nI v else vwF S k i f (v + 1) (n + 1)) else vwF S k i f (v + 1) n
noncomputable def aViews (S : GS) (v1 v2 : Int32) : Int32 := if (isp (gz S) v1 && decide (-1 ≤ v2)) = true then vwF S v1.toNatClampNeg v2 10 0 0 else -1
theorem vw_n {S : GS} {v1 v2 : Int32} {h : ajH} {Q : Option Value → ajH → Prop} (H : Q (some (.int (aViews S v1 v2))) h) (e : (isp (gz S) v1 && decide (-1 ≤ v2)) = false) : Q (some (.int (-1))) h := by
  unfold aViews at H
  rw [e, if_neg (by decide)] at H
  exact H
theorem S112_20 {S : GS} {d k : Nat} {i : Int32} (vd : GVd S) (hk : k < gz S) : ∀ (f v n : Nat) (h : ajH) (Q : Option Value → ajH → Prop), v + f = 10 → ajShp h → CI S h →
    (∀ h', FR h h' PTr → CI S h' → Q (some (.int (vwF S k i f v n))) h') → ajEv (d + 6) 112 20 [.ref 1, .int (nI k), .int i, .int (nI n), .int (nI v)] [] h Q := by
  have z8 := vd.z8
  have mx := sgX_le (m := 20) (st := gst S) (gns S) (fun i hi => (vd.st i hi).2)
  intro f
  induction f with
  | zero =>
    intro v n h Q hv hs c H
    refine W112_20 hs ?_
    rw [if_pos (by rw [sl_9, sr_lt (by omega) (by omega)]; omega)]
    have H0 := H h (FR_refl _ _) c
    unfold vwF at H0
    by_cases y : i = -1
    · rw [if_neg (fun z => z y)]; rw [if_pos y] at H0; exact H0
    · rw [if_pos y]; rw [if_neg y] at H0; exact H0
  | succ f ih =>
    intro v n h Q hv hs c H
    refine W112_20 hs ?_
    rw [if_neg (by rw [sl_9, sr_lt (by omega) (by omega)]; omega), c.2.2.2.2.2.2.2.2.2]
    refine S113 vd hk (by omega) mx hs c ?_
    intro h1 f1 c1 s1
    refine ⟨_, rfl, ?_⟩
    refine S114 s1 c1.2.2.2.2.2.2 vd (fun i hi => sgX_ge (gns S) i hi) mx ?_
    intro s2
    refine ⟨_, rfl, ?_⟩
    have es : vwF S k i (f + 1) v n = if fitB S (iAt S k v) = true then (if nI n = i then nI v else vwF S k i f (v + 1) (n + 1)) else vwF S k i f (v + 1) n := rfl
    rw [es] at H
    cases e : fitB S (iAt S k v) with
    | false =>
      rw [if_pos (show flg false = 0 from rfl), nI_1]
      rw [e, if_neg (by decide)] at H
      exact ih (v + 1) n h1 Q (by omega) s2 c1 (fun h' g c' => H h' (FR_trans f1 g) c')
    | true =>
      rw [if_neg (by decide)]
      rw [if_pos e] at H
      by_cases y : nI n = i
      · rw [if_neg (fun z => z y)]
        rw [if_pos y] at H
        exact H h1 f1 c1
      · rw [if_pos y, nI_1, nI_1]
        rw [if_neg y] at H
        exact ih (v + 1) (n + 1) h1 Q (by omega) s2 c1 (fun h' g c' => H h' (FR_trans f1 g) c')
theorem S112 {S : GS} {d : Nat} {v1 v2 : Int32} {h : ajH} {Q : Option Value → ajH → Prop} (hs : ajShp h) (c : CI S h) (vd : GVd S)
    (H : ∀ h', FR h h' PTr → CI S h' → Q (some (.int (aViews S v1 v2))) h') : ajEv (d + 6) 112 0 [.ref 1, .int v1, .int v2, ajU, ajU] [] h Q := by
  have z8 := vd.z8
  have H0 := H h (FR_refl _ _) c
  refine W112_0 hs ?_
  refine S58 hs c.2.1 ?_
  intro s1
  refine ⟨_, rfl, ?_⟩
  cases e1 : isp (gz S) v1 with
  | false =>
    rw [if_pos (show flg false = 0 from rfl)]
    exact vw_n H0 (by rw [e1]; rfl)
  | true =>
    rw [if_neg (by decide)]
    obtain ⟨k, hk, rfl⟩ := isp_k z8 e1
    by_cases y : -1 ≤ v2
    · rw [if_pos y]
      unfold aViews at H
      rw [e1, decide_eq_true y, if_pos (show (true && true) = true from rfl), sr_N (by omega)] at H
      exact S112_20 vd hk 10 0 0 h Q (by omega) s1 c H
    · rw [if_neg y]
      exact vw_n H0 (by rw [decide_eq_false y, Bool.and_false])
