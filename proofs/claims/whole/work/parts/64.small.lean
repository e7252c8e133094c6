/-! Vote, wet, give, undo, on both sides. -/
theorem CS_17 {h h' : ajH} {q n : Nat} {R : Nat → Int32} {x : Int32} (n8 : n ≤ 8) (c : CS h q n R) (f : FR h h' (fun o j => o = q ∧ j = 3)) (e4 : ajI h' q 3 = x) : CS h' q n (upR R 17 x) := by
  obtain ⟨⟨k0, k1, k2, k3, k4, k5, k6, k7⟩, k8⟩ := c
  have ge : ∀ k, ¬ 2 * k + 1 = 17 → upR R 17 x (2 * k + 1) = R (2 * k + 1) := fun k hk => upR_n _ _ hk
  refine ⟨⟨?_, ?_, ?_, ?_, ?_, ?_, ?_, ?_⟩, fun k hk => ?_⟩
  · rw [FR_I f (by omega)]; exact mk_cg k0 (fun k hk => by unfold onB; rw [ge k (by omega)])
  · rw [FR_I f (by omega)]; exact mk_cg k1 (fun k hk => by unfold brB; rw [ge k (by omega)])
  · rw [FR_I f (by omega), k2, upR_n _ _ (by omega)]
  · rw [e4, upR_s]
  · rw [FR_I f (by omega), k4, upR_n _ _ (by omega)]
  · rw [FR_I f (by omega), k5, upR_n _ _ (by omega)]
  · rw [FR_I f (by omega), k6, upR_n _ _ (by omega)]
  · rw [FR_I f (by omega), k7, upR_n _ _ (by omega)]
  · rw [FR_I f (by omega), k8 k hk, upR_n _ _ (by omega)]
theorem RV_17 {n T : Nat} {R : Nat → Int32} {x : Int32} (hx : ∃ w, w < 10 ∧ x = nI w) (c : RV n T R) (n8 : n ≤ 8) : RV n T (upR R 17 x) := by
  obtain ⟨⟨a1, a2⟩, hv, ⟨w1, w2⟩, ⟨t1, t2⟩, y18, yh⟩ := c
  have e : ∀ j, ¬ j = 17 → upR R 17 x j = R j := fun j hj => upR_n _ _ hj
  refine ⟨⟨?_, ?_⟩, fun k hk => ?_, ⟨?_, ?_⟩, ⟨?_, ?_⟩, ?_, fun k hk => ?_⟩
  · unfold bN; rw [e _ (by omega)]; exact a1
  · unfold bN; rw [e _ (by omega)]; exact a2
  · unfold vN; rw [e _ (by omega)]; exact hv k hk
  · unfold wN; rw [upR_s]; obtain ⟨w, hw, rfl⟩ := hx; rw [sr_N (by omega)]
  · unfold wN; rw [upR_s]; obtain ⟨w, hw, rfl⟩ := hx; rw [sr_N (by omega)]; exact hw
  · unfold tN; rw [e _ (by omega)]; exact t1
  · unfold tN; rw [e _ (by omega)]; exact t2
  · rw [e _ (by omega)]; exact y18
  · rw [e _ (by omega)]; exact yh k hk
theorem XV_17 {n : Nat} {X : XT} {x : Int32} (hx : ∃ w, w < 10 ∧ x = nI w) (c : XV n X) (n8 : n ≤ 8) : XV n (upR X.1 17 x, X.2) := by
  refine ⟨RV_17 hx c.1 n8, ?_, c.2.2⟩
  have e : tN (upR X.1 17 x) = tN X.1 := by unfold tN; rw [upR_n _ _ (by omega)]
  show X.2.1 ≤ tN (upR X.1 17 x)
  rw [e]; exact c.2.1
theorem CS_18 {h h' : ajH} {q n : Nat} {R : Nat → Int32} {x : Int32} (n8 : n ≤ 8) (c : CS h q n R) (f : FR h h' (fun o j => o = q ∧ j = 7)) (e4 : ajI h' q 7 = x) : CS h' q n (upR R 18 x) := by
  obtain ⟨⟨k0, k1, k2, k3, k4, k5, k6, k7⟩, k8⟩ := c
  have ge : ∀ k, ¬ 2 * k + 1 = 18 → upR R 18 x (2 * k + 1) = R (2 * k + 1) := fun k hk => upR_n _ _ hk
  refine ⟨⟨?_, ?_, ?_, ?_, ?_, ?_, ?_, ?_⟩, fun k hk => ?_⟩
  · rw [FR_I f (by omega)]; exact mk_cg k0 (fun k hk => by unfold onB; rw [ge k (by omega)])
  · rw [FR_I f (by omega)]; exact mk_cg k1 (fun k hk => by unfold brB; rw [ge k (by omega)])
  · rw [FR_I f (by omega), k2, upR_n _ _ (by omega)]
  · rw [FR_I f (by omega), k3, upR_n _ _ (by omega)]
  · rw [FR_I f (by omega), k4, upR_n _ _ (by omega)]
  · rw [FR_I f (by omega), k5, upR_n _ _ (by omega)]
  · rw [FR_I f (by omega), k6, upR_n _ _ (by omega)]
  · rw [e4, upR_s]
  · rw [FR_I f (by omega), k8 k hk, upR_n _ _ (by omega)]
theorem RV_18 {n T : Nat} {R : Nat → Int32} {x : Int32} (hx : x = 0 ∨ x = 1) (c : RV n T R) (n8 : n ≤ 8) : RV n T (upR R 18 x) := by
  obtain ⟨⟨a1, a2⟩, hv, ⟨w1, w2⟩, ⟨t1, t2⟩, y18, yh⟩ := c
  have e : ∀ j, ¬ j = 18 → upR R 18 x j = R j := fun j hj => upR_n _ _ hj
  refine ⟨⟨?_, ?_⟩, fun k hk => ?_, ⟨?_, ?_⟩, ⟨?_, ?_⟩, ?_, fun k hk => ?_⟩
  · unfold bN; rw [e _ (by omega)]; exact a1
  · unfold bN; rw [e _ (by omega)]; exact a2
  · unfold vN; rw [e _ (by omega)]; exact hv k hk
  · unfold wN; rw [e _ (by omega)]; exact w1
  · unfold wN; rw [e _ (by omega)]; exact w2
  · unfold tN; rw [e _ (by omega)]; exact t1
  · unfold tN; rw [e _ (by omega)]; exact t2
  · rw [upR_s]; exact hx
  · rw [e _ (by omega)]; exact yh k hk
theorem XV_18 {n : Nat} {X : XT} {x : Int32} (hx : x = 0 ∨ x = 1) (c : XV n X) (n8 : n ≤ 8) : XV n (upR X.1 18 x, X.2) := by
  refine ⟨RV_18 hx c.1 n8, ?_, c.2.2⟩
  have e : tN (upR X.1 18 x) = tN X.1 := by unfold tN; rw [upR_n _ _ (by omega)]
  show X.2.1 ≤ tN (upR X.1 18 x)
  rw [e]; exact c.2.1
/-- the class: the state kept, one number of it set -/
theorem kpC_17 {S : GS} {d : Nat} {x : Int32} {h : ajH} {Q : Option Value → ajH → Prop} (hs : ajShp h) (c : CI S h) (vd : GVd S) (hz : 0 < gz S)
    (H : ∀ h1, CI (gKeep S (gX S)) h1 → (∀ h', h' = ajSI h1 54 3 x → FR h h' PHd ∧ CI (gKeep S (upR (gX S).1 17 x, (gX S).2)) h') → Q none h1) : ajEv (d + 2) 60 0 [.ref 69, .ref 54] [] h Q := by
  have z8 := vd.z8
  have k5 : cA (gz S) (gna S) (gAX S) h := c.2.2.2.2.1
  refine S60 sQ_54 (by omega) z8 hs k5 c.2.2.2.1 (vd.xv hz).1.2.2.2.2.1 ?_
  intro h1 f1 ca1
  have cx1 : cX h1 54 (gz S) (gX S) := cX_FR c.2.2.2.1 f1 (fun o j z => by unfold PAc at z; omega)
  refine H h1 (CI_sX c f1 (fun o j z => Or.inl z) cx1 ca1) ?_
  rintro _ rfl
  have f2 : FR h1 (ajSI h1 54 3 x) (fun o j => o = 54 ∧ j = 3) := FR_SI h1 ⟨rfl, rfl⟩
  have f12 : FR h (ajSI h1 54 3 x) PHd := FR_trans (FR_mono f1 (fun o j z => Or.inl z)) (FR_mono f2 (fun o j z => Or.inr (by unfold PTk; omega)))
  refine ⟨f12, CI_sX c f12 (fun o j z => z) ⟨CS_17 z8 cx1.1 f2 (by rw [ajI_SI, if_pos ⟨rfl, rfl⟩]), (FR_I f2 (by omega)).trans cx1.2.1, fun e h1 h2 => (FR_I f2 (by omega)).trans (cx1.2.2 e h1 h2)⟩ (cA_FR ca1 f2 (fun o j z => by unfold b5; omega))⟩
/-- the class: the state kept, one number of it set -/
theorem kpC_18 {S : GS} {d : Nat} {x : Int32} {h : ajH} {Q : Option Value → ajH → Prop} (hs : ajShp h) (c : CI S h) (vd : GVd S) (hz : 0 < gz S)
    (H : ∀ h1, CI (gKeep S (gX S)) h1 → (∀ h', h' = ajSI h1 54 7 x → FR h h' PHd ∧ CI (gKeep S (upR (gX S).1 18 x, (gX S).2)) h') → Q none h1) : ajEv (d + 2) 60 0 [.ref 69, .ref 54] [] h Q := by
  have z8 := vd.z8
  have k5 : cA (gz S) (gna S) (gAX S) h := c.2.2.2.2.1
  refine S60 sQ_54 (by omega) z8 hs k5 c.2.2.2.1 (vd.xv hz).1.2.2.2.2.1 ?_
  intro h1 f1 ca1
  have cx1 : cX h1 54 (gz S) (gX S) := cX_FR c.2.2.2.1 f1 (fun o j z => by unfold PAc at z; omega)
  refine H h1 (CI_sX c f1 (fun o j z => Or.inl z) cx1 ca1) ?_
  rintro _ rfl
  have f2 : FR h1 (ajSI h1 54 7 x) (fun o j => o = 54 ∧ j = 7) := FR_SI h1 ⟨rfl, rfl⟩
  have f12 : FR h (ajSI h1 54 7 x) PHd := FR_trans (FR_mono f1 (fun o j z => Or.inl z)) (FR_mono f2 (fun o j z => Or.inr (by unfold PTk; omega)))
  refine ⟨f12, CI_sX c f12 (fun o j z => z) ⟨CS_18 z8 cx1.1 f2 (by rw [ajI_SI, if_pos ⟨rfl, rfl⟩]), (FR_I f2 (by omega)).trans cx1.2.1, fun e h1 h2 => (FR_I f2 (by omega)).trans (cx1.2.2 e h1 h2)⟩ (cA_FR ca1 f2 (fun o j z => by unfold b5; omega))⟩
/-- the class: the state kept, one number of it set -/
theorem kpC_20 {S : GS} {d : Nat} {x : Int32} {h : ajH} {Q : Option Value → ajH → Prop} (hs : ajShp h) (c : CI S h) (vd : GVd S) (hz : 0 < gz S)
    (H : ∀ h1, CI (gKeep S (gX S)) h1 → (∀ h', h' = ajSI h1 54 4 x → FR h h' PHd ∧ CI (gKeep S (upR (gX S).1 20 x, (gX S).2)) h') → Q none h1) : ajEv (d + 2) 60 0 [.ref 69, .ref 54] [] h Q := by
  have z8 := vd.z8
  have k5 : cA (gz S) (gna S) (gAX S) h := c.2.2.2.2.1
  refine S60 sQ_54 (by omega) z8 hs k5 c.2.2.2.1 (vd.xv hz).1.2.2.2.2.1 ?_
  intro h1 f1 ca1
  have cx1 : cX h1 54 (gz S) (gX S) := cX_FR c.2.2.2.1 f1 (fun o j z => by unfold PAc at z; omega)
  refine H h1 (CI_sX c f1 (fun o j z => Or.inl z) cx1 ca1) ?_
  rintro _ rfl
  have f2 : FR h1 (ajSI h1 54 4 x) (fun o j => o = 54 ∧ j = 4) := FR_SI h1 ⟨rfl, rfl⟩
  have f12 : FR h (ajSI h1 54 4 x) PHd := FR_trans (FR_mono f1 (fun o j z => Or.inl z)) (FR_mono f2 (fun o j z => Or.inr (by unfold PTk; omega)))
  refine ⟨f12, CI_sX c f12 (fun o j z => z) ⟨CS_20 z8 cx1.1 f2 (by rw [ajI_SI, if_pos ⟨rfl, rfl⟩]), (FR_I f2 (by omega)).trans cx1.2.1, fun e h1 h2 => (FR_I f2 (by omega)).trans (cx1.2.2 e h1 h2)⟩ (cA_FR ca1 f2 (fun o j z => by unfold b5; omega))⟩
/-- the reference: the same -/
theorem kpM {S : GS} {d i : Nat} {h0 h : ajH} {Q : Option Value → ajH → Prop} (hi : i < 22) (hs : ajShp h) (f0 : FR h0 h PMd) (c : MI S h)
    (H : ∀ h1, mX h1 331 0 (gX S) → (∀ x h', h' = ajSI h1 331 i x → FR h0 h' PMd ∧ MI (gKeep S (upR (gX S).1 i x, (gX S).2)) h' ∧ ajI h' 331 i = x) → Q none h1) : ajEv d 187 0 [.ref 320, ajU] [] h Q := by
  have ra : rA (gna S) (gAX S) h := c.2.2.2.2.1
  refine S187 hs ra c.2.2.2.1 ?_
  intro h1 f1 ra1
  have mx1 : mX h1 331 0 (gX S) := mX_FR c.2.2.2.1 f1 (fun j => by unfold PRm; omega)
  refine H h1 mx1 ?_
  rintro x _ rfl
  have f2 : FR h1 (ajSI h1 331 i x) (fun o _ => o = 331) := FR_SI h1 rfl
  have f12 : FR h (ajSI h1 331 i x) PMd := FR_trans (FR_mono f1 (fun o j z => by unfold PMd; exact Or.inr (Or.inr (Or.inl z)))) (FR_mono f2 (fun o j z => by unfold PMd; exact Or.inr (Or.inl z)))
  exact ⟨FR_trans f0 f12, MI_sX c f12 (fun o j z => z) (mX_up mx1 hi) (rA_FR ra1 f2 (fun o j z => by unfold d5; omega)) (MemoOK_FR (MemoOK_FR c.2.2.2.2.2.2.2 f1 (fun j => by unfold PRm; omega)) f2 (fun j => by omega)), by rw [ajI_SI, if_pos ⟨rfl, rfl⟩]⟩
theorem gK_X (S : GS) (X : XT) : gX (gKeep S X) = X := rfl
/-- vote -/
def vtOK (S : GS) (b : Bool) : Bool := decide (0 < gz S) && !decide ((gX S).1 18 = flg b)
def gVote (S : GS) (b : Bool) : GS := if vtOK S b = true then gKeep S (upR (gX S).1 18 (flg b), (gX S).2) else S
theorem GVd_vote {S : GS} {b : Bool} (vd : GVd S) : GVd (gVote S b) := by
  unfold gVote
  by_cases y : vtOK S b = true
  · rw [if_pos y]
    have hz : 0 < gz S := by
      unfold vtOK at y
      by_cases z : 0 < gz S
      · exact z
      · rw [decide_eq_false z] at y; cases y
    exact GVd_keep vd hz (XV_18 (flg_b b) (vd.xv hz) vd.z8)
  · rw [if_neg y]; exact vd
theorem S86 {S : GS} {d : Nat} {b : Bool} {h : ajH} {Q : Option Value → ajH → Prop} (hs : ajShp h) (c : CI S h) (vd : GVd S)
    (H : ∀ h', FR h h' PHd → CI (gVote S b) h' → Q (some (.int (flg (vtOK S b)))) h') : ajEv (d + 3) 86 0 [.ref 1, .int (flg b)] [] h Q := by
  have z8 := vd.z8
  refine W86_0 hs ?_
  refine S56 hs c.2.1 z8 ?_
  intro s1
  refine ⟨_, rfl, ?_⟩
  unfold gVote at H
  by_cases hz : 0 < gz S
  · rw [decide_eq_true hz, if_neg (by decide)]
    have e7 : ajI h 54 7 = (gX S).1 18 := c.2.2.2.1.1.1.2.2.2.2.2.2.2
    rw [e7]
    by_cases y : (gX S).1 18 = flg b
    · rw [if_neg (fun z => z y)]
      have e : vtOK S b = false := by unfold vtOK; rw [decide_eq_true y]; simp
      rw [e, if_neg (by decide)] at H
      exact H h (FR_refl _ _) c
    · rw [if_pos y]
      have e : vtOK S b = true := by unfold vtOK; rw [decide_eq_true hz, decide_eq_false y]; rfl
      rw [e, if_pos rfl] at H
      refine kpC_18 (x := flg b) s1 c vd hz ?_
      intro h1 c1 g s2
      refine ⟨rfl, ?_⟩
      refine ⟨flg_b b, ?_⟩
      intro h2 e2
      obtain ⟨f2, c2⟩ := g h2 e2
      exact H h2 f2 c2
  · rw [decide_eq_false hz, if_pos (show flg false = 0 from rfl)]
    have e : vtOK S b = false := by unfold vtOK; rw [decide_eq_false hz]; rfl
    rw [e, if_neg (by decide)] at H
    exact H h (FR_refl _ _) c
theorem S205 {S : GS} {d : Nat} {b : Bool} {h : ajH} {Q : Option Value → ajH → Prop} (hs : ajShp h) (c : MI S h) (vd : GVd S)
    (H : ∀ h', FR h h' PMd → MI (gVote S b) h' → Q (some (.int (flg (vtOK S b)))) h') : ajEv (d + 1) 205 0 [.ref 320, .int (flg b)] [] h Q := by
  have z8 := vd.z8
  refine W205_0 hs ?_
  rintro _ rfl
  have c0 := MI_0 (x := 0) c
  have f0 := FR_0 h 0
  have s0 : ajShp (ajSI h 320 0 0) := hs
  generalize ajSI h 320 0 0 = h0 at c0 f0 s0
  unfold gVote at H
  rw [c0.2.1.1]
  by_cases hz : 0 < gz S
  · rw [if_neg (nI_ne0 hz (by omega))]
    have rw := (mX0 c0.2.2.2.1).1
    have h18 := (vd.xv hz).1.2.2.2.2.1
    rw [rw 18 (by omega)]
    have go : ∀ s0 : Int32, s0 = (gX S).1 18 → ajEv (d + 1) 205 28 [.ref 320, .int (flg b)] [.int s0] h0 Q := by
      intro x ex
      refine W205_28 s0 ?_
      rw [ex]
      by_cases y : (gX S).1 18 = flg b
      · rw [if_neg (fun z => z y)]
        have e : vtOK S b = false := by unfold vtOK; rw [decide_eq_true y]; simp
        rw [e, if_neg (by decide)] at H
        exact H h0 f0 c0
      · rw [if_pos y]
        have e : vtOK S b = true := by unfold vtOK; rw [decide_eq_true hz, decide_eq_false y]; rfl
        rw [e, if_pos rfl] at H
        refine kpM (i := 18) (by omega) s0 f0 c0 ?_
        intro h1 mx1 g s9
        refine ⟨rfl, ?_⟩
        cases b with
        | false =>
          rw [if_pos (show flg false = 0 from rfl)]
          intro h2 e2
          obtain ⟨f2, c2, _⟩ := g 0 h2 e2
          exact H h2 f2 c2
        | true =>
          rw [if_neg (by decide)]
          intro h2 e2
          obtain ⟨f2, c2, _⟩ := g 1 h2 e2
          exact H h2 f2 c2
    rcases h18 with e | e
    · rw [if_pos (by rw [e]; decide)]; exact go 0 e.symm
    · rw [if_neg (by rw [e]; exact fun z => z rfl)]; exact go 1 e.symm
  · have e0 : gz S = 0 := by omega
    rw [if_pos (by rw [e0]; rfl)]
    have e : vtOK S b = false := by unfold vtOK; rw [decide_eq_false hz]; rfl
    rw [e, if_neg (by decide)] at H
    exact H h0 f0 c0
/-- wet -/
def wtOK (S : GS) (v : Int32) : Bool := decide (0 < gz S) && !decide (v < 0) && !decide (9 < v) && !decide (v = (gX S).1 17)
def gWet (S : GS) (v : Int32) : GS := if wtOK S v = true then gKeep S (upR (gX S).1 17 v, (gX S).2) else S
def aWet (S : GS) (v : Int32) : Int32 := if wtOK S v = true then (gX S).1 17 else -1
theorem wtOK_e {S : GS} {v : Int32} (c : wtOK S v = true) : 0 < gz S ∧ ∃ w, w < 10 ∧ v = nI w := by
  unfold wtOK at c
  simp only [Bool.and_eq_true, Bool.not_eq_true', decide_eq_true_eq, decide_eq_false_iff_not] at c
  obtain ⟨⟨⟨hz, h0⟩, h9⟩, _⟩ := c
  obtain ⟨j, hj, rfl⟩ := sr_of h0
  rw [sl_9, sr_lt (by omega) (by omega)] at h9
  exact ⟨hz, j, by omega, rfl⟩
theorem GVd_wet {S : GS} {v : Int32} (vd : GVd S) : GVd (gWet S v) := by
  unfold gWet
  by_cases y : wtOK S v = true
  · rw [if_pos y]
    obtain ⟨hz, hw⟩ := wtOK_e y
    exact GVd_keep vd hz (XV_17 hw (vd.xv hz) vd.z8)
  · rw [if_neg y]; exact vd
theorem wt_n {S : GS} {v : Int32} {h' h : ajH} {P : Nat → Nat → Prop} {CC : GS → ajH → Prop} {Q : Option Value → ajH → Prop} (e : wtOK S v = false) (H : ∀ h', FR h h' P → CC (gWet S v) h' → Q (some (.int (aWet S v))) h') (f : FR h h' P) (c : CC S h') : Q (some (.int (-1))) h' := by
  have H2 := H h' f
  unfold gWet aWet at H2
  rw [e, if_neg (by decide), if_neg (by decide)] at H2
  exact H2 c
theorem wt_y {S : GS} {v : Int32} {h' h : ajH} {P : Nat → Nat → Prop} {CC : GS → ajH → Prop} {Q : Option Value → ajH → Prop} (e : wtOK S v = true) (H : ∀ h', FR h h' P → CC (gWet S v) h' → Q (some (.int (aWet S v))) h') (f : FR h h' P) (c : CC (gKeep S (upR (gX S).1 17 v, (gX S).2)) h') : Q (some (.int ((gX S).1 17))) h' := by
  have H2 := H h' f
  unfold gWet aWet at H2
  rw [if_pos e, if_pos e] at H2
  exact H2 c
theorem S87 {S : GS} {d : Nat} {v : Int32} {h : ajH} {Q : Option Value → ajH → Prop} (hs : ajShp h) (c : CI S h) (vd : GVd S)
    (H : ∀ h', FR h h' PHd → CI (gWet S v) h' → Q (some (.int (aWet S v))) h') : ajEv (d + 3) 87 0 [.ref 1, .int v, ajU] [] h Q := by
  have z8 := vd.z8
  refine W87_0 hs ?_
  refine S56 hs c.2.1 z8 ?_
  intro s1
  refine ⟨_, rfl, ?_⟩
  by_cases hz : 0 < gz S
  · rw [decide_eq_true hz, if_neg (by decide)]
    have e3 : ajI h 54 3 = (gX S).1 17 := c.2.2.2.1.1.1.2.2.2.1
    rw [e3]
    by_cases y0 : v < 0
    · rw [if_pos y0]
      exact wt_n (by unfold wtOK; simp [y0]) H (FR_refl _ _) c
    · rw [if_neg y0]
      by_cases y9 : 9 < v
      · rw [if_pos y9]
        exact wt_n (by unfold wtOK; simp [y9]) H (FR_refl _ _) c
      · rw [if_neg y9]
        by_cases y : v = (gX S).1 17
        · rw [if_neg (fun z => z y)]
          exact wt_n (by unfold wtOK; simp [y]) H (FR_refl _ _) c
        · rw [if_pos y]
          refine kpC_17 (x := v) s1 c vd hz ?_
          intro h1 c1 g s2
          refine ⟨rfl, ?_⟩
          intro h2 e2
          obtain ⟨f2, c2⟩ := g h2 e2
          exact wt_y (by unfold wtOK; simp [hz, y0, y9, y]) H f2 c2
  · rw [decide_eq_false hz, if_pos (show flg false = 0 from rfl)]
    exact wt_n (by unfold wtOK; simp [hz]) H (FR_refl _ _) c
theorem S206 {S : GS} {d : Nat} {v : Int32} {h : ajH} {Q : Option Value → ajH → Prop} (hs : ajShp h) (c : MI S h) (vd : GVd S)
    (H : ∀ h', FR h h' PMd → MI (gWet S v) h' → Q (some (.int (aWet S v))) h') : ajEv (d + 1) 206 0 [.ref 320, .int v, ajU] [] h Q := by
  have z8 := vd.z8
  refine W206_0 hs ?_
  rintro _ rfl
  have c0 := MI_0 (x := 0) c
  have f0 := FR_0 h 0
  have s0 : ajShp (ajSI h 320 0 0) := hs
  generalize ajSI h 320 0 0 = h0 at c0 f0 s0
  rw [c0.2.1.1]
  by_cases hz : 0 < gz S
  · rw [if_neg (nI_ne0 hz (by omega))]
    have rw := (mX0 c0.2.2.2.1).1
    refine S145 (lo := 0) (hi := 9) s0 ?_
    intro s1
    refine ⟨_, rfl, ?_⟩
    rw [rw 17 (by omega)]
    by_cases y0 : v < 0
    · rw [if_pos y0, if_pos rfl]
      exact wt_n (by unfold wtOK; simp [y0]) H f0 c0
    · rw [if_neg y0]
      by_cases y9 : 9 < v
      · rw [if_pos y9, if_pos rfl]
        exact wt_n (by unfold wtOK; simp [y9]) H f0 c0
      · rw [if_neg y9, if_neg (by decide)]
        by_cases y : v = (gX S).1 17
        · rw [if_neg (fun z => z y)]
          exact wt_n (by unfold wtOK; simp [y]) H f0 c0
        · rw [if_pos y]
          refine kpM (i := 17) (by omega) s1 f0 c0 ?_
          intro h1 mx1 g s9
          refine ⟨rfl, ?_⟩
          rw [(mX0 mx1).1 17 (by omega)]
          intro h2 e2
          obtain ⟨f2, c2, _⟩ := g v h2 e2
          exact wt_y (by unfold wtOK; simp [hz, y0, y9, y]) H f2 c2
  · have e0 : gz S = 0 := by omega
    rw [if_pos (by rw [e0]; rfl)]
    exact wt_n (by unfold wtOK; simp [hz]) H f0 c0
/-- give -/
def gvOK (S : GS) (v : Int32) : Bool := decide (0 < gz S) && !decide (v < 1) && !decide (50 < v) && decide ((gX S).1 20 + v ≤ 999)
def gGive (S : GS) (v : Int32) : GS := if gvOK S v = true then gKeep S (upR (gX S).1 20 ((gX S).1 20 + v), (gX S).2) else S
def aGive (S : GS) (v : Int32) : Int32 := if gvOK S v = true then (gX S).1 20 + v else -1
theorem GVd_give {S : GS} {v : Int32} (vd : GVd S) : GVd (gGive S v) := by
  unfold gGive
  by_cases y : gvOK S v = true
  · rw [if_pos y]
    have hz : 0 < gz S := by
      unfold gvOK at y
      simp only [Bool.and_eq_true, decide_eq_true_eq] at y
      exact y.1.1.1
    exact GVd_keep vd hz (XV_20 _ (vd.xv hz) vd.z8)
  · rw [if_neg y]; exact vd
theorem gv_n {S : GS} {v : Int32} {h' h : ajH} {P : Nat → Nat → Prop} {CC : GS → ajH → Prop} {Q : Option Value → ajH → Prop} (e : gvOK S v = false) (H : ∀ h', FR h h' P → CC (gGive S v) h' → Q (some (.int (aGive S v))) h') (f : FR h h' P) (c : CC S h') : Q (some (.int (-1))) h' := by
  have H2 := H h' f
  unfold gGive aGive at H2
  rw [e, if_neg (by decide), if_neg (by decide)] at H2
  exact H2 c
theorem gv_y {S : GS} {v : Int32} {h' h : ajH} {P : Nat → Nat → Prop} {CC : GS → ajH → Prop} {Q : Option Value → ajH → Prop} (e : gvOK S v = true) (H : ∀ h', FR h h' P → CC (gGive S v) h' → Q (some (.int (aGive S v))) h') (f : FR h h' P) (c : CC (gKeep S (upR (gX S).1 20 ((gX S).1 20 + v), (gX S).2)) h') : Q (some (.int ((gX S).1 20 + v))) h' := by
  have H2 := H h' f
  unfold gGive aGive at H2
  rw [if_pos e, if_pos e] at H2
  exact H2 c
theorem S88 {S : GS} {d : Nat} {v : Int32} {h : ajH} {Q : Option Value → ajH → Prop} (hs : ajShp h) (c : CI S h) (vd : GVd S)
    (H : ∀ h', FR h h' PHd → CI (gGive S v) h' → Q (some (.int (aGive S v))) h') : ajEv (d + 3) 88 0 [.ref 1, .int v] [] h Q := by
  have z8 := vd.z8
  refine W88_0 hs ?_
  refine S56 hs c.2.1 z8 ?_
  intro s1
  refine ⟨_, rfl, ?_⟩
  by_cases hz : 0 < gz S
  · rw [decide_eq_true hz, if_neg (by decide)]
    have e4 : ajI h 54 4 = (gX S).1 20 := c.2.2.2.1.1.1.2.2.2.2.1
    rw [e4]
    by_cases y0 : v < 1
    · rw [if_pos y0]
      exact gv_n (by unfold gvOK; simp [y0]) H (FR_refl _ _) c
    · rw [if_neg y0]
      by_cases y9 : 50 < v
      · rw [if_pos y9]
        exact gv_n (by unfold gvOK; simp [y9]) H (FR_refl _ _) c
      · rw [if_neg y9]
        by_cases y : (gX S).1 20 + v ≤ 999
        · rw [if_pos y]
          refine kpC_20 (x := (gX S).1 20 + v) s1 c vd hz ?_
          intro h1 c1 g s2
          refine ⟨rfl, ?_⟩
          have e41 : ajI h1 54 4 = (gX S).1 20 := c1.2.2.2.1.1.1.2.2.2.2.1
          rw [e41]
          intro h2 e2
          obtain ⟨f2, c2⟩ := g h2 e2
          have e42 : ajI h2 54 4 = (gX S).1 20 + v := by rw [e2, ajI_SI, if_pos ⟨rfl, rfl⟩]
          rw [e42]
          exact gv_y (by unfold gvOK; simp [hz, y0, y9, y]) H f2 c2
        · rw [if_neg y]
          exact gv_n (by unfold gvOK; simp [y]) H (FR_refl _ _) c
  · rw [decide_eq_false hz, if_pos (show flg false = 0 from rfl)]
    exact gv_n (by unfold gvOK; simp [hz]) H (FR_refl _ _) c
theorem S207 {S : GS} {d : Nat} {v : Int32} {h : ajH} {Q : Option Value → ajH → Prop} (hs : ajShp h) (c : MI S h) (vd : GVd S)
    (H : ∀ h', FR h h' PMd → MI (gGive S v) h' → Q (some (.int (aGive S v))) h') : ajEv (d + 1) 207 0 [.ref 320, .int v] [] h Q := by
  have z8 := vd.z8
  refine W207_0 hs ?_
  rintro _ rfl
  have c0 := MI_0 (x := 0) c
  have f0 := FR_0 h 0
  have s0 : ajShp (ajSI h 320 0 0) := hs
  generalize ajSI h 320 0 0 = h0 at c0 f0 s0
  rw [c0.2.1.1]
  by_cases hz : 0 < gz S
  · rw [if_neg (nI_ne0 hz (by omega))]
    have rw := (mX0 c0.2.2.2.1).1
    refine S145 (lo := 1) (hi := 50) s0 ?_
    intro s1
    refine ⟨_, rfl, ?_⟩
    rw [rw 20 (by omega)]
    by_cases y0 : v < 1
    · rw [if_pos y0, if_pos rfl]
      exact gv_n (by unfold gvOK; simp [y0]) H f0 c0
    · rw [if_neg y0]
      by_cases y9 : 50 < v
      · rw [if_pos y9, if_pos rfl]
        exact gv_n (by unfold gvOK; simp [y9]) H f0 c0
      · rw [if_neg y9, if_neg (by decide)]
        by_cases y : (gX S).1 20 + v ≤ 999
        · rw [if_pos y]
          refine kpM (i := 20) (by omega) s1 f0 c0 ?_
          intro h1 mx1 g s9
          refine ⟨rfl, ?_⟩
          rw [(mX0 mx1).1 20 (by omega)]
          intro h2 e2
          obtain ⟨f2, c2, e42⟩ := g _ h2 e2
          rw [e42]
          exact gv_y (by unfold gvOK; simp [hz, y0, y9, y]) H f2 c2
        · rw [if_neg y]
          exact gv_n (by unfold gvOK; simp [y]) H f0 c0
  · have e0 : gz S = 0 := by omega
    rw [if_pos (by rw [e0]; rfl)]
    exact gv_n (by unfold gvOK; simp [hz]) H f0 c0
/-- undo -/
def gUndo (S : GS) : GS := if 0 < gna S then sX S (gAX S (gna S - 1)) (gna S - 1) (gAX S) else S
def aUndo (S : GS) : Int32 := if 0 < gna S then nI (gna S - 1) else -1
theorem GVd_undo {S : GS} (vd : GVd S) : GVd (gUndo S) := by
  unfold gUndo
  by_cases y : 0 < gna S
  · rw [if_pos y]
    have a4 := vd.a4
    exact GVd_sX vd (fun _ => vd.ax _ (by omega)) (Nat.pos_of_ne_zero (fun z => by have := (vd.az z).1; omega)) (by omega) (fun z => by have := (vd.az z).1; omega) (fun i hi => vd.ax i (by omega))
  · rw [if_neg y]; exact vd
theorem S92 {S : GS} {d : Nat} {h : ajH} {Q : Option Value → ajH → Prop} (hs : ajShp h) (c : CI S h) (vd : GVd S)
    (H : ∀ h', FR h h' PHd → CI (gUndo S) h' → Q (some (.int (aUndo S))) h') : ajEv (d + 3) 92 0 [.ref 1] [] h Q := by
  have z8 := vd.z8
  have a4 := vd.a4
  refine W92_0 hs ?_
  have k5 : cA (gz S) (gna S) (gAX S) h := c.2.2.2.2.1
  rw [k5.1]
  unfold gUndo aUndo at H
  by_cases y : 0 < gna S
  · rw [if_pos (by rw [sl_0, sr_lt (by omega) (by omega)]; exact y)]
    simp only [if_pos y] at H
    refine S93 sQ_54 (by omega) z8 hs k5 y (vd.ax _ (by omega)).1.2.2.2.2.1 ?_
    intro h1 f1 cx1 ca1 s1
    refine ⟨rfl, ?_⟩
    rw [ca1.1]
    have f1' : FR h h1 PHd := FR_mono f1 (fun o j z => by unfold PCc at z; unfold PHd PAc PTk PCp PLw; omega)
    exact H h1 f1' (CI_sX c f1' (fun o j z => z) cx1 ca1)
  · rw [if_neg (by rw [sl_0, sr_lt (by omega) (by omega)]; exact y)]
    simp only [if_neg y] at H
    exact H h (FR_refl _ _) c
theorem S210 {S : GS} {d : Nat} {h : ajH} {Q : Option Value → ajH → Prop} (hs : ajShp h) (c : MI S h) (vd : GVd S)
    (H : ∀ h', FR h h' PMd → MI (gUndo S) h' → Q (some (.int (aUndo S))) h') : ajEv d 210 0 [.ref 320, ajU] [] h Q := by
  have z8 := vd.z8
  have a4 := vd.a4
  refine W210_0 hs ?_
  rintro _ rfl
  have c0 := MI_0 (x := 0) c
  have f0 := FR_0 h 0
  have s0 : ajShp (ajSI h 320 0 0) := hs
  generalize ajSI h 320 0 0 = h0 at c0 f0 s0
  have ra : rA (gna S) (gAX S) h0 := c0.2.2.2.2.1
  rw [ra.1]
  unfold gUndo aUndo at H
  by_cases y : 0 < gna S
  · rw [if_pos (nI_ne0 y (by omega))]
    simp only [if_pos y] at H
    rintro _ rfl
    rw [sl_1, sr_sub (by omega)]
    have f1 : FR h0 (ajSI h0 320 39 (nI (gna S - 1))) (fun o j => o = 320 ∧ j = 39) := FR_SI h0 ⟨rfl, rfl⟩
    have e39 : ajI (ajSI h0 320 39 (nI (gna S - 1))) 320 39 = nI (gna S - 1) := by rw [ajI_SI, if_pos ⟨rfl, rfl⟩]
    have s1 : ajShp (ajSI h0 320 39 (nI (gna S - 1))) := s0
    generalize ajSI h0 320 39 (nI (gna S - 1)) = h1 at f1 e39 s1
    refine S210_26 203 0 h1 Q (by omega) (by omega) s1 e39 (fun k hk => absurd hk (by omega)) ?_
    intro h2 f2 cp
    have f12 : FR h0 h2 PMd := FR_trans (FR_mono f1 (fun o j z => by unfold PMd PRm; omega)) (FR_mono f2 (fun o j z => by unfold PMd; exact Or.inr (Or.inl z)))
    have mx : mX h2 331 0 (gAX S (gna S - 1)) := mX_cp (mX_FR (ra.2.2 (gna S - 1) (by omega)) f1 (fun j => by omega)) (fun k hk => by rw [Nat.zero_add]; exact cp k hk)
    refine H h2 (FR_trans f0 f12) (MI_sX c0 f12 (fun o j z => z) mx ⟨(FR_I f2 (by omega)).trans e39, by omega, fun i hi => mX_FR (mX_FR (ra.2.2 i (by omega)) f1 (fun j => by omega)) f2 (fun j => by omega)⟩ (MemoOK_FR (MemoOK_FR c0.2.2.2.2.2.2.2 f1 (fun j => by omega)) f2 (fun j => by omega)))
  · have e0 : gna S = 0 := by omega
    rw [if_neg (by rw [e0]; exact fun z => z rfl)]
    simp only [if_neg y] at H
    exact H h0 f0 c0
