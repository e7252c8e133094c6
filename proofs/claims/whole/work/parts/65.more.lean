/-! Law, slip, image, back, seen, on both sides. -/
def sH (S : GS) (v s : Int32) : GS := (S.1, S.2.1, (S.2.2.1.1, S.2.2.1.2.1, S.2.2.1.2.2.1, v, s), S.2.2.2.1, S.2.2.2.2)
def lwOK (S : GS) (v : Int32) : Bool := if v < -1 then false else if v < nI (gm S) then true else false
def gLaw (S : GS) (v : Int32) : GS := if lwOK S v = true then sH S v (gs S) else S
theorem lt_m1 {v : Int32} (h : ¬ v < -1) (n : ¬ v = -1) : ∃ j : Nat, j < 2147483648 ∧ v = nI j := by
  rcases sr_cs v with y | y
  · rw [Int32.lt_iff_toInt_lt] at h y
    exact absurd (Int32.toInt_inj.mp (show v.toInt = (-1 : Int32).toInt by
      have e : (-1 : Int32).toInt = -1 := rfl
      have e0 : (0 : Int32).toInt = 0 := rfl
      omega)) n
  · exact y
theorem lwOK_e {S : GS} {v : Int32} (m4 : gm S ≤ 4) (c : lwOK S v = true) : v = -1 ∨ ∃ i, i < gm S ∧ v = nI i := by
  unfold lwOK at c
  by_cases y : v < -1
  · rw [if_pos y] at c; cases c
  · rw [if_neg y] at c
    by_cases y2 : v < nI (gm S)
    · by_cases n : v = -1
      · exact Or.inl n
      · obtain ⟨j, hj, rfl⟩ := lt_m1 y n
        rw [sr_lt (by omega) (by omega)] at y2
        exact Or.inr ⟨j, y2, rfl⟩
    · rw [if_neg y2] at c; cases c
theorem GVd_law {S : GS} {v : Int32} (vd : GVd S) : GVd (gLaw S v) := by
  unfold gLaw
  by_cases y : lwOK S v = true
  · rw [if_pos y]
    exact ⟨vd.z8, vd.fo, vd.ru, vd.r0, vd.m4, lwOK_e vd.m4 y, vd.sl, vd.j4, vd.jn, vd.xv, vd.a4, vd.az, vd.ax, vd.ix, vd.ns, vd.st, vd.x0⟩
  · rw [if_neg y]; exact vd
theorem CI_sH {S : GS} {h h' : ajH} {v s : Int32} (c : CI S h) (f : FR h h' (fun o j => o = 1 ∧ (j = 6 ∨ j = 10))) (e6 : ajI h' 1 6 = v) (e10 : ajI h' 1 10 = s) : CI (sH S v s) h' := by
  obtain ⟨k1, k2, k3, k4, k5, k6, k7⟩ := c
  obtain ⟨⟨e1, _, _, e4, e5⟩, m4, j4, lc, cj⟩ := k3
  refine ⟨c1_FR k1 f (fun o j z => by unfold b1; omega), c2_FR k2 f (fun o j z => by unfold b2; omega), ⟨⟨(FR_I f (by omega)).trans e1, e6, e10, (FR_I f (by omega)).trans e4, (FR_I f (by omega)).trans e5⟩, m4, j4, LawsC_FR lc f (fun i hi => ⟨by omega, fun j => by omega⟩), fun i hi => CJ_FR' (cj i hi) f (by omega) (fun j => ⟨by omega, by omega⟩)⟩, c4_FR k4 f (fun o j z => by unfold b4; omega), c5_FR k5 f (fun o j z => by unfold b5; omega), c6_FR k6 f (fun o j z => by unfold b6; omega), c7_FR k7 f (fun o j z => by unfold b7; omega)⟩
theorem MI_sH {S : GS} {h h' : ajH} {v s : Int32} (c : MI S h) (f : FR h h' (fun o j => o = 320 ∧ (j = 30 ∨ j = 31))) (e6 : ajI h' 320 30 = v) (e10 : ajI h' 320 31 = s) : MI (sH S v s) h' := by
  obtain ⟨k1, k2, k3, k4, k5, k6, k7, k8⟩ := c
  obtain ⟨⟨e1, _, _, e4, e5⟩, j4, lc, cj⟩ := k3
  refine ⟨r1_FR k1 f (fun o j z => by unfold d1; omega), r2_FR k2 f (fun o j z => by unfold d2; omega), ⟨⟨(FR_I f (by omega)).trans e1, e6, e10, (FR_I f (by omega)).trans e4, (FR_I f (by omega)).trans e5⟩, j4, LawsM_FR lc f (fun j => ⟨by omega, by omega⟩), fun i hi => ⟨(FR_I f (by omega)).trans (cj i hi).1, (cj i hi).2.1, fun k hk => ⟨(FR_I f (by omega)).trans ((cj i hi).2.2 k hk).1, (FR_I f (by omega)).trans ((cj i hi).2.2 k hk).2⟩⟩⟩, r4_FR k4 f (fun o j z => by unfold d4; omega), r5_FR k5 f (fun o j z => by unfold d5; omega), r6_FR k6 f (fun o j z => by unfold d6; omega), r7_FR k7 f (fun o j z => by unfold d7; omega), r8_FR k8 f (fun o j z => by omega)⟩
theorem S52 {S : GS} {d : Nat} {v : Int32} {h : ajH} {Q : Option Value → ajH → Prop} (hs : ajShp h) (c : CI S h)
    (H : ∀ h', FR h h' (fun o j => o = 1) → CI (gLaw S v) h' → Q (some (.int (flg (lwOK S v)))) h') : ajEv d 52 0 [.ref 1, .int v] [] h Q := by
  refine W52_0 hs ?_
  rw [c.2.2.1.1.1]
  unfold gLaw lwOK at H
  by_cases y : v < -1
  · rw [if_pos y]
    simp only [if_pos y] at H
    exact H h (FR_refl _ _) c
  · rw [if_neg y]
    simp only [if_neg y] at H
    by_cases y2 : v < nI (gm S)
    · rw [if_pos y2]
      simp only [if_pos y2] at H
      rintro _ rfl
      have f1 : FR h (ajSI h 1 6 v) (fun o j => o = 1 ∧ (j = 6 ∨ j = 10)) := FR_SI h ⟨rfl, by omega⟩
      exact H _ (FR_mono f1 (fun o j z => z.1)) (CI_sH c f1 (by rw [ajI_SI, if_pos ⟨rfl, rfl⟩]) (by rw [ajI_SI, if_neg (by omega)]; exact c.2.2.1.1.2.2.1))
    · rw [if_neg y2]
      simp only [if_neg y2] at H
      exact H h (FR_refl _ _) c
theorem S184 {S : GS} {d : Nat} {v : Int32} {h : ajH} {Q : Option Value → ajH → Prop} (hs : ajShp h) (c : MI S h) (vd : GVd S)
    (H : ∀ h', FR h h' (fun o j => o = 320) → MI (gLaw S v) h' → Q (some (.int (flg (lwOK S v)))) h') : ajEv (d + 1) 184 0 [.ref 320, .int v] [] h Q := by
  have m4 := vd.m4
  refine W184_0 hs ?_
  rintro _ rfl
  have c0 := MI_0 (x := 0) c
  have f0 : FR h (ajSI h 320 0 0) (fun o j => o = 320) := FR_SI h rfl
  have s0 : ajShp (ajSI h 320 0 0) := hs
  generalize ajSI h 320 0 0 = h0 at c0 f0 s0
  have yes : lwOK S v = true → ∀ h2, h2 = ajSI h0 320 30 v → Q (some (.int 1)) h2 := by
    rintro e _ rfl
    have f1 : FR h0 (ajSI h0 320 30 v) (fun o j => o = 320 ∧ (j = 30 ∨ j = 31)) := FR_SI h0 ⟨rfl, by omega⟩
    have H2 := H _ (FR_trans f0 (FR_mono f1 (fun o j z => z.1)))
    unfold gLaw at H2
    rw [if_pos e, e] at H2
    exact H2 (MI_sH c0 f1 (by rw [ajI_SI, if_pos ⟨rfl, rfl⟩]) (by rw [ajI_SI, if_neg (by omega)]; exact c0.2.2.1.1.2.2.1))
  have no : lwOK S v = false → Q (some (.int 0)) h0 := by
    intro e
    have H2 := H _ f0
    unfold gLaw at H2
    rw [e, if_neg (by decide)] at H2
    exact H2 c0
  have nm : (-1 : Int32) < nI (gm S) := by
    rcases (show gm S = 0 ∨ gm S = 1 ∨ gm S = 2 ∨ gm S = 3 ∨ gm S = 4 by omega) with z | z | z | z | z <;> rw [z] <;> decide
  by_cases e1 : v = -1
  · rw [if_pos e1]
    exact yes (by unfold lwOK; rw [e1, if_neg (by decide), if_pos nm])
  · rw [if_neg e1]
    refine S145 (lo := 0) s0 ?_
    intro s1
    refine ⟨_, rfl, ?_⟩
    rw [c0.2.2.1.1.1]
    by_cases y0 : v < 0
    · rw [if_pos y0, if_neg (fun z => z rfl)]
      refine no ?_
      unfold lwOK
      have : v < -1 := by
        rw [Int32.lt_iff_toInt_lt] at y0 ⊢
        have ne : ¬ v.toInt = (-1 : Int32).toInt := fun z => e1 (Int32.toInt_inj.mp z)
        have e : (-1 : Int32).toInt = -1 := rfl
        have e0 : (0 : Int32).toInt = 0 := rfl
        omega
      rw [if_pos this]
    · rw [if_neg y0]
      obtain ⟨j, hj, rfl⟩ := sr_of y0
      have eo : lwOK S (nI j) = decide (j < gm S) := by
        unfold lwOK
        rw [if_neg (by rw [sr_ltn1 hj]; exact fun z => z)]
        by_cases y2 : j < gm S
        · rw [if_pos (by rw [sr_lt (by omega) (by omega)]; exact y2), decide_eq_true y2]
        · rw [if_neg (by rw [sr_lt (by omega) (by omega)]; exact y2), decide_eq_false y2]
      by_cases hm : 0 < gm S
      · have em : nI (gm S) - 1 = nI (gm S - 1) := by rw [sl_1, sr_sub (by omega)]
        by_cases y2 : gm S - 1 < j
        · have el : nI (gm S) - 1 < nI j := by rw [em, sr_lt (by omega) (by omega)]; exact y2
          rw [if_pos el, if_neg (fun z => z rfl)]
          exact no (by rw [eo]; exact decide_eq_false (by omega))
        · have el : ¬ nI (gm S) - 1 < nI j := by rw [em, sr_lt (by omega) (by omega)]; exact y2
          rw [if_neg el, if_pos (by decide)]
          exact yes (by rw [eo]; exact decide_eq_true (by omega))
      · have e0 : gm S = 0 := by omega
        have e2 : nI (gm S) - 1 = -1 := by rw [e0]; rfl
        have el : nI (gm S) - 1 < nI j := by
          rw [e2, Int32.lt_iff_toInt_lt, sr_toInt hj]
          have e : (-1 : Int32).toInt = -1 := rfl
          omega
        rw [if_pos el, if_neg (fun z => z rfl)]
        exact no (by rw [eo]; exact decide_eq_false (by omega))
/-- slip -/
def spOK (S : GS) (v : Int32) : Bool := if v < 0 then false else if 9 < v then false else !decide (v = gs S)
def gSlip (S : GS) (v : Int32) : GS := if spOK S v = true then sH S (gh S) v else S
theorem GVd_slip {S : GS} {v : Int32} (vd : GVd S) : GVd (gSlip S v) := by
  unfold gSlip
  by_cases y : spOK S v = true
  · rw [if_pos y]
    have hv : ∃ s, s < 10 ∧ v = nI s := by
      unfold spOK at y
      by_cases y0 : v < 0
      · rw [if_pos y0] at y; cases y
      · rw [if_neg y0] at y
        obtain ⟨j, hj, rfl⟩ := sr_of y0
        by_cases y9 : (9 : Int32) < nI j
        · rw [if_pos y9] at y; cases y
        · rw [sl_9, sr_lt (by omega) (by omega)] at y9
          exact ⟨j, by omega, rfl⟩
    exact ⟨vd.z8, vd.fo, vd.ru, vd.r0, vd.m4, vd.hl, hv, vd.j4, vd.jn, vd.xv, vd.a4, vd.az, vd.ax, vd.ix, vd.ns, vd.st, vd.x0⟩
  · rw [if_neg y]; exact vd
theorem S53 {S : GS} {d : Nat} {v : Int32} {h : ajH} {Q : Option Value → ajH → Prop} (hs : ajShp h) (c : CI S h)
    (H : ∀ h', FR h h' (fun o j => o = 1) → CI (gSlip S v) h' → Q (some (.int (flg (spOK S v)))) h') : ajEv d 53 0 [.ref 1, .int v] [] h Q := by
  refine W53_0 hs ?_
  rw [c.2.2.1.1.2.2.1]
  unfold gSlip spOK at H
  by_cases y : v < 0
  · rw [if_pos y]
    simp only [if_pos y] at H
    exact H h (FR_refl _ _) c
  · rw [if_neg y]
    simp only [if_neg y] at H
    by_cases y2 : 9 < v
    · rw [if_pos y2]
      simp only [if_pos y2] at H
      exact H h (FR_refl _ _) c
    · rw [if_neg y2]
      simp only [if_neg y2] at H
      by_cases y3 : v = gs S
      · rw [if_neg (fun z => z y3)]
        rw [decide_eq_true y3] at H
        exact H h (FR_refl _ _) c
      · rw [if_pos y3]
        rw [decide_eq_false y3] at H
        rintro _ rfl
        have f1 : FR h (ajSI h 1 10 v) (fun o j => o = 1 ∧ (j = 6 ∨ j = 10)) := FR_SI h ⟨rfl, by omega⟩
        exact H _ (FR_mono f1 (fun o j z => z.1)) (CI_sH c f1 (by rw [ajI_SI, if_neg (by omega)]; exact c.2.2.1.1.2.1) (by rw [ajI_SI, if_pos ⟨rfl, rfl⟩]))
theorem S185 {S : GS} {d : Nat} {v : Int32} {h : ajH} {Q : Option Value → ajH → Prop} (hs : ajShp h) (c : MI S h)
    (H : ∀ h', FR h h' (fun o j => o = 320) → MI (gSlip S v) h' → Q (some (.int (flg (spOK S v)))) h') : ajEv (d + 1) 185 0 [.ref 320, .int v] [] h Q := by
  refine W185_0 hs ?_
  rintro _ rfl
  have c0 := MI_0 (x := 0) c
  have f0 : FR h (ajSI h 320 0 0) (fun o j => o = 320) := FR_SI h rfl
  have s0 : ajShp (ajSI h 320 0 0) := hs
  generalize ajSI h 320 0 0 = h0 at c0 f0 s0
  refine S145 (lo := 0) (hi := 9) s0 ?_
  intro s1
  refine ⟨_, rfl, ?_⟩
  rw [c0.2.2.1.1.2.2.1]
  unfold gSlip spOK at H
  by_cases y : v < 0
  · rw [if_pos y, if_pos rfl]
    simp only [if_pos y] at H
    exact H h0 f0 c0
  · rw [if_neg y]
    simp only [if_neg y] at H
    by_cases y2 : 9 < v
    · rw [if_pos y2, if_pos rfl]
      simp only [if_pos y2] at H
      exact H h0 f0 c0
    · rw [if_neg y2, if_neg (by decide)]
      simp only [if_neg y2] at H
      by_cases y3 : v = gs S
      · rw [if_neg (fun z => z y3)]
        rw [decide_eq_true y3] at H
        exact H h0 f0 c0
      · rw [if_pos y3]
        rw [decide_eq_false y3] at H
        rintro _ rfl
        have f1 : FR h0 (ajSI h0 320 31 v) (fun o j => o = 320 ∧ (j = 30 ∨ j = 31)) := FR_SI h0 ⟨rfl, by omega⟩
        exact H _ (FR_trans f0 (FR_mono f1 (fun o j z => z.1))) (MI_sH c0 f1 (by rw [ajI_SI, if_neg (by omega)]; exact c0.2.2.1.1.2.1) (by rw [ajI_SI, if_pos ⟨rfl, rfl⟩]))
