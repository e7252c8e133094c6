/-! The reference's acts by hand. -/
theorem mX_up {h : ajH} {r j : Nat} {x : Int32} {X : XT} (c : mX h r 0 X) (hj : j < 22) : mX (ajSI h r j x) r 0 (upR X.1 j x, X.2) := by
  obtain ⟨rw, g⟩ := mX0 c
  exact mX_of (RW_SI rw (fun k hk => rfl)) (RLG_FR g (FR_SI h (P := fun o k => o = r ∧ k = j) ⟨rfl, rfl⟩) (fun k hk => by omega))
theorem S179 {S : GS} {d : Nat} {h : ajH} {Q : Option Value → ajH → Prop} {v : Int32} (hs : ajShp h) (c : r2 S h) (H : Q (some (.int (flg (isp (gz S) v)))) h) : ajEv d 179 0 [.ref 320, .int v] [] h Q := by
  refine W179_0 hs ?_
  rw [c.1]
  unfold isp at H
  by_cases y : v < 0
  · rw [if_pos y] at H; rw [if_pos y]; exact H
  · rw [if_neg y] at H; rw [if_neg y]
    by_cases y2 : nI (gz S) ≤ v
    · rw [if_pos y2] at H; rw [if_pos y2]; exact H
    · rw [if_neg y2] at H; rw [if_neg y2]; exact H
theorem S198 {n r d : Nat} {h : ajH} {Q : Option Value → ajH → Prop} {R : Nat → Int32} {v : Int32} (hr : rB r) (hs : ajShp h) (rw : RW h r R) (H : Q (some (.int (flg (caB n R 1 v)))) h) : ajEv d 198 0 [.ref r] [] h Q := by
  refine W198_0 hs (rB_i hr) ?_
  rw [rB_l hr, rw 21 (by omega), rw 20 (by omega)]
  unfold caB at H
  refine ⟨by decide, ?_⟩
  by_cases y : 999 ≤ R 21
  · rw [if_pos y]; simp [y] at H; exact H
  · rw [if_neg y]
    refine ⟨by decide, ?_⟩
    by_cases y2 : R 20 < 1
    · rw [if_pos y2]; simp [y, y2] at H; exact H
    · rw [if_neg y2]; simp [y, y2] at H; exact H
theorem S200 {S : GS} {r d : Nat} {h : ajH} {Q : Option Value → ajH → Prop} {R : Nat → Int32} {v : Int32} (hr : rB r) (hs : ajShp h) (z8 : gz S ≤ 8) (c : r2 S h) (rw : RW h r R) (H : Q (some (.int (flg (caB (gz S) R 2 v)))) h) : ajEv (d + 1) 200 0 [.ref 320, .ref r, .int v] [] h Q := by
  refine W200_0 hs (rB_i hr) ?_
  refine S179 hs c ?_
  intro s1
  refine ⟨_, rfl, ?_⟩
  unfold caB at H
  cases e : isp (gz S) v with
  | false => rw [if_pos (show flg false = 0 from rfl)]; rw [e] at H; exact H
  | true =>
    obtain ⟨k, hk, rfl⟩ := isp_k z8 e
    rw [if_neg (by decide), rB_l hr, sl_2, sr_mul, sl_1, sr_add, sr_in (by omega), sr_N (by omega), rw _ (by omega), rw 20 (by omega), ← sl_2]
    refine ⟨by omega, ?_⟩
    simp only [e, sr_N (show k < 2147483648 by omega)] at H
    unfold brB at H
    by_cases y : R (2 * k + 1) = 2
    · rw [if_pos y]; rw [decide_eq_true y] at H; exact H
    · rw [if_neg y]; rw [decide_eq_false y] at H
      refine ⟨by decide, ?_⟩
      by_cases y2 : R 20 < 2
      · rw [if_pos y2]; simp [y2] at H; exact H
      · rw [if_neg y2]; simp [y2] at H; exact H
theorem S203 {S : GS} {r d : Nat} {h : ajH} {Q : Option Value → ajH → Prop} {R : Nat → Int32} {v : Int32} (hr : rB r) (hs : ajShp h) (z8 : gz S ≤ 8) (c : r2 S h) (rw : RW h r R) (H : Q (some (.int (flg (caB (gz S) R 3 v)))) h) : ajEv (d + 1) 203 0 [.ref 320, .ref r, .int v] [] h Q := by
  refine W203_0 hs (rB_i hr) ?_
  refine S179 hs c ?_
  intro s1
  refine ⟨_, rfl, ?_⟩
  unfold caB at H
  cases e : isp (gz S) v with
  | false => rw [if_pos (show flg false = 0 from rfl)]; rw [e] at H; exact H
  | true =>
    obtain ⟨k, hk, rfl⟩ := isp_k z8 e
    rw [if_neg (by decide), rB_l hr, sl_2, sr_mul, sl_1, sr_add, sr_in (by omega), sr_N (by omega), rw _ (by omega), rw 20 (by omega), ← sl_2]
    refine ⟨by omega, ?_⟩
    simp only [e, sr_N (show k < 2147483648 by omega)] at H
    unfold brB at H
    by_cases y : R (2 * k + 1) = 2
    · rw [if_neg (fun z => z y)]; rw [decide_eq_true y] at H
      refine ⟨by decide, ?_⟩
      by_cases y2 : R 20 < 4
      · rw [if_pos y2]; simp [y2] at H; exact H
      · rw [if_neg y2]; simp [y2] at H; exact H
    · rw [if_pos y]; rw [decide_eq_false y] at H; exact H
theorem S201 {r d k : Nat} {h : ajH} {Q : Option Value → ajH → Prop} {X : XT} {E : EV} (hr : rB r) (hk : k < 8) (hs : ajShp h) (mx : mX h r 0 X)
    (H : ∀ h', FR h h' (fun o j => o = r ∧ j < 22) → mX h' r 0 (xTake E 2 (nI k) X) → Q none h') : ajEv d 201 0 [.ref r, .int (nI k)] [] h Q := by
  refine W201_0 hs (rB_w hr) ?_
  rw [rB_l hr]
  refine ⟨by decide, by decide, ?_⟩
  rintro _ rfl
  have rw := (mX0 mx).1
  rw [rw 20 (by omega)]
  have m1 := mX_up (x := X.1 20 - 2) mx (show 20 < 22 by omega)
  have f1 : FR h (ajSI h r 20 (X.1 20 - 2)) (fun o j => o = r ∧ j < 22) := FR_SI h ⟨rfl, by omega⟩
  generalize ajSI h r 20 (X.1 20 - 2) = h1 at m1 f1
  have rw1 := (mX0 m1).1
  rw [rB_l hr, sl_2, sr_mul, sl_1, sr_add, sr_in (by omega), sr_N (by omega)]
  refine ⟨by omega, by omega, ?_⟩
  rintro _ rfl
  rw [rw1 (2 * k + 1) (by omega), ← sl_1]
  have m2 := mX_up (x := 1 - upR X.1 20 (X.1 20 - 2) (2 * k + 1)) m1 (show 2 * k + 1 < 22 by omega)
  refine H _ (FR_trans f1 (FR_SI h1 ⟨rfl, by omega⟩)) ?_
  have e : xTake E 2 (nI k) X = (upR (upR X.1 20 (X.1 20 - 2)) (2 * k + 1) (1 - upR X.1 20 (X.1 20 - 2) (2 * k + 1)), X.2) := by
    show (upR (upR X.1 20 (X.1 20 - 2)) (2 * (nI k).toNatClampNeg + 1) (1 - X.1 (2 * (nI k).toNatClampNeg + 1)), X.2) = _
    rw [sr_N (by omega), upR_n X.1 _ (by omega : ¬ 2 * k + 1 = 20)]
  rw [e]
  exact m2
theorem S204 {r d k : Nat} {h : ajH} {Q : Option Value → ajH → Prop} {X : XT} {E : EV} (hr : rB r) (hk : k < 8) (hs : ajShp h) (mx : mX h r 0 X)
    (H : ∀ h', FR h h' (fun o j => o = r ∧ j < 22) → mX h' r 0 (xTake E 3 (nI k) X) → Q none h') : ajEv d 204 0 [.ref r, .int (nI k)] [] h Q := by
  refine W204_0 hs (rB_w hr) ?_
  rw [rB_l hr]
  refine ⟨by decide, by decide, ?_⟩
  rintro _ rfl
  have rw := (mX0 mx).1
  rw [rw 20 (by omega)]
  have m1 := mX_up (x := X.1 20 - 4) mx (show 20 < 22 by omega)
  have f1 : FR h (ajSI h r 20 (X.1 20 - 4)) (fun o j => o = r ∧ j < 22) := FR_SI h ⟨rfl, by omega⟩
  generalize ajSI h r 20 (X.1 20 - 4) = h1 at m1 f1
  rw [rB_l hr, sl_2, sr_mul, sl_1, sr_add, sr_in (by omega), sr_N (by omega)]
  refine ⟨by omega, ?_⟩
  rintro _ rfl
  have m2 := mX_up (x := 0) m1 (show 2 * k + 1 < 22 by omega)
  refine H _ (FR_trans f1 (FR_SI h1 ⟨rfl, by omega⟩)) ?_
  have e : xTake E 3 (nI k) X = (upR (upR X.1 20 (X.1 20 - 4)) (2 * k + 1) 0, X.2) := by
    show (upR (upR X.1 20 (X.1 20 - 4)) (2 * (nI k).toNatClampNeg + 1) 0, X.2) = _
    rw [sr_N (by omega)]
  rw [e]
  exact m2
def PMd (o j : Nat) : Prop := Pst 331 o j ∨ o = 331 ∨ PRm o j ∨ o = 320 ∧ j = 0
theorem MI_sX {S : GS} {h h' : ajH} {X : XT} {na : Nat} {AX : Nat → XT} {P : Nat → Nat → Prop} (c : MI S h) (f : FR h h' P) (p : ∀ o j, P o j → PMd o j) (mx : mX h' 331 0 X) (ra : rA na AX h') (m8 : MemoOK h' (gm S) (gTB S) (gTL S)) : MI (sX S X na AX) h' := by
  obtain ⟨k1, k2, k3, k4, k5, k6, k7, _⟩ := c
  have g : ∀ o j, P o j → ¬ d1 o j ∧ ¬ d2 o j ∧ ¬ d3 o j ∧ ¬ d6 o j ∧ ¬ d7 o j := fun o j z => by
    have y := p o j z
    unfold PMd Pst PY PRm at y
    unfold d1 d2 d3 d6 d7
    omega
  exact ⟨r1_FR k1 f (fun o j z => (g o j z).1), r2_FR k2 f (fun o j z => (g o j z).2.1), r3_FR k3 f (fun o j z => (g o j z).2.2.1), mx, ra, r6_FR k6 f (fun o j z => (g o j z).2.2.2.1), r7_FR k7 f (fun o j z => (g o j z).2.2.2.2), m8⟩
theorem rA_FR {h h' : ajH} {P : Nat → Nat → Prop} {na : Nat} {AX : Nat → XT} (c : rA na AX h) (f : FR h h' P) (p : ∀ o j, P o j → ¬ d5 o j) : rA na AX h' :=
  ⟨(FR_I f (fun z => p _ _ z (by unfold d5; omega))).trans c.1, c.2.1, fun i hi => mX_FR (c.2.2 i hi) f (fun j z => p _ _ z (by unfold d5; omega))⟩
/-- thrown goes -/
theorem MI_0 {S : GS} {h : ajH} {x : Int32} (c : MI S h) : MI S (ajSI h 320 0 x) :=
  MI_FR8 c (FR_SI h (P := fun o j => o = 320 ∧ j = 0) ⟨rfl, rfl⟩) (fun o j z => by unfold d1 d2 d3 d4 d5 d6 d7; omega)
