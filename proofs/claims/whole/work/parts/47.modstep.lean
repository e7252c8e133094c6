/-! The reference's step. -/
/-- those who are thus -/
def thM (n : Nat) (R : Nat → Int32) (x : Int32) : Int32 := mk (fun k => decide (R (2 * k + 1) = x)) n
theorem S181_5 {E : EV} {d r : Nat} {x : Int32} {R : Nat → Int32} (hr : rB r) : ∀ (f j : Nat) (h : ajH) (Q : Option Value → ajH → Prop), j + f = eN E → ajShp h → ME h E → RW h r R → Q (some (.int (thM (eN E) R x))) h → ajEv d 181 5 [.ref 320, .ref r, .int x, .int (thM j R x), .int (nI j)] [] h Q := by
  intro f
  induction f with
  | zero =>
    intro j h Q hj hs me rw H
    have n8 := me.2.2.1
    refine W181_5 hs (rB_i hr) ?_
    rw [me.1, if_pos (by rw [sr_le (by omega) (by omega)]; omega), show j = eN E by omega]
    exact H
  | succ f ih =>
    intro j h Q hj hs me rw H
    have n8 := me.2.2.1
    refine W181_5 hs (rB_i hr) ?_
    rw [me.1, if_neg (by rw [sr_le (by omega) (by omega)]; omega), rB_l hr, nI_1, sl_2, sr_mul, sl_1, sr_add, sr_in (by omega), sr_N (by omega), rw _ (by omega), ← sl_1, bt_def]
    refine ⟨by omega, ?_⟩
    by_cases e : R (2 * j + 1) = x
    · rw [if_neg (fun z => z e)]
      have e2 : thM (j + 1) R x = thM j R x ||| bt j := by
        show thM j R x ||| (if decide (R (2 * j + 1) = x) = true then bt j else 0) = _
        rw [if_pos (decide_eq_true e)]
      rw [← e2]
      exact ih (j + 1) h Q (by omega) hs me rw H
    · rw [if_pos e]
      have e2 : thM (j + 1) R x = thM j R x ||| 0 := by
        show thM j R x ||| (if decide (R (2 * j + 1) = x) = true then bt j else 0) = _
        rw [if_neg (by simp [e])]
      rw [← e2]
      exact ih (j + 1) h Q (by omega) hs me rw H
theorem S181 {E : EV} {d r : Nat} {x : Int32} {R : Nat → Int32} {h : ajH} {Q : Option Value → ajH → Prop} (hr : rB r) (hs : ajShp h) (me : ME h E) (rw : RW h r R) (H : Q (some (.int (thM (eN E) R x))) h) : ajEv d 181 0 [.ref 320, .ref r, .int x, ajU, ajU] [] h Q := by
  refine W181_0 hs (rB_i hr) ?_
  exact S181_5 hr (eN E) 0 h Q (by omega) hs me rw H
theorem S193 {d r k : Nat} {R : Nat → Int32} {h : ajH} {Q : Option Value → ajH → Prop} (hr : rB r) (hs : ajShp h) (rw : RW h r R) (hk : k < 8) (H : Q (some (.int (flg (onB R k)))) h) : ajEv d 193 0 [.ref r, .int (nI k)] [] h Q := by
  refine W193_0 hs (rB_i hr) ?_
  rw [rB_l hr, sl_2, sr_mul, sl_1, sr_add, sr_in (by omega), sr_N (by omega), rw _ (by omega), ← sl_1]
  refine ⟨by omega, ?_⟩
  unfold onB at H
  by_cases e : R (2 * k + 1) = 0
  · rw [if_neg (fun z => z e)]
    rw [decide_eq_true e] at H; exact H
  · rw [if_pos e]
    rw [decide_eq_false e] at H; exact H
theorem S196_4 {E : EV} {d r : Nat} {R : Nat → Int32} (hr : rB r) : ∀ (f j : Nat) (h : ajH) (Q : Option Value → ajH → Prop), j + f = eN E → ajShp h → ME h E → RW h r R → Q (some (.int (fI R (eN E)))) h → ajEv (d + 1) 196 4 [.ref 320, .ref r, .int (fI R j), .int (nI j)] [] h Q := by
  intro f
  induction f with
  | zero =>
    intro j h Q hj hs me rw H
    have n8 := me.2.2.1
    refine W196_4 hs (rB_i hr) ?_
    rw [me.1, if_pos (by rw [sr_le (by omega) (by omega)]; omega), show j = eN E by omega]
    exact H
  | succ f ih =>
    intro j h Q hj hs me rw H
    have n8 := me.2.2.1
    refine W196_4 hs (rB_i hr) ?_
    rw [me.1, if_neg (by rw [sr_le (by omega) (by omega)]; omega), nI_1]
    refine S193 hr hs rw (by omega) ?_
    intro s1
    refine ⟨_, rfl, ?_⟩
    rw [rB_l hr, sl_2, sr_mul, Int32.add_zero, Int32.add_zero, sr_in (by omega), sr_N (by omega), rw _ (by omega)]
    cases e : onB R j with
    | false =>
      rw [if_pos (show flg false = 0 from rfl)]
      have e2 : fI R (j + 1) = fI R j := by
        show (if onB R j = true ∧ ¬ R (2 * j) < 5 then fI R j + 1 else fI R j) = _
        rw [if_neg (fun z => by rw [e] at z; cases z.1)]
      rw [← e2]
      exact ih (j + 1) h Q (by omega) hs me rw H
    | true =>
      rw [if_neg (by decide)]
      refine ⟨by omega, ?_⟩
      by_cases e5 : R (2 * j) < 5
      · rw [if_pos e5]
        have e2 : fI R (j + 1) = fI R j := by
          show (if onB R j = true ∧ ¬ R (2 * j) < 5 then fI R j + 1 else fI R j) = _
          rw [if_neg (fun z => z.2 e5)]
        rw [← e2]
        exact ih (j + 1) h Q (by omega) hs me rw H
      · rw [if_neg e5]
        have e2 : fI R (j + 1) = fI R j + 1 := by
          show (if onB R j = true ∧ ¬ R (2 * j) < 5 then fI R j + 1 else fI R j) = _
          rw [if_pos ⟨e, e5⟩]
        rw [← e2]
        exact ih (j + 1) h Q (by omega) hs me rw H
theorem S196 {E : EV} {d r : Nat} {R : Nat → Int32} {h : ajH} {Q : Option Value → ajH → Prop} (hr : rB r) (hs : ajShp h) (me : ME h E) (rw : RW h r R) (H : Q (some (.int (fI R (eN E)))) h) : ajEv (d + 1) 196 0 [.ref 320, .ref r, ajU, ajU] [] h Q := by
  refine W196_0 hs (rB_i hr) ?_
  exact S196_4 hr (eN E) 0 h Q (by omega) hs me rw H
theorem S194 {E : EV} {d r k m T : Nat} {TB : Nat → Nat → Nat} {TL : Nat → Nat} {R : Nat → Int32} {h : ajH} {Q : Option Value → ajH → Prop} (hr : rB r) (hs : ajShp h) (me : ME h E) (eo : EVok E) (mv : MV h m TB TL E) (rw : RW h r R) (rv : RV (eN E) T R) (hT : T ≤ 2147483648) (hk : k < eN E)
    (H : ∀ h', FR h h' PY → MV h' m TB TL E → Q (some (.int (iV E R k))) h') : ajEv (d + 35) 194 0 [.ref 320, .ref r, .int (nI k), ajU, ajU, ajU, ajU] [] h Q := by
  have n8 := me.2.2.1
  obtain ⟨⟨hb1, hb2⟩, hv, ⟨hw1, hw2⟩, ⟨ht1, ht2⟩, _, _⟩ := rv
  obtain ⟨o, ho, eo1⟩ := eo k hk
  have ef := far_n (eN E) (by omega) k hk (bN R) hb2
  have H0 := H
  unfold iV at H
  refine W194_0 hs (rB_i hr) ?_
  rw [rB_l hr, rw 16 (by omega), rw 17 (by omega), rw 21 (by omega), hb1, sl_2, sr_mul, sr_mul, Int32.add_zero, Int32.add_zero, sr_in (by omega), sr_N (by omega), rw (2 * k) (by omega), sr_in (by omega), sr_N (by omega), rw (2 * bN R) (by omega), sl_16, sl_17, sl_21, sr_in (by omega), sr_in (by omega), sr_in (by omega), sl_3, sr_mul, sr_add, sr_in (by omega), sr_N (by omega), (me.2.2.2.2 k hk).2, me.1]
  refine ⟨by omega, by omega, by omega, by omega, ?_⟩
  rcases mv.2.2.2 with ⟨e30, ev⟩ | ⟨i, hi, e30, ev⟩
  · rw [e30, if_neg (fun z => z rfl)]
    simp only [ev, dfl] at H
    by_cases e1 : (if 0 ≤ (R (2 * k) - R (2 * bN R)) then (R (2 * k) - R (2 * bN R)) else 0 - (R (2 * k) - R (2 * bN R))) ≤ eO E k
    · rw [if_pos e1]
      simp only [if_pos e1] at H
      exact H h (FR_refl _ _) mv
    · rw [if_neg e1]
      simp only [if_neg e1] at H
      by_cases e2 : R (2 * bN R) ≤ R (2 * k)
      · rw [if_pos e2]
        simp only [if_pos e2] at H
        exact H h (FR_refl _ _) mv
      · rw [if_neg e2]
        simp only [if_neg e2] at H
        exact H h (FR_refl _ _) mv
  · rw [e30, if_pos (by rw [sr_neg1 (by have := mv.1.1; omega)]; exact fun z => z)]
    refine ⟨by omega, by omega, by omega, ?_⟩
    have e100 : R 21 - R 21 / 100 * 100 = nI (tN R % 100) := by
      rw [ht1, sl_100, sr_rem (by omega) (by omega) (by omega)]
    have ef2 : far (eN E) k (nI (bN R)) = nI (farN (eN E) k (bN R)) := ef.1
    rw [e100]
    unfold far at ef2
    rw [ef2, eo1, (hv k hk).1, (hv (bN R) hb2).1, hw1]
    refine S195 hs mv.2.2.1 mv.1 mv.2.1 hi e30 ⟨(hv k hk).2, (hv (bN R) hb2).2, ho, ef.2, hw2, Nat.mod_lt _ (by omega)⟩ ?_
    intro h1 f1 mm1 s1
    refine ⟨_, rfl, ?_⟩
    have e : iV E R k = lw TB TL i (nI (vN R k)) (nI (vN R (bN R))) (nI o) (nI (farN (eN E) k (bN R))) (nI (wN R)) (nI (tN R % 100)) := by
      unfold iV
      rw [ev, hb1, ef.1, eo1, (hv k hk).1, (hv (bN R) hb2).1, hw1, e100]
    rw [← e]
    exact H0 h1 f1 ⟨LawsM_FR mv.1 f1 (fun j => by unfold PY; omega), mm1, SC_FR mv.2.2.1 f1 (fun o j ho => by unfold PY; omega), by rw [FR_I f1 (by unfold PY; omega)]; exact mv.2.2.2⟩
