/-! The class confers, passes, notes. -/
def PCf (q o j : Nat) : Prop := o = q + 4 ∨ PLw o ∨ o = q + 1 ∨ o = q ∧ j = 15
/-- the views, down to place j -/
def vwN (E : EV) (R : Nat → Int32) (j0 k : Nat) : Int32 := if k < j0 then iNv E R k else R (2 * k)
theorem S73_179 {E : EV} {d q v : Nat} {R : Nat → Int32} (hq : sQ q) (hv : wQ v) : ∀ (f j : Nat) (h : ajH) (Q : Option Value → ajH → Prop) (u2 u3 u5 u6 u7 : Value), j + f = eN E → ajShp h → CE h v E → (∀ k, k < eN E → ajI h (q + 1) k = vwN E R j k) → (∀ i, i < eN E → ajI h (q + 4) i = iNv E R i) → ajI h q 15 = chF E R j →
    (∀ h', FR h h' (fun o j => o = q + 1 ∨ o = q ∧ j = 15) → (∀ k, k < eN E → ajI h' (q + 1) k = iNv E R k) → ajI h' q 15 = chF E R (eN E) → Q none h') → ajEv (d + 1) 73 179 [.ref q, .ref v, u2, u3, .int (nI j), u5, u6, u7] [] h Q := by
  intro f
  induction f with
  | zero =>
    intro j h Q u2 u3 u5 u6 u7 hj hs ce vw fr ch H
    have n8 := ce.2.2.1
    refine W73_179 hs hq.1 hv.1 ?_
    rw [ce.1, if_pos (by rw [sr_le (by omega) (by omega)]; omega)]
    have e : j = eN E := by omega
    subst e
    refine H h (FR_refl _ _) (fun k hk => ?_) ch
    rw [vw k hk]; unfold vwN; rw [if_pos hk]
  | succ f ih =>
    intro j h Q u2 u3 u5 u6 u7 hj hs ce vw fr ch H
    have n8 := ce.2.2.1
    have hq2 := hq.2
    have hv2 := hv.2
    have on : ∀ (u2 u3 u5 u6 u7 : Value) (x : Int32), (x = 0 ∨ x = 1) → x = chF E R (j + 1) → ajEv (d + 1) 73 225 [.ref q, .ref v, u2, u3, .int (nI j), u5, u6, u7] [.int x, .ref q] h Q := by
      intro u2 u3 u5 u6 u7 x hx ex
      refine W73_225 hs hq.1 hv.1 hq.1 ?_
      refine ⟨hx, ?_⟩
      rintro _ rfl
      rw [sr_in (by omega), sr_N (by omega), nI_1]
      refine ⟨by omega, by omega, ?_⟩
      rintro _ rfl
      have f1 : FR h (ajSI h q 15 x) (fun o j => o = q ∧ j = 15) := FR_SI h ⟨rfl, rfl⟩
      have e4 : ajI (ajSI h q 15 x) (q + 4) j = iNv E R j := (FR_I f1 (by omega)).trans (fr j (by omega))
      rw [e4]
      have f2 : FR h (ajSI (ajSI h q 15 x) (q + 1) j (iNv E R j)) (fun o j => o = q + 1 ∨ o = q ∧ j = 15) := FR_trans (FR_mono f1 (fun o j z => Or.inr z)) (FR_SI _ (Or.inl rfl))
      refine ih (j + 1) _ Q _ _ _ _ _ (by omega) hs (CE_FR ce f2 (by omega) (fun j => by omega)) (fun k hk => ?_) (fun i hi => (FR_I f2 (by omega)).trans (fr i hi)) ?_ (fun h' g vw' ch' => H h' (FR_trans f2 g) vw' ch')
      · rw [ajI_SI]
        unfold vwN
        by_cases y : k = j
        · rw [if_pos ⟨rfl, y⟩, if_pos (by omega), y]
        · rw [if_neg (by omega), FR_I f1 (by omega), vw k hk]
          unfold vwN
          by_cases z : k < j
          · rw [if_pos z, if_pos (by omega)]
          · rw [if_neg z, if_neg (by omega)]
      · rw [ajI_SI, if_neg (by omega), ajI_SI, if_pos ⟨rfl, rfl⟩]; exact ex
    refine W73_179 hs hq.1 hv.1 ?_
    have es : chF E R (j + 1) = if ¬ chF E R j = 0 then 1 else if iNv E R j = R (2 * j) then 0 else 1 := rfl
    have evj : vwN E R j j = R (2 * j) := by unfold vwN; rw [if_neg (by omega)]
    rw [ce.1, if_neg (by rw [sr_le (by omega) (by omega)]; omega), if_neg (by rw [sl_8, sr_le (by omega) (by omega)]; omega), ch, sr_in (by omega), sr_N (by omega), vw j (by omega), fr j (by omega), evj]
    by_cases e : chF E R j = 0
    · rw [if_neg (fun z => z e)]
      refine ⟨by omega, by omega, ?_⟩
      rw [if_neg (fun z => z e)] at es
      by_cases y : R (2 * j) = iNv E R j
      · rw [if_pos y.symm] at es
        rw [if_pos y]
        exact on _ _ _ _ _ 0 (Or.inl rfl) es.symm
      · rw [if_neg (fun z => y z.symm)] at es
        rw [if_neg y]
        exact on _ _ _ _ _ 1 (Or.inr rfl) es.symm
    · rw [if_pos e]
      rw [if_pos e] at es
      exact on _ _ _ _ _ 1 (Or.inr rfl) es.symm
theorem S73 {E : EV} {d q v v2 m T : Nat} {TB : Nat → Nat → Nat} {TL : Nat → Nat} {R : Nat → Int32} {h : ajH} {Q : Option Value → ajH → Prop} (hq : sQ q) (hv : wQ v) (rv : RV (eN E) T R) (hs : ajShp h) (ce : CE h v E) (cl : CLv h v2 m TB TL E) (cs : CS h q (eN E) R) (e15 : ajI h q 15 = 0)
    (H : ∀ h', FR h h' (PCf q) → (∀ k, k < eN E → ajI h' (q + 1) k = iNv E R k) → ajI h' q 15 = chF E R (eN E) → Q none h') : ajEv (d + 3) 73 0 [.ref q, .ref v, .ref v2, ajU, ajU, ajU, ajU, ajU] [] h Q := by
  have n8 := ce.2.2.1
  have hb2 := rv.1.2
  have hq2 := hq.2
  have hv2 := hv.2
  refine W73_0 hs hq.1 hv.1 ?_
  rw [cs.1.2.2.1, rv.1.1, sr_in (by omega), sr_N (by omega), cs.2 _ hb2]
  refine ⟨by omega, ?_⟩
  refine S73_13 hq hv rv (eN E) 0 h Q _ _ _ (by omega) hs ce cl cs (fun i hi => absurd hi (by omega)) ?_
  intro h1 u3 u5 u6 u7 s1 f1 fr1
  refine S73_179 (d := d + 2) hq hv (eN E) 0 h1 Q _ _ _ _ _ (by omega) s1 (CE_FR ce f1 (by unfold PLw; omega) (fun j => by unfold PLw; omega)) (fun k hk => ?_) fr1 ((FR_I f1 (by unfold PLw; omega)).trans e15) (fun h' f vw ch => H h' (FR_trans (FR_mono f1 (fun o j z => by unfold PCf; rcases z with z | z; exact Or.inl z; exact Or.inr (Or.inl z))) (FR_mono f (fun o j z => by unfold PCf; omega))) vw ch)
  rw [FR_I f1 (by unfold PLw; omega), cs.2 k hk]
  unfold vwN; rw [if_neg (by omega)]
theorem S79_4 {d q n : Nat} {R : Nat → Int32} (hq : sQ q) (n8 : n ≤ 8) : ∀ (f j : Nat) (h : ajH) (Q : Option Value → ajH → Prop), j + f = n → ajShp h → CS h q n R → Q (some (.int (fI R n))) h → ajEv (d + 1) 79 4 [.ref q, .int (nI n), .int (fI R j), .int (nI j)] [] h Q := by
  intro f
  induction f with
  | zero =>
    intro j h Q hj hs cs H
    refine W79_4 hs hq.1 ?_
    rw [if_pos (by rw [sr_le (by omega) (by omega)]; omega), show j = n by omega]
    exact H
  | succ f ih =>
    intro j h Q hj hs cs H
    refine W79_4 hs hq.1 ?_
    rw [if_neg (by rw [sr_le (by omega) (by omega)]; omega), if_neg (by rw [sl_8, sr_le (by omega) (by omega)]; omega), nI_1]
    refine S72c hq.1 hs cs n8 (by omega) ?_
    intro s1
    refine ⟨_, rfl, ?_⟩
    rw [sr_in (by omega), sr_N (by omega), cs.2 j (by omega)]
    have es : fI R (j + 1) = if onB R j = true ∧ ¬ R (2 * j) < 5 then fI R j + 1 else fI R j := rfl
    cases e : onB R j with
    | false =>
      rw [if_pos (show flg false = 0 from rfl)]
      rw [if_neg (fun z => by rw [e] at z; cases z.1)] at es
      rw [← es]
      exact ih (j + 1) h Q (by omega) hs cs H
    | true =>
      rw [if_neg (by decide)]
      refine ⟨by omega, ?_⟩
      by_cases e5 : R (2 * j) < 5
      · rw [if_pos e5]
        rw [if_neg (fun z => z.2 e5)] at es
        rw [← es]
        exact ih (j + 1) h Q (by omega) hs cs H
      · rw [if_neg e5]
        rw [if_pos ⟨e, e5⟩] at es
        rw [← es]
        exact ih (j + 1) h Q (by omega) hs cs H
theorem S79 {d q n : Nat} {R : Nat → Int32} {h : ajH} {Q : Option Value → ajH → Prop} (hq : sQ q) (n8 : n ≤ 8) (hs : ajShp h) (cs : CS h q n R) (H : Q (some (.int (fI R n))) h) : ajEv (d + 1) 79 0 [.ref q, .int (nI n), ajU, ajU] [] h Q := by
  refine W79_0 hs hq.1 ?_
  exact S79_4 hq n8 n 0 h Q (by omega) hs cs H
theorem S78 {d q n T : Nat} {R : Nat → Int32} {h : ajH} {Q : Option Value → ajH → Prop} (hq : sQ q) (n8 : n ≤ 8) (hs : ajShp h) (cs : CS h q n R) (rv : RV n T R) (H : Q (some (.int (dnF n R))) h) : ajEv (d + 2) 78 0 [.ref q, .int (nI n)] [] h Q := by
  have hb2 := rv.1.2
  have hq2 := hq.2
  refine W78_0 hs hq.1 ?_
  rw [cs.1.2.2.2.2.2.2.2, cs.1.2.2.1, rv.1.1]
  unfold dnF at H
  rcases rv.2.2.2.2.1 with e | e
  · rw [e, if_pos rfl]
    rw [if_neg (by rw [e]; decide)] at H
    refine S72c hq.1 hs cs n8 hb2 ?_
    intro s1
    refine ⟨_, rfl, ?_⟩
    rw [cs.1.2.2.1, rv.1.1, sr_in (by omega), sr_N (by omega), cs.2 _ hb2]
    cases eo : onB R (bN R) with
    | false =>
      rw [eo, if_neg (by decide)] at H
      rw [if_pos (show flg false = 0 from rfl)]
      exact H
    | true =>
      rw [eo, if_pos rfl] at H
      rw [if_neg (by decide)]
      refine ⟨by omega, ?_⟩
      by_cases y : R (2 * bN R) < 5
      · rw [if_pos y] at H; rw [if_pos y]; exact H
      · rw [if_neg y] at H; rw [if_neg y]; exact H
  · rw [e, if_neg (by decide)]
    rw [if_pos e] at H
    refine S79 hq n8 hs cs ?_
    intro s1
    refine ⟨_, rfl, ?_⟩
    refine S258 s1 ?_
    intro s2
    refine ⟨_, rfl, ?_⟩
    rw [cs.1.1]
    unfold onM at H
    by_cases y : (2 : Int32) * fI R n ≤ bcF (mk (onB R) n)
    · rw [if_pos y] at H; rw [if_pos y]; exact H
    · rw [if_neg y] at H; rw [if_neg y]; exact H
