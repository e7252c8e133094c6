/-! The reference remembers, copies, lays, undoes. -/
def rA (na : Nat) (AX : Nat → XT) (h : ajH) : Prop := ajI h 320 39 = nI na ∧ na ≤ 40 ∧ ∀ i, i < na → mX h 337 (203 * i) (AX i)
theorem r5_eq (S : GS) (h : ajH) : r5 S h = rA (gna S) (gAX S) h := rfl
def PRm (o j : Nat) : Prop := o = 320 ∧ j = 39 ∨ o = 337
theorem S187_52 {d na : Nat} : ∀ (f v : Nat) (h : ajH) (Q : Option Value → ajH → Prop), v + f = 203 → na < 40 → ajShp h → ajI h 320 39 = nI na → (∀ k, k < v → ajI h 337 (203 * na + k) = ajI h 331 k) →
    (∀ h', FR h h' (fun o j => o = 320 ∧ j = 39 ∨ o = 337 ∧ 203 * na ≤ j) → ajI h' 320 39 = nI (na + 1) → (∀ k, k < 203 → ajI h' 337 (203 * na + k) = ajI h 331 k) → Q none h') → ajEv d 187 52 [.ref 320, .int (nI v)] [] h Q := by
  intro f
  induction f with
  | zero =>
    intro v h Q hv hn hs e39 cp H
    refine W187_52 hs ?_
    rw [if_pos (by rw [sl_203, sr_le (by omega) (by omega)]; omega), e39, nI_1]
    rintro _ rfl
    refine H _ (FR_SI h (by omega)) (by rw [ajI_SI, if_pos ⟨rfl, rfl⟩]) (fun k hk => ?_)
    rw [ajI_SI, if_neg (by omega)]; exact cp k (by omega)
  | succ f ih =>
    intro v h Q hv hn hs e39 cp H
    refine W187_52 hs ?_
    rw [if_neg (by rw [sl_203, sr_le (by omega) (by omega)]; omega), e39, sl_203, sr_mul, sr_add, sr_in (by omega), sr_in (by omega), sr_N (by omega), sr_N (by omega), nI_1]
    refine ⟨by omega, by omega, ?_⟩
    rintro _ rfl
    have f1 : FR h (ajSI h 337 (203 * na + v) (ajI h 331 v)) (fun o j => o = 320 ∧ j = 39 ∨ o = 337 ∧ 203 * na ≤ j) := FR_SI h (by omega)
    refine ih (v + 1) _ Q (by omega) hn hs (by rw [ajI_SI, if_neg (by omega)]; exact e39) (fun k hk => ?_) (fun h' f2 e2 c2 => H h' (FR_trans f1 f2) e2 (fun k hk => ?_))
    · rw [ajI_SI, ajI_SI, if_neg (show ¬ (331 = 337 ∧ k = 203 * na + v) by omega)]
      by_cases y : k = v
      · rw [if_pos (by omega), y]
      · rw [if_neg (by omega)]; exact cp k (by omega)
    · rw [c2 k hk]; exact FR_I f1 (by omega)
theorem S187_11 {d : Nat} {G : Nat → Int32} : ∀ (f v : Nat) (h : ajH) (Q : Option Value → ajH → Prop), v + f = 7917 → ajShp h → ajI h 320 39 = nI 40 → (∀ j, j < 8120 → ajI h 337 j = if j < v then G (j + 203) else G j) →
    (∀ h', ajShp h' → FR h h' PRm → ajI h' 320 39 = nI 39 → (∀ j, j < 7917 → ajI h' 337 j = G (j + 203)) → ajEv d 187 52 [.ref 320, .int 0] [] h' Q) → ajEv d 187 11 [.ref 320, .int (nI v)] [] h Q := by
  intro f
  induction f with
  | zero =>
    intro v h Q hv hs e39 cp H
    refine W187_11 hs ?_
    rw [if_pos (by rw [sl_7917, sr_le (by omega) (by omega)]; omega), e39, sl_1, sr_sub (by omega)]
    rintro _ rfl
    refine H _ hs (FR_SI h (by unfold PRm; omega)) (by rw [ajI_SI, if_pos ⟨rfl, rfl⟩]) (fun j hj => ?_)
    rw [ajI_SI, if_neg (by omega), cp j (by omega), if_pos (by omega)]
  | succ f ih =>
    intro v h Q hv hs e39 cp H
    refine W187_11 hs ?_
    rw [if_neg (by rw [sl_7917, sr_le (by omega) (by omega)]; omega), sl_203, sr_add, sr_in (by omega), sr_in (by omega), sr_N (by omega), sr_N (by omega), nI_1]
    refine ⟨by omega, by omega, ?_⟩
    rintro _ rfl
    have f1 : FR h (ajSI h 337 v (ajI h 337 (v + 203))) PRm := FR_SI h (by unfold PRm; omega)
    refine ih (v + 1) _ Q (by omega) hs (by rw [ajI_SI, if_neg (by omega)]; exact e39) (fun j hj => ?_) (fun h' sh f2 e2 c2 => H h' sh (FR_trans f1 f2) e2 c2)
    rw [ajI_SI]
    by_cases y : j = v
    · rw [if_pos ⟨rfl, y⟩, cp (v + 203) (by omega), if_neg (by omega), if_pos (by omega), y]
    · rw [if_neg (by omega), cp j hj]
      by_cases y2 : j < v
      · rw [if_pos y2, if_pos (by omega)]
      · rw [if_neg y2, if_neg (by omega)]
theorem S187 {d na : Nat} {h : ajH} {Q : Option Value → ajH → Prop} {AX : Nat → XT} {X : XT} (hs : ajShp h) (ra : rA na AX h) (mx : mX h 331 0 X)
    (H : ∀ h', FR h h' PRm → rA (pushN na) (pushX na AX X) h' → Q none h') : ajEv d 187 0 [.ref 320, ajU] [] h Q := by
  obtain ⟨e39, n4, ax⟩ := ra
  have fin : ∀ (h1 : ajH) (n1 : Nat) (A1 : Nat → XT), n1 < 40 → pushN na = n1 + 1 → (∀ i, i < n1 + 1 → pushX na AX X i = if i = n1 then X else A1 i) → ajShp h1 → FR h h1 PRm → ajI h1 320 39 = nI n1 → (∀ i, i < n1 → mX h1 337 (203 * i) (A1 i)) → ajEv d 187 52 [.ref 320, .int 0] [] h1 Q := by
    intro h1 n1 A1 hn1 ep ex s1 f1 e1 a1
    refine S187_52 203 0 h1 Q (by omega) hn1 s1 e1 (fun k hk => absurd hk (by omega)) ?_
    intro h2 f2 e2 cp
    refine H h2 (FR_trans f1 (FR_mono f2 (fun o j z => by unfold PRm; omega))) ⟨by rw [ep]; exact e2, by omega, fun i hi => ?_⟩
    rw [ep] at hi
    rw [ex i hi]
    by_cases y : i = n1
    · rw [if_pos y, y]
      have mx1 : mX h1 331 0 X := mX_FR mx f1 (fun j => by unfold PRm; omega)
      exact mX_cp mx1 (fun k hk => by rw [Nat.zero_add]; exact cp k hk)
    · rw [if_neg y]
      exact mX_cp (a1 i (by omega)) (fun k hk => FR_I f2 (by omega))
  refine W187_0 hs ?_
  rw [e39]
  by_cases y : na = 40
  · subst y
    rw [if_neg (by rw [sl_40]; exact fun z => z rfl)]
    refine S187_11 (G := fun j => ajI h 337 j) 7917 0 h Q (by omega) hs e39 (fun j hj => by rw [if_neg (by omega)]) ?_
    intro h1 s1 f1 e1 cp
    refine fin h1 39 (fun i => AX (i + 1)) (by omega) rfl (fun i hi => rfl) s1 f1 e1 (fun i hi => ?_)
    exact mX_cp (ax (i + 1) (by omega)) (fun k hk => by rw [cp _ (by omega), show 203 * i + k + 203 = 203 * (i + 1) + k by omega])
  · rw [if_pos (by rw [sl_40, sr_eq (by omega) (by omega)]; exact y)]
    refine fin h na AX (by omega) (by unfold pushN; rw [if_pos (by omega)]) (fun i hi => by unfold pushX; rw [if_pos (by omega)]) hs (FR_refl _ _) e39 ax
theorem S210_26 {d na : Nat} : ∀ (f v : Nat) (h : ajH) (Q : Option Value → ajH → Prop), v + f = 203 → na < 40 → ajShp h → ajI h 320 39 = nI na → (∀ k, k < v → ajI h 331 k = ajI h 337 (203 * na + k)) →
    (∀ h', FR h h' (fun o _ => o = 331) → (∀ k, k < 203 → ajI h' 331 k = ajI h 337 (203 * na + k)) → Q (some (.int (nI na))) h') → ajEv d 210 26 [.ref 320, .int (nI v)] [] h Q := by
  intro f
  induction f with
  | zero =>
    intro v h Q hv hn hs e39 cp H
    refine W210_26 hs ?_
    rw [if_pos (by rw [sl_203, sr_le (by omega) (by omega)]; omega), e39]
    exact H h (FR_refl _ _) (fun k hk => cp k (by omega))
  | succ f ih =>
    intro v h Q hv hn hs e39 cp H
    refine W210_26 hs ?_
    rw [if_neg (by rw [sl_203, sr_le (by omega) (by omega)]; omega), e39, sl_203, sr_mul, sr_add, sr_in (by omega), sr_in (by omega), sr_N (by omega), sr_N (by omega), nI_1]
    refine ⟨by omega, by omega, ?_⟩
    rintro _ rfl
    have f1 : FR h (ajSI h 331 v (ajI h 337 (203 * na + v))) (fun o _ => o = 331) := FR_SI h rfl
    refine ih (v + 1) _ Q (by omega) hn hs (by rw [ajI_SI, if_neg (by omega)]; exact e39) (fun k hk => ?_) (fun h' f2 c2 => H h' (FR_trans f1 f2) (fun k hk => ?_))
    · rw [ajI_SI, ajI_SI, if_neg (show ¬ (337 = 331 ∧ 203 * na + k = v) by omega)]
      by_cases y : k = v
      · rw [if_pos ⟨rfl, y⟩, y]
      · rw [if_neg (by omega)]; exact cp k (by omega)
    · rw [c2 k hk]; exact FR_I f1 (by omega)
/-- a row copied for a trial: the log goes -/
theorem S215_2 {d a b : Nat} (ha : rB a) (hb' : rB b) (hab : ¬ a = b) : ∀ (f v : Nat) (h : ajH) (Q : Option Value → ajH → Prop), v + f = 22 → ajShp h → (∀ k, k < v → ajI h b k = ajI h a k) →
    (∀ h', FR h h' (fun o j => o = b ∧ j < 23) → (∀ k, k < 22 → ajI h' b k = ajI h a k) → ajI h' b 22 = 0 → Q none h') → ajEv d 215 2 [.ref a, .ref b, .int (nI v)] [] h Q := by
  intro f
  induction f with
  | zero =>
    intro v h Q hv hs cp H
    refine W215_2 hs (rB_i ha) (rB_w hb') ?_
    rw [if_pos (by rw [sl_22, sr_le (by omega) (by omega)]; omega), rB_l hb']
    refine ⟨by decide, ?_⟩
    rintro _ rfl
    refine H _ (FR_SI h ⟨rfl, by omega⟩) (fun k hk => ?_) (by rw [ajI_SI, if_pos ⟨rfl, rfl⟩])
    rw [ajI_SI, if_neg (by omega)]; exact cp k (by omega)
  | succ f ih =>
    intro v h Q hv hs cp H
    refine W215_2 hs (rB_i ha) (rB_w hb') ?_
    rw [if_neg (by rw [sl_22, sr_le (by omega) (by omega)]; omega), rB_l ha, rB_l hb', sr_in (by omega), sr_N (by omega), nI_1]
    refine ⟨by omega, by omega, ?_⟩
    rintro _ rfl
    have f1 : FR h (ajSI h b v (ajI h a v)) (fun o j => o = b ∧ j < 23) := FR_SI h ⟨rfl, by omega⟩
    refine ih (v + 1) _ Q (by omega) hs (fun k hk => ?_) (fun h' f2 c2 e2 => H h' (FR_trans f1 f2) (fun k hk => ?_) e2)
    · rw [ajI_SI, ajI_SI, if_neg (show ¬ (a = b ∧ k = v) by omega)]
      by_cases y : k = v
      · rw [if_pos ⟨rfl, y⟩, y]
      · rw [if_neg (by omega)]; exact cp k (by omega)
    · rw [c2 k hk]; exact FR_I f1 (by omega)
theorem S215 {d a b : Nat} {h : ajH} {Q : Option Value → ajH → Prop} {R : Nat → Int32} {LG : Nat → Nat → Int32} (ha : rB a) (hb' : rB b) (hab : ¬ a = b) (hs : ajShp h) (rw : RW h a R)
    (H : ∀ h', FR h h' (fun o j => o = b ∧ j < 23) → mX h' b 0 (R, 0, LG) → Q none h') : ajEv d 215 0 [.ref a, .ref b, ajU] [] h Q := by
  refine W215_0 hs (rB_i ha) (rB_i hb') ?_
  refine S215_2 ha hb' hab 22 0 h Q (by omega) hs (fun k hk => absurd hk (by omega)) ?_
  intro h1 f1 c1 e1
  exact H h1 f1 (mX_of (fun k hk => (c1 k hk).trans (rw k hk)) ⟨e1, by unfold lgc; split <;> omega, fun i hi => absurd hi (by show ¬ i < 3 * 0; omega)⟩)
