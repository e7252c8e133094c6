/-! The acts kept and undone, on both sides. -/
def pushN (na : Nat) : Nat := if na < 40 then na + 1 else 40
def pushX (na : Nat) (AX : Nat → XT) (X : XT) : Nat → XT := fun i => if na < 40 then (if i = na then X else AX i) else (if i = 39 then X else AX (i + 1))
def cA (n na : Nat) (AX : Nat → XT) (h : ajH) : Prop := ajI h 69 2 = nI na ∧ na ≤ 40 ∧ ∃ p, p < 40 ∧ ajI h 69 1 = nI p ∧ ∀ i, i < na → cX h (aSl p na i) n (AX i)
theorem c5_eq (S : GS) (h : ajH) : c5 S h = cA (gz S) (gna S) (gAX S) h := rfl
def PAc (o _j : Nat) : Prop := o = 69 ∨ 71 ≤ o ∧ o < 271
theorem S60 {d n na r : Nat} {h : ajH} {Q : Option Value → ajH → Prop} {AX : Nat → XT} {X : XT} (hr : sQ r) (hr2 : r + 5 ≤ 71) (n8 : n ≤ 8) (hs : ajShp h) (ca : cA n na AX h) (cx : cX h r n X) (h18 : X.1 18 = 0 ∨ X.1 18 = 1)
    (H : ∀ h', FR h h' PAc → cA n (pushN na) (pushX na AX X) h' → Q none h') : ajEv (d + 2) 60 0 [.ref 69, .ref r] [] h Q := by
  obtain ⟨e2, n4, p, hp, e1, ax⟩ := ca
  refine W60_0 hs hr.1 ?_
  have hgo : ∀ p', p' < 40 → p' = (p + 1) % 40 → ajEv (d + 2) 60 22 [.ref 69, .ref r] [.int (nI p'), .ref 69] h Q := by
    intro p' hp' ep
    refine W60_22 hs hr.1 ?_
    rintro _ rfl
    have f1 : FR h (ajSI h 69 1 (nI p')) (fun o j => o = 69 ∧ j = 1) := FR_SI h ⟨rfl, rfl⟩
    have e1' : ajI (ajSI h 69 1 (nI p')) 69 1 = nI p' := by rw [ajI_SI, if_pos ⟨rfl, rfl⟩]
    have s1 : ajShp (ajSI h 69 1 (nI p')) := hs
    generalize ajSI h 69 1 (nI p') = h1 at f1 e1' s1
    rw [e1', sr_in (by omega), sr_N (by omega)]
    refine ⟨hp', ?_⟩
    have hr4 := hr.2
    refine S61 (sQ_a p' hp') hr (by omega) n8 s1 (cX_FR cx f1 (fun o j z => by omega)) h18 ?_
    intro h2 f2 cx2 s2
    refine ⟨rfl, ?_⟩
    rintro _ rfl
    have e22 : ajI h2 69 2 = nI na := (FR_I f2 (by unfold PCc; omega)).trans ((FR_I f1 (by omega)).trans e2)
    rw [e22]
    have em : (if nI na + 1 < 40 then nI na + 1 else 40) = nI (pushN na) := by
      unfold pushN
      rw [nI_1, sl_40]
      by_cases y : na < 40
      · rw [if_pos y]
        by_cases y2 : na + 1 < 40
        · rw [if_pos (by rw [sr_lt (by omega) (by omega)]; exact y2)]
        · rw [if_neg (by rw [sr_lt (by omega) (by omega)]; exact y2), show na + 1 = 40 by omega]
      · rw [if_neg y, if_neg (by rw [sr_lt (by omega) (by omega)]; omega)]
    rw [em]
    have f3 : FR h2 (ajSI h2 69 2 (nI (pushN na))) (fun o j => o = 69 ∧ j = 2) := FR_SI h2 ⟨rfl, rfl⟩
    refine H _ (FR_trans (FR_trans (FR_mono f1 (fun o j z => by unfold PAc; omega)) (FR_mono f2 (fun o j z => by unfold PCc at z; unfold PAc; omega))) (FR_mono f3 (fun o j z => by unfold PAc; omega))) ⟨by rw [ajI_SI, if_pos ⟨rfl, rfl⟩], by unfold pushN; split <;> omega, p', hp', ?_, fun i hi => ?_⟩
    · rw [FR_I f3 (by omega), FR_I f2 (by unfold PCc; omega)]; exact e1'
    · have old : ∀ i', i' < na → ¬ aSl p na i' = 71 + 5 * p' → cX (ajSI h2 69 2 (nI (pushN na))) (aSl p na i') n (AX i') := fun i' hi' hne => by
        have l := Nat.mod_lt (p + 41 + i' - na) (show 0 < 40 by omega)
        refine cX_FR (cX_FR (cX_FR (ax i' hi') f1 (fun o j z => ?_)) f2 (fun o j z => ?_)) f3 (fun o j z => ?_)
        · unfold aSl; omega
        · unfold PCc at z; unfold aSl at hne ⊢; omega
        · unfold aSl; omega
      have new : cX (ajSI h2 69 2 (nI (pushN na))) (71 + 5 * p') n X := cX_FR cx2 f3 (fun o j z => by omega)
      unfold pushX
      unfold pushN at hi
      by_cases y : na < 40
      · rw [if_pos y] at hi
        rw [if_pos y]
        by_cases y2 : i = na
        · rw [if_pos y2]
          have e : aSl p' (pushN na) i = 71 + 5 * p' := by
            unfold aSl pushN; rw [if_pos y]; omega
          rw [e]; exact new
        · rw [if_neg y2]
          have e : aSl p' (pushN na) i = aSl p na i := by
            unfold aSl pushN; rw [if_pos y]; omega
          rw [e]
          exact old i (by omega) (by unfold aSl; omega)
      · rw [if_neg y] at hi
        rw [if_neg y]
        by_cases y2 : i = 39
        · rw [if_pos y2]
          have e : aSl p' (pushN na) i = 71 + 5 * p' := by
            unfold aSl pushN; rw [if_neg y]; omega
          rw [e]; exact new
        · rw [if_neg y2]
          have e : aSl p' (pushN na) i = aSl p na (i + 1) := by
            unfold aSl pushN; rw [if_neg y]; omega
          rw [e]
          exact old (i + 1) (by omega) (by unfold aSl; omega)
  rw [e1, nI_1]
  by_cases y : 40 ≤ p + 1
  · rw [if_pos (by rw [sl_40, sr_le (by omega) (by omega)]; exact y)]
    exact hgo 0 (by omega) (by omega)
  · rw [if_neg (by rw [sl_40, sr_le (by omega) (by omega)]; exact y)]
    exact hgo (p + 1) (by omega) (by omega)
theorem S93 {d n na r : Nat} {h : ajH} {Q : Option Value → ajH → Prop} {AX : Nat → XT} (hr : sQ r) (hr2 : r + 5 ≤ 71) (n8 : n ≤ 8) (hs : ajShp h) (ca : cA n na AX h) (h0 : 0 < na) (h18 : (AX (na - 1)).1 18 = 0 ∨ (AX (na - 1)).1 18 = 1)
    (H : ∀ h', FR h h' (fun o j => PCc r o j ∨ o = 69) → cX h' r n (AX (na - 1)) → cA n (na - 1) AX h' → Q none h') : ajEv (d + 2) 93 0 [.ref 69, .ref r] [] h Q := by
  obtain ⟨e2, n4, p, hp, e1, ax⟩ := ca
  have hr4 := hr.2
  refine W93_0 hs hr.1 ?_
  rw [e2, if_neg (by rw [sl_0, sr_le (by omega) (by omega)]; omega), e1, sr_in (by omega), sr_N (by omega)]
  refine ⟨hp, ?_⟩
  have cx := ax (na - 1) (by omega)
  have es : aSl p na (na - 1) = 71 + 5 * p := by unfold aSl; omega
  rw [es] at cx
  refine S61 hr (sQ_a p hp) (by omega) n8 hs cx h18 ?_
  intro h1 f1 cx1 s1
  refine ⟨rfl, ?_⟩
  have e11 : ajI h1 69 1 = nI p := (FR_I f1 (by unfold PCc; omega)).trans e1
  have e12 : ajI h1 69 2 = nI na := (FR_I f1 (by unfold PCc; omega)).trans e2
  have hgo : ∀ p', p' < 40 → p' = (p + 39) % 40 → ajEv (d + 2) 93 39 [.ref 69, .ref r] [.int (nI p'), .ref 69] h1 Q := by
    intro p' hp' ep
    refine W93_39 s1 ?_
    rintro _ rfl _ rfl
    have e12' : ajI (ajSI h1 69 1 (nI p')) 69 2 = nI na := by rw [ajI_SI, if_neg (by omega)]; exact e12
    rw [e12', sl_1, sr_sub (by omega)]
    have f2 : FR h1 (ajSI (ajSI h1 69 1 (nI p')) 69 2 (nI (na - 1))) (fun o _ => o = 69) := FR_trans (FR_SI h1 rfl) (FR_SI _ rfl)
    refine H _ (FR_trans (FR_mono f1 (fun o j z => Or.inl z)) (FR_mono f2 (fun o j z => Or.inr z))) (cX_FR cx1 f2 (fun o j z => by omega)) ⟨by rw [ajI_SI, if_pos ⟨rfl, rfl⟩], by omega, p', hp', ?_, fun i hi => ?_⟩
    · rw [ajI_SI, if_neg (by omega), ajI_SI, if_pos ⟨rfl, rfl⟩]
    · have e : aSl p' (na - 1) i = aSl p na i := by unfold aSl; omega
      have l := Nat.mod_lt (p + 41 + i - na) (show 0 < 40 by omega)
      rw [e]
      refine cX_FR (cX_FR (ax i (by omega)) f1 (fun o j z => ?_)) f2 (fun o j z => ?_)
      · unfold PCc at z; unfold aSl; omega
      · unfold aSl; omega
  rw [e11]
  by_cases y : p ≤ 0
  · rw [if_pos (by rw [sl_0, sr_le (by omega) (by omega)]; exact y)]
    exact hgo 39 (by omega) (by omega)
  · rw [if_neg (by rw [sl_0, sr_le (by omega) (by omega)]; exact y), sl_1, sr_sub (by omega)]
    exact hgo (p - 1) (by omega) (by omega)
