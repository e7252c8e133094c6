/-! The class reads a law: what each of its methods leaves. -/
def ajStr (q : Nat) : List Nat := match q with
  | 1010 => [118, 100, 111, 104, 119, 116]
  | 1011 => [108, 119, 99, 97]
  | 1012 => [115, 118, 111]
  | 1013 => [116, 104, 103, 109]
  | 1015 => [121]
  | _ => []
def sTx (q : Nat) : Prop := q = 1010 ∨ q = 1011 ∨ q = 1012 ∨ q = 1013 ∨ q = 1015
/-- the texts of the program are what they are -/
def SC (h : ajH) : Prop := ∀ q, sTx q → ajI h q 0 = 0 ∧ ∀ i, i < (ajStr q).length → ajI h (q + 20) i = nI ((ajStr q).getD i 0)
theorem SC_FR {h h' : ajH} {P : Nat → Nat → Prop} (s : SC h) (f : FR h h' P) (p : ∀ o j, 1000 ≤ o → ¬ P o j) : SC h' := by
  intro q hq
  have h1 := s q hq
  have h2 : 1000 ≤ q := by unfold sTx at hq; omega
  exact ⟨(FR_I f (p q 0 h2)).trans h1.1, fun i hi => (FR_I f (p (q + 20) i (by omega))).trans (h1.2 i hi)⟩
theorem SC_SI {h : ajH} {a k : Nat} {v : Int32} (s : SC h) (ha : a < 1000) : SC (ajSI h a k v) := SC_FR s (FR_SI h (P := fun o _ => o < 1000) ha) (fun o _ ho z => absurd (show o < 1000 from z) (by omega))
/-- the first place of a number in a row, as Java tells it -/
def ixL (m : Nat) : List Nat → Nat → Int32
  | [], _ => -1
  | y :: r, i => if y = m then nI i else ixL m r (i + 1)
theorem ajStr_lt : ∀ q, sTx q → ∀ i, i < (ajStr q).length → (ajStr q).getD i 0 < 128 ∧ 0 < (ajStr q).getD i 0 := by
  intro q hq i hi
  rcases hq with rfl | rfl | rfl | rfl | rfl
  · exact (by decide : ∀ i < 6, (ajStr 1010).getD i 0 < 128 ∧ 0 < (ajStr 1010).getD i 0) i hi
  · exact (by decide : ∀ i < 4, (ajStr 1011).getD i 0 < 128 ∧ 0 < (ajStr 1011).getD i 0) i hi
  · exact (by decide : ∀ i < 3, (ajStr 1012).getD i 0 < 128 ∧ 0 < (ajStr 1012).getD i 0) i hi
  · exact (by decide : ∀ i < 4, (ajStr 1013).getD i 0 < 128 ∧ 0 < (ajStr 1013).getD i 0) i hi
  · exact (by decide : ∀ i < 1, (ajStr 1015).getD i 0 < 128 ∧ 0 < (ajStr 1015).getD i 0) i hi
theorem ajStr_len {h : ajH} : ∀ q, sTx q → ajLen h (q + 20) = (ajStr q).length ∧ (ajStr q).length ≤ 6 := by
  intro q hq
  rcases hq with rfl | rfl | rfl | rfl | rfl <;> exact ⟨ajLenC rfl, by decide⟩
theorem ajStr_ki : ∀ q, sTx q → ajKi q 50 ∧ ajKi (q + 20) 101 := by
  intro q hq
  rcases hq with rfl | rfl | rfl | rfl | rfl <;> exact ⟨ajKci rfl, ajKci rfl⟩
theorem sb_small {y : Nat} (h : y < 128) : (nI y).toInt8.toInt32 = nI y := (by decide +kernel : ∀ y < 128, (nI y).toInt8.toInt32 = nI y) y h
theorem sc_and255 {y : Nat} (h : y < 256) : nI y &&& 255 = nI y := (by decide +kernel : ∀ y < 256, nI y &&& 255 = nI y) y h
theorem ch_eq {y m : Nat} (hy : y < 128) (hm : m < 256) : (nI y = (nI m).toInt8.toInt32) = (y = m) := by
  rw [propext (sc_eq (sb_small hy) hm), sc_and255 (by omega), sr_eq (by omega) (by omega)]
theorem S257 {d : Nat} {h : ajH} {Q : Option Value → ajH → Prop} {q m : Nat} (hs : ajShp h) (sc : SC h) (hq : sTx q) (hm : m < 256) : ∀ (n i : Nat) (u1 u2 : Value), (ajStr q).length - i = n → i ≤ (ajStr q).length → Q (some (.int (ixL m ((ajStr q).drop i) i))) h → ajEv d 257 7 [.ref (q + 20), u1, u2, .int (nI (ajStr q).length), .int ((nI m).toInt8.toInt32), .int (nI i)] [] h Q := by
  have hl := ajStr_len (h := h) q hq
  intro n
  induction n with
  | zero =>
    intro i u1 u2 h1 h2 H
    refine W257_7 hs (ajStr_ki q hq).2 ?_
    rw [if_pos (by rw [sr_le (by omega) (by omega)]; omega)]
    rw [List.drop_of_length_le (by omega)] at H
    exact H
  | succ n ih =>
    intro i u1 u2 h1 h2 H
    have hi : i < (ajStr q).length := by omega
    refine W257_7 hs (ajStr_ki q hq).2 ?_
    rw [if_neg (by rw [sr_le (by omega) (by omega)]; omega), hl.1, sr_in (by omega), sr_N (by omega), (sc q hq).2 i hi]
    simp only [ch_eq (ajStr_lt q hq i hi).1 hm]
    refine ⟨hi, ?_⟩
    rw [List.drop_eq_getElem_cons hi] at H
    unfold ixL at H
    have e : (ajStr q)[i] = (ajStr q).getD i 0 := by rw [List.getD_eq_getElem?_getD, List.getElem?_eq_getElem hi]; rfl
    rw [e] at H
    by_cases hc : (ajStr q).getD i 0 = m
    · rw [if_neg (by omega)]
      rw [if_pos hc] at H
      exact H
    · rw [if_pos hc]
      rw [if_neg hc] at H
      rw [nI_1]
      exact ih (i + 1) _ _ (by omega) (by omega) H
theorem S250 {d : Nat} {h : ajH} {Q : Option Value → ajH → Prop} {q : Nat} (hs : ajShp h) (sc : SC h) (hq : sTx q) (H : Q (some (.int (nI (ajStr q).length))) h) : ajEv (d + 1) 250 0 [.ref q] [] h Q := by
  have hl := ajStr_len (h := h) q hq
  refine W250_0 hs (ajStr_ki q hq).1 ?_
  refine W251_0 hs (ajStr_ki q hq).1 ?_
  rw [if_neg (by decide), (sc q hq).1]
  refine ⟨by decide, ?_⟩
  intro _
  refine ⟨_, rfl, ?_⟩
  rw [hl.1]
  have e : (Int32.ofNat (ajStr q).length) >>> ((0 : Int32) &&& 31) = nI (ajStr q).length := sc_shr0 (by omega)
  rw [e]
  exact H
theorem S252 {d : Nat} {h : ajH} {Q : Option Value → ajH → Prop} {q m : Nat} (hs : ajShp h) (sc : SC h) (hq : sTx q) (hm : m < 256) (H : Q (some (.int (ixL m (ajStr q) 0))) h) : ajEv (d + 3) 252 0 [.ref q, .int (nI m)] [] h Q := by
  have hl := ajStr_len (h := h) q hq
  refine W252_0 hs (ajStr_ki q hq).1 ?_
  refine W253_0 hs (ajStr_ki q hq).1 ?_
  refine W254_0 hs (ajStr_ki q hq).1 ?_
  rw [if_neg (by decide), (sc q hq).1, if_neg (by decide)]
  intro _
  refine ⟨_, rfl, ?_⟩
  rw [if_neg (by decide)]
  refine S250 hs sc hq ?_
  intro _
  refine ⟨_, rfl, ?_⟩
  refine W255_0 hs (ajStr_ki q hq).2 ?_
  refine W256_0 hs ?_
  rw [if_neg (by rw [sr_lt0 (by omega)]; exact fun z => z), if_neg (by rw [sl_255, sr_lt (by omega) (by omega)]; omega)]
  intro _
  refine ⟨_, rfl, ?_⟩
  have h0 : 0 < (ajStr q).length := by rcases hq with rfl | rfl | rfl | rfl | rfl <;> decide
  rw [if_pos (by decide), if_neg (show ¬ (0 : Int32) < 0 by decide), hl.1, sl_n, ite_self, if_pos (by rw [sl_0, sr_lt (by omega) (by omega)]; exact h0)]
  refine W257_0 hs (ajStr_ki q hq).2 ?_
  refine S257 hs sc hq hm _ 0 _ _ rfl (Nat.zero_le _) ?_
  intro _
  refine ⟨_, rfl, ?_⟩
  intro _
  refine ⟨_, rfl, ?_⟩
  intro _
  exact ⟨_, rfl, H⟩
