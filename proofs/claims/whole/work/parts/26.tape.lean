/-! The tape of the class: reading signs. -/
theorem tSk_step {B : Nat → Nat} {L a : Nat} (h : a < L) (hb : B a = 32) : tSk B L a = tSk B L (a + 1) := by
  unfold tSk
  rw [show L - a = (L - (a + 1)) + 1 by omega]
  show (if B a = 32 then _ else _) = _
  rw [if_pos hb]
theorem tSk_stop {B : Nat → Nat} {L a : Nat} (h : a < L) (hb : ¬ B a = 32) : tSk B L a = a := by
  unfold tSk
  rw [show L - a = (L - (a + 1)) + 1 by omega]
  show (if B a = 32 then _ else _) = _
  rw [if_neg hb]
theorem tSk_end {B : Nat → Nat} {L a : Nat} (h : L ≤ a) : tSk B L a = a := by
  unfold tSk
  rw [show L - a = 0 by omega]
  rfl
theorem tSk_all (B : Nat → Nat) (L : Nat) : ∀ n a, L - a = n → a ≤ tSk B L a ∧ (a ≤ L → tSk B L a ≤ L) ∧ (tSk B L a < L → ¬ B (tSk B L a) = 32) := by
  intro n
  induction n with
  | zero => intro a h; rw [tSk_end (by omega)]; exact ⟨Nat.le_refl _, fun z => z, fun z => by omega⟩
  | succ n ih =>
    intro a h
    by_cases hb : B a = 32
    · rw [tSk_step (by omega) hb]
      have h1 := ih (a + 1) (by omega)
      exact ⟨by omega, fun _ => h1.2.1 (by omega), h1.2.2⟩
    · rw [tSk_stop (by omega) hb]
      exact ⟨Nat.le_refl _, fun z => z, fun _ => hb⟩
theorem tSk_ge (B : Nat → Nat) (L a : Nat) : a ≤ tSk B L a := (tSk_all B L _ a rfl).1
theorem tSk_le (B : Nat → Nat) {L a : Nat} (h : a ≤ L) : tSk B L a ≤ L := (tSk_all B L _ a rfl).2.1 h
theorem tSk_no {B : Nat → Nat} {L a : Nat} (h : tSk B L a < L) : ¬ B (tSk B L a) = 32 := (tSk_all B L _ a rfl).2.2 h
theorem tSk_id (B : Nat → Nat) (L a : Nat) : tSk B L (tSk B L a) = tSk B L a := by
  by_cases h : tSk B L a < L
  · exact tSk_stop h (tSk_no h)
  · exact tSk_end (by omega)
theorem tCh_in {B : Nat → Nat} {L a : Nat} (h : a < L) : tCh B L a = nI (B a) := if_pos h
theorem tCh_end {B : Nat → Nat} {L a : Nat} (h : L ≤ a) : tCh B L a = -1 := if_neg (by omega)
theorem tCh_m1 {B : Nat → Nat} {L a : Nat} (hB : ∀ k, B k < 256) : (tCh B L a = -1) = (L ≤ a) := by
  by_cases h : a < L
  · rw [tCh_in h, sr_neg1 (by have := hB a; omega)]
    exact propext ⟨fun z => z.elim, fun z => by omega⟩
  · rw [tCh_end (by omega)]
    exact propext ⟨fun _ => by omega, fun _ => rfl⟩
/-- a sign that is there -/
theorem tCh_lt {B : Nat → Nat} {L a : Nat} {x : Int32} (e : tCh B L a = x) (hx : ¬ x = -1) : a < L := by
  by_cases h : a < L
  · exact h
  · exact absurd (e.symm.trans (tCh_end (by omega))) hx
def CT (B : Nat → Nat) (L : Nat) (h : ajH) : Prop := ajI h 2 1 = nI L ∧ L ≤ 240 ∧ (∀ k, B k < 256) ∧ ∀ k, k < L → ajI h 3 k = nI (B k)
theorem CT_FR {B : Nat → Nat} {L : Nat} {h h' : ajH} {P : Nat → Nat → Prop} (c : CT B L h) (f : FR h h' P) (p1 : ¬ P 2 1) (p2 : ∀ k, k < L → ¬ P 3 k) : CT B L h' :=
  ⟨(FR_I f p1).trans c.1, c.2.1, c.2.2.1, fun k hk => (FR_I f (p2 k hk)).trans (c.2.2.2 k hk)⟩
theorem CT_2 {B : Nat → Nat} {L j : Nat} {h : ajH} {v : Int32} (hj : j ≠ 1) : CT B L (ajSI h 2 j v) = CT B L h := by
  unfold CT
  simp only [ajI_SI]
  rw [if_neg (by omega)]
  simp
theorem S19 {d : Nat} {h : ajH} {Q : Option Value → ajH → Prop} {B : Nat → Nat} {L a : Nat} (hs : ajShp h) (ct : CT B L h) (ha : ajI h 2 2 = nI a) (hl : a ≤ L) (H : Q (some (.int (tCh B L (tSk B L a)))) (ajSI h 2 2 (nI (tSk B L a)))) : ajEv d 19 0 [.ref 2] [] h Q := by
  have c2 := ct.2.1
  generalize hn : L - a = n
  induction n generalizing a h with
  | zero =>
    rw [tSk_end (by omega), ajSI_self h 2 2 ha, tCh_end (by omega)] at H
    refine W19_0 hs ?_
    rw [ct.1, ha, if_pos (by rw [sr_le (by omega) (by omega)]; omega)]
    refine W19_38 hs ?_
    rw [ct.1, ha, if_pos (by rw [sr_le (by omega) (by omega)]; omega)]
    exact H
  | succ n ih =>
    have hlt : a < L := by omega
    have hb := ct.2.2.1 a
    refine W19_0 hs ?_
    simp (disch := omega) only [ct.1, ha, sr_le, sr_lt, sr_eq, sr_N, sr_in, sr_add, sr_mul, sr_neg1, sr_neg1', sr_neg1le, sr_lt0, sr_ltn1, sl_n, sl_0, sl_1, sl_2, sl_3, sl_4, sl_5, sl_6, sl_7, sl_8, sl_9, sl_10, sl_14, sl_15, sl_16, sl_17, sl_18, sl_19, sl_20, sl_21, sl_22, sl_23, sl_24, sl_30, sl_31, sl_32, sl_33, sl_38, sl_40, sl_41, sl_42, sl_43, sl_45, sl_47, sl_48, sl_50, sl_57, sl_58, sl_59, sl_60, sl_61, sl_62, sl_63, sl_64, sl_91, sl_93, sl_97, sl_99, sl_100, sl_107, sl_109, sl_111, sl_115, sl_118, sl_119, sl_124, sl_127, sl_128, sl_177, sl_180, sl_203, sl_239, sl_240, sl_255, sl_256, sl_999, sl_1000, sl_7917, sl_8191, sl_9999, ct.2.2.2 a hlt]
    rw [if_neg (by omega)]
    refine ⟨by omega, ?_⟩
    by_cases h32 : B a = 32
    · rw [if_neg (by omega)]
      intro h1 e1
      subst e1
      rw [tSk_step hlt h32] at H
      refine ih (a := a + 1) hs (by rw [CT_2 (by decide)]; exact ct) rfl (by omega) ?_ (by omega)
      rw [ajSI_SI]
      exact H
    · rw [if_pos h32]
      refine W19_38 hs ?_
      simp (disch := omega) only [ct.1, ha, sr_le, sr_lt, sr_eq, sr_N, sr_in, sr_add, sr_mul, sr_neg1, sr_neg1', sr_neg1le, sr_lt0, sr_ltn1, sl_n, sl_0, sl_1, sl_2, sl_3, sl_4, sl_5, sl_6, sl_7, sl_8, sl_9, sl_10, sl_14, sl_15, sl_16, sl_17, sl_18, sl_19, sl_20, sl_21, sl_22, sl_23, sl_24, sl_30, sl_31, sl_32, sl_33, sl_38, sl_40, sl_41, sl_42, sl_43, sl_45, sl_47, sl_48, sl_50, sl_57, sl_58, sl_59, sl_60, sl_61, sl_62, sl_63, sl_64, sl_91, sl_93, sl_97, sl_99, sl_100, sl_107, sl_109, sl_111, sl_115, sl_118, sl_119, sl_124, sl_127, sl_128, sl_177, sl_180, sl_203, sl_239, sl_240, sl_255, sl_256, sl_999, sl_1000, sl_7917, sl_8191, sl_9999, ct.2.2.2 a hlt]
      rw [if_neg (by omega)]
      refine ⟨by omega, ?_⟩
      rw [tSk_stop hlt h32, ajSI_self h 2 2 ha, tCh_in hlt] at H
      exact H
theorem S20 {d : Nat} {h : ajH} {Q : Option Value → ajH → Prop} {B : Nat → Nat} {L a : Nat} (hs : ajShp h) (ct : CT B L h) (ha : ajI h 2 2 = nI a) (hl : a < L) (H : Q none (ajSI h 2 2 (nI (a + 1)))) : ajEv d 20 0 [.ref 2] [] h Q := by
  have c2 := ct.2.1
  refine W20_0 hs ?_
  simp (disch := omega) only [ct.1, ha, sr_le, sr_lt, sr_eq, sr_N, sr_in, sr_add, sr_mul, sr_neg1, sr_neg1', sr_neg1le, sr_lt0, sr_ltn1, sl_n, sl_0, sl_1, sl_2, sl_3, sl_4, sl_5, sl_6, sl_7, sl_8, sl_9, sl_10, sl_14, sl_15, sl_16, sl_17, sl_18, sl_19, sl_20, sl_21, sl_22, sl_23, sl_24, sl_30, sl_31, sl_32, sl_33, sl_38, sl_40, sl_41, sl_42, sl_43, sl_45, sl_47, sl_48, sl_50, sl_57, sl_58, sl_59, sl_60, sl_61, sl_62, sl_63, sl_64, sl_91, sl_93, sl_97, sl_99, sl_100, sl_107, sl_109, sl_111, sl_115, sl_118, sl_119, sl_124, sl_127, sl_128, sl_177, sl_180, sl_203, sl_239, sl_240, sl_255, sl_256, sl_999, sl_1000, sl_7917, sl_8191, sl_9999]
  rw [if_neg (by omega)]
  rintro _ rfl
  exact H
theorem S22 {d : Nat} {h : ajH} {Q : Option Value → ajH → Prop} (hs : ajShp h) (H : Q (some (.int 0)) (ajSI h 2 3 (ajI h 2 2))) : ajEv d 22 0 [.ref 2] [] h Q := by
  refine W22_0 hs ?_
  rintro _ rfl
  exact H
theorem S24t {d : Nat} {h : ajH} {Q : Option Value → ajH → Prop} {B : Nat → Nat} {L a : Nat} (hs : ajShp h) (hB : ∀ k, B k < 256) (H : Q (some (.int (if a < L ∧ 48 ≤ B a ∧ B a ≤ 57 then 1 else 0))) h) : ajEv d 24 0 [.int (tCh B L a)] [] h Q := by
  have h1 := hB a
  refine W24_0 hs ?_
  by_cases hl : a < L
  · rw [tCh_in hl]
    simp (disch := omega) only [sr_le, sr_lt, sr_eq, sr_N, sr_in, sr_add, sr_mul, sr_neg1, sr_neg1', sr_neg1le, sr_lt0, sr_ltn1, sl_n, sl_0, sl_1, sl_2, sl_3, sl_4, sl_5, sl_6, sl_7, sl_8, sl_9, sl_10, sl_14, sl_15, sl_16, sl_17, sl_18, sl_19, sl_20, sl_21, sl_22, sl_23, sl_24, sl_30, sl_31, sl_32, sl_33, sl_38, sl_40, sl_41, sl_42, sl_43, sl_45, sl_47, sl_48, sl_50, sl_57, sl_58, sl_59, sl_60, sl_61, sl_62, sl_63, sl_64, sl_91, sl_93, sl_97, sl_99, sl_100, sl_107, sl_109, sl_111, sl_115, sl_118, sl_119, sl_124, sl_127, sl_128, sl_177, sl_180, sl_203, sl_239, sl_240, sl_255, sl_256, sl_999, sl_1000, sl_7917, sl_8191, sl_9999]
    by_cases h2 : B a < 48
    · rw [if_pos h2]
      rw [if_neg (by omega)] at H
      exact H
    · rw [if_neg h2]
      by_cases h3 : 57 < B a
      · rw [if_pos h3]
        rw [if_neg (by omega)] at H
        exact H
      · rw [if_neg h3]
        rw [if_pos (by omega)] at H
        exact H
  · rw [tCh_end (by omega), if_pos (by decide)]
    rw [if_neg (by omega)] at H
    exact H
/-- a number of k digits at most, within lo .. hi -/
def tNr (B : Nat → Nat) (L k lo hi a : Nat) : Bool × Nat × Nat :=
  if tSk B L a < L ∧ 48 ≤ B (tSk B L a) ∧ B (tSk B L a) ≤ 57 then
    if (tNum B L k (tSk B L a) 0).1 < L ∧ 48 ≤ B (tNum B L k (tSk B L a) 0).1 ∧ B (tNum B L k (tSk B L a) 0).1 ≤ 57 then (false, (tNum B L k (tSk B L a) 0).1, 0)
    else if (tNum B L k (tSk B L a) 0).2 < lo ∨ hi < (tNum B L k (tSk B L a) 0).2 then (false, (tNum B L k (tSk B L a) 0).1 - 1, 0)
    else (true, (tNum B L k (tSk B L a) 0).1, (tNum B L k (tSk B L a) 0).2)
  else (false, tSk B L a, 0)
def P2 (o j : Nat) : Prop := o = 2 ∧ (j = 2 ∨ j = 3)
theorem S23_91 {d : Nat} {h : ajH} {Q : Option Value → ajH → Prop} {B : Nat → Nat} {L lo hi a v : Nat} (hs : ajShp h) (ct : CT B L h) (ha : ajI h 2 2 = nI a) (hl : a ≤ L) (hlo : lo < 2147483648) (hhi : hi < 2147483648) (hv : v < 2147483648) (h0 : 0 < a) {u1 u5 : Value}
    (H : ∀ h', FR h h' P2 → (a < L ∧ 48 ≤ B a ∧ B a ≤ 57 → ajI h' 2 3 = nI a → Q (some (.int (-1))) h') ∧ (¬(a < L ∧ 48 ≤ B a ∧ B a ≤ 57) → v < lo ∨ hi < v → ajI h' 2 3 = nI (a - 1) → Q (some (.int (-1))) h') ∧ (¬(a < L ∧ 48 ≤ B a ∧ B a ≤ 57) → ¬(v < lo ∨ hi < v) → ajI h' 2 2 = nI a → Q (some (.int (nI v))) h')) :
    ajEv (d + 1) 23 91 [.ref 2, u1, .int (nI lo), .int (nI hi), .int (nI v), u5] [] h Q := by
  have c2 := ct.2.1
  have hb := ct.2.2.1 a
  have hgo : ¬(a < L ∧ 48 ≤ B a ∧ B a ≤ 57) → ∀ u1 u5 : Value, ajEv (d + 1) 23 124 [.ref 2, u1, .int (nI lo), .int (nI hi), .int (nI v), u5] [] h Q := by
    intro hn u1 u5
    have hbad : v < lo ∨ hi < v → ∀ u1 u5 : Value, ajEv (d + 1) 23 136 [.ref 2, u1, .int (nI lo), .int (nI hi), .int (nI v), u5] [] h Q := by
      intro hbd u1 u5
      refine W23_136 hs ?_
      rintro _ rfl
      refine S22 hs ?_
      intro _
      refine ⟨_, rfl, ?_⟩
      have e : ajI (ajSI h 2 2 (ajI h 2 2 - 1)) 2 2 = nI (a - 1) := by
        rw [ajI_SI, if_pos ⟨rfl, rfl⟩, ha]
        exact sr_sub h0
      rw [e]
      exact (H _ (FR_trans (FR_SI h (P := P2) ⟨rfl, Or.inl rfl⟩) (FR_SI _ ⟨rfl, Or.inr rfl⟩))).2.1 hn hbd rfl
    refine W23_124 hs ?_
    simp only [sr_lt hv hlo, sr_le hv hhi]
    by_cases h1 : v < lo
    · rw [if_pos h1]; exact hbad (Or.inl h1) _ _
    · rw [if_neg h1]
      by_cases h2 : v ≤ hi
      · rw [if_pos h2]
        exact (H h (FR_refl _ _)).2.2 hn (by omega) ha
      · rw [if_neg h2]; exact hbad (Or.inr (by omega)) _ _
  refine W23_91 hs ?_
  rw [ct.1, ha]
  simp only [sr_le (show L < 2147483648 by omega) (show a < 2147483648 by omega)]
  by_cases hlt : a < L
  · rw [if_neg (by omega), sr_in (by omega), sr_N (by omega), ct.2.2.2 a hlt]
    refine ⟨by omega, ?_⟩
    have e1 := tCh_in (B := B) hlt
    rw [← e1]
    refine S24t hs ct.2.2.1 ?_
    intro _
    refine ⟨_, rfl, ?_⟩
    by_cases hd : a < L ∧ 48 ≤ B a ∧ B a ≤ 57
    · rw [if_pos hd, if_neg (by decide)]
      refine S22 hs ?_
      intro _
      refine ⟨_, rfl, ?_⟩
      exact (H _ (FR_SI h (P := P2) ⟨rfl, Or.inr rfl⟩)).1 hd (by rw [ha]; rfl)
    · rw [if_neg hd, if_pos (by decide)]
      exact hgo hd _ _
  · rw [if_pos (by omega)]
    exact hgo (by omega) _ _
theorem S23_23 {d : Nat} {h : ajH} {Q : Option Value → ajH → Prop} {B : Nat → Nat} {L lo hi k : Nat} (hs : ajShp h) (ct : CT B L h) (hk : k ≤ 4) (hlo : lo < 2147483648) (hhi : hi < 2147483648) : ∀ n i a v, i + n = k → ajI h 2 2 = nI a → a ≤ L → v + 1 ≤ 10 ^ i → (0 < i → 0 < a) →
    (∀ h', FR h h' P2 → ((tNum B L n a v).1 < L ∧ 48 ≤ B (tNum B L n a v).1 ∧ B (tNum B L n a v).1 ≤ 57 → ajI h' 2 3 = nI (tNum B L n a v).1 → Q (some (.int (-1))) h') ∧
      (¬((tNum B L n a v).1 < L ∧ 48 ≤ B (tNum B L n a v).1 ∧ B (tNum B L n a v).1 ≤ 57) → (tNum B L n a v).2 < lo ∨ hi < (tNum B L n a v).2 → ajI h' 2 3 = nI ((tNum B L n a v).1 - 1) → Q (some (.int (-1))) h') ∧
      (¬((tNum B L n a v).1 < L ∧ 48 ≤ B (tNum B L n a v).1 ∧ B (tNum B L n a v).1 ≤ 57) → ¬((tNum B L n a v).2 < lo ∨ hi < (tNum B L n a v).2) → ajI h' 2 2 = nI (tNum B L n a v).1 → Q (some (.int (nI (tNum B L n a v).2))) h')) →
    (0 < i ∨ a < L ∧ 48 ≤ B a ∧ B a ≤ 57 ∧ 0 < n) → ajEv (d + 1) 23 23 [.ref 2, .int (nI k), .int (nI lo), .int (nI hi), .int (nI v), .int (nI i)] [] h Q := by
  have c2 := ct.2.1
  intro n
  induction n generalizing h with
  | zero =>
    intro i a v h1 ha hl hv hi0 H h0
    have hv4 : v + 1 ≤ 10000 := Nat.le_trans hv (Nat.pow_le_pow_right (by omega) (by omega : i ≤ 4))
    have hb := ct.2.2.1 a
    refine W23_23 hs ?_
    rw [if_pos (by rw [sr_le (by omega) (by omega)]; omega)]
    exact S23_91 (v := v) hs ct ha hl hlo hhi (by omega) (hi0 (by omega)) H
  | succ n ih =>
    intro i a v h1 ha hl hv hi0 H h0
    have hv4 : v + 1 ≤ 10000 := Nat.le_trans hv (Nat.pow_le_pow_right (by omega) (by omega : i ≤ 4))
    have hb := ct.2.2.1 a
    refine W23_23 hs ?_
    rw [if_neg (by rw [sr_le (by omega) (by omega)]; omega), ct.1, ha]
    simp only [sr_le (show L < 2147483648 by omega) (show a < 2147483648 by omega)]
    unfold tNum at H
    by_cases hlt : a < L
    · rw [if_neg (by omega), sr_in (by omega), sr_N (by omega), ct.2.2.2 a hlt]
      refine ⟨by omega, ?_⟩
      have e1 := tCh_in (B := B) hlt
      rw [← e1]
      refine S24t hs ct.2.2.1 ?_
      intro _
      refine ⟨_, rfl, ?_⟩
      by_cases hd : a < L ∧ 48 ≤ B a ∧ B a ≤ 57
      · rw [if_pos hd, if_neg (by decide), ha, sr_in (by omega), sr_N (by omega), ct.2.2.2 a hlt, ← e1]
        refine ⟨by omega, ?_⟩
        rintro _ rfl
        rw [if_pos hd] at H
        have e2 : nI v * 10 + tCh B L a - 48 = nI (v * 10 + (B a - 48)) := by
          rw [e1]
          simp only [sl_10, sl_48, sr_mul, sr_add]
          rw [sr_sub (by omega)]
          congr 1
          omega
        have e3 : nI a + 1 = nI (a + 1) := nI_1 a
        have e4 : nI i + 1 = nI (i + 1) := nI_1 i
        rw [e2, e3, e4]
        have hv2 : v * 10 + (B a - 48) + 1 ≤ 10 ^ (i + 1) := by
          rw [Nat.pow_succ]
          omega
        refine ih (h := ajSI h 2 2 (nI (a + 1))) hs (by rw [CT_2 (by decide)]; exact ct) (i + 1) (a + 1) _ (by omega) rfl (by omega) hv2 (by omega) ?_ (Or.inl (by omega))
        intro h' f
        exact H h' (FR_trans (FR_SI h (P := P2) ⟨rfl, Or.inl rfl⟩) f)
      · rw [if_neg hd, if_pos (by decide)]
        rw [if_neg hd] at H
        exact S23_91 (v := v) hs ct ha hl hlo hhi (by omega) (hi0 (by omega)) H
    · rw [if_pos (by omega)]
      rw [if_neg (by omega)] at H
      exact S23_91 (v := v) hs ct ha hl hlo hhi (by omega) (hi0 (by omega)) H
theorem S23 {d : Nat} {h : ajH} {Q : Option Value → ajH → Prop} {B : Nat → Nat} {L lo hi k a : Nat} (hs : ajShp h) (ct : CT B L h) (hk : k ≤ 4) (hk0 : 0 < k) (hlo : lo < 2147483648) (hhi : hi < 2147483648) (ha : ajI h 2 2 = nI a) (hl : a ≤ L)
    (H : ∀ h', FR h h' P2 → ((tNr B L k lo hi a).1 = true → ajI h' 2 2 = nI (tNr B L k lo hi a).2.1 → Q (some (.int (nI (tNr B L k lo hi a).2.2))) h') ∧ ((tNr B L k lo hi a).1 = false → ajI h' 2 3 = nI (tNr B L k lo hi a).2.1 → Q (some (.int (-1))) h')) :
    ajEv (d + 1) 23 0 [.ref 2, .int (nI k), .int (nI lo), .int (nI hi), ajU, ajU] [] h Q := by
  have h7 := tSk_le B hl
  refine W23_0 hs ?_
  refine S19 hs ct ha hl ?_
  intro s1
  refine ⟨_, rfl, ?_⟩
  refine S24t s1 ct.2.2.1 ?_
  intro _
  refine ⟨_, rfl, ?_⟩
  have f1 : FR h (ajSI h 2 2 (nI (tSk B L a))) P2 := FR_SI h ⟨rfl, Or.inl rfl⟩
  have ct1 : CT B L (ajSI h 2 2 (nI (tSk B L a))) := by rw [CT_2 (by decide)]; exact ct
  by_cases hd : tSk B L a < L ∧ 48 ≤ B (tSk B L a) ∧ B (tSk B L a) ≤ 57
  · rw [if_pos hd, if_pos (by decide)]
    refine S23_23 (h := ajSI h 2 2 (nI (tSk B L a))) s1 ct1 hk hlo hhi k 0 (tSk B L a) 0 (by omega) rfl h7 (by decide) (by omega) ?_ (Or.inr ⟨hd.1, hd.2.1, hd.2.2, hk0⟩)
    intro h' f
    have H1 := H h' (FR_trans f1 f)
    unfold tNr at H1
    rw [if_pos hd] at H1
    refine ⟨fun z e => ?_, fun z y e => ?_, fun z y e => ?_⟩
    · rw [if_pos z] at H1; exact H1.2 rfl e
    · rw [if_neg z, if_pos y] at H1; exact H1.2 rfl e
    · rw [if_neg z, if_neg y] at H1; exact H1.1 rfl e
  · rw [if_neg hd, if_neg (by decide)]
    refine S22 s1 ?_
    intro _
    refine ⟨_, rfl, ?_⟩
    have H1 := H (ajSI (ajSI h 2 2 (nI (tSk B L a))) 2 3 (nI (tSk B L a))) (FR_trans f1 (FR_SI _ ⟨rfl, Or.inr rfl⟩))
    unfold tNr at H1
    rw [if_neg hd] at H1
    exact H1.2 rfl rfl
theorem S27 {d : Nat} {h : ajH} {Q : Option Value → ajH → Prop} {B : Nat → Nat} {L a : Nat} {x : Int32} (hs : ajShp h) (ct : CT B L h) (ha : ajI h 2 2 = nI a) (hl : a ≤ L) (hx : ¬ x = -1)
    (H1 : tCh B L (tSk B L a) = x → tSk B L a < L → Q (some (.int 1)) (ajSI h 2 2 (nI (tSk B L a + 1)))) (H0 : ¬ tCh B L (tSk B L a) = x → Q (some (.int 0)) (ajSI h 2 2 (nI (tSk B L a)))) : ajEv (d + 1) 27 0 [.ref 2, .int x] [] h Q := by
  refine W27_0 hs ?_
  refine S19 hs ct ha hl ?_
  intro _
  refine ⟨_, rfl, ?_⟩
  by_cases e : tCh B L (tSk B L a) = x
  · rw [if_pos e]
    have hlt := tCh_lt e hx
    refine S20 (a := tSk B L a) hs (by rw [CT_2 (by decide)]; exact ct) rfl hlt ?_
    intro _
    refine ⟨rfl, ?_⟩
    rw [ajSI_SI]
    exact H1 e hlt
  · rw [if_neg e]
    exact H0 e
