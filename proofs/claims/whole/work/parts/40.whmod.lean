/-! The reference reads a wheel. -/
theorem S145 {d : Nat} {h : ajH} {Q : Option Value → ajH → Prop} {x lo hi : Int32} (hs : ajShp h) (H : Q (some (.int (if x < lo then 0 else if hi < x then 0 else 1))) h) : ajEv d 145 0 [.long x.toInt64, ajU, .long lo.toInt64, ajU, .long hi.toInt64, ajU] [] h Q := by
  refine W145_0 hs ?_
  by_cases h1 : x < lo
  · rw [if_pos ((lg_cmp_lt _ _).mpr (by rw [wide_lt]; exact h1))]
    rw [if_pos h1] at H
    exact H
  · rw [if_neg (fun z => h1 (by rw [← wide_lt]; exact (lg_cmp_lt _ _).mp z))]
    rw [if_neg h1] at H
    by_cases h2 : hi < x
    · rw [if_pos ((lg_cmp_gt _ _).mpr (by rw [wide_lt]; exact h2))]
      rw [if_pos h2] at H
      exact H
    · rw [if_neg (fun z => h2 (by rw [← wide_lt]; exact (lg_cmp_gt _ _).mp z))]
      rw [if_neg h2] at H
      exact H
/-- what a number of the reference leaves -/
def nPost (L : Nat) (r : Bool × Nat × Nat) (h h' : ajH) (v : Int32) : Prop := FR h h' P10 ∧ (r.1 = true → ajI h' 320 10 = nI r.2.1 ∧ ajI h' 320 11 = -1 ∧ v = nI r.2.2) ∧ (r.1 = false → ajI h' 320 11 = nI r.2.1 ∧ ∃ a', a' ≤ L ∧ ajI h' 320 10 = nI a')
theorem S157_67 {B : Nat → Nat} {L t b d lo hi e v : Nat} {h : ajH} {Q : Option Value → ajH → Prop} {u3 : Value} (hs : ajShp h) (ct : MT B L t b h) (ha : ajI h 320 10 = nI e) (hl : e ≤ L) (h0 : 0 < e) (hf : ajI h 320 11 = -1) (hlo : lo < 2147483648) (hhi : hi < 2147483648) (hv : v < 2147483648)
    (H : ∀ h' w, nPost L (if e < L ∧ 48 ≤ B e ∧ B e ≤ 57 then (false, e, 0) else if v < lo ∨ hi < v then (false, e - 1, 0) else (true, e, v)) h h' w → Q (some (.int w)) h') : ajEv (d + 1) 157 67 [.ref 320, .int (nI lo), .int (nI hi), u3, .int (nI v)] [] h Q := by
  have c2 := ct.2.2.2.1
  refine W157_67 hs ?_
  refine S158 hs ct ha hl ?_
  intro _
  refine ⟨_, rfl, ?_⟩
  by_cases hd : e < L ∧ 48 ≤ B e ∧ B e ≤ 57
  · rw [if_pos hd] at H ⊢
    rw [if_neg (by decide)]
    refine S151 hs ha hf ?_
    intro _
    exact ⟨_, rfl, H _ 0 ⟨FR_SI h P10f, fun z => by (cases z), fun _ => ⟨rfl, e, hl, ha⟩⟩⟩
  · rw [if_neg hd] at H ⊢
    rw [if_pos rfl]
    refine S145 hs ?_
    intro _
    refine ⟨_, rfl, ?_⟩
    simp only [sr_lt hv hlo, sr_lt hhi hv]
    by_cases h1 : v < lo
    · rw [if_pos (Or.inl h1)] at H
      rw [if_pos h1, if_neg (by decide)]
      rintro _ rfl
      refine S151 (a := e - 1) hs ?_ hf ?_
      · rw [ajI_SI, if_pos ⟨rfl, rfl⟩, ha]; exact sr_sub h0
      · intro _
        refine ⟨_, rfl, H _ _ ⟨FR_trans (FR_SI h P10a) (FR_SI _ P10f), fun z => by (cases z), fun _ => ⟨rfl, e - 1, by omega, ?_⟩⟩⟩
        rw [ajI_SI, if_neg (by omega), ajI_SI, if_pos ⟨rfl, rfl⟩, ha]; exact sr_sub h0
    · rw [if_neg h1]
      by_cases h2 : hi < v
      · rw [if_pos (Or.inr h2)] at H
        rw [if_pos h2, if_neg (by decide)]
        rintro _ rfl
        refine S151 (a := e - 1) hs ?_ hf ?_
        · rw [ajI_SI, if_pos ⟨rfl, rfl⟩, ha]; exact sr_sub h0
        · intro _
          refine ⟨_, rfl, H _ _ ⟨FR_trans (FR_SI h P10a) (FR_SI _ P10f), fun z => by (cases z), fun _ => ⟨rfl, e - 1, by omega, ?_⟩⟩⟩
          rw [ajI_SI, if_neg (by omega), ajI_SI, if_pos ⟨rfl, rfl⟩, ha]; exact sr_sub h0
      · rw [if_neg (by omega)] at H
        rw [if_neg h2, if_pos (by decide)]
        exact H h _ ⟨FR_refl _ _, fun _ => ⟨ha, hf, rfl⟩, fun z => by (cases z)⟩
theorem S159 {d : Nat} {h : ajH} {Q : Option Value → ajH → Prop} {B : Nat → Nat} {L t b a : Nat} (hs : ajShp h) (ct : MT B L t b h) (ha : ajI h 320 10 = nI a) (hl : a < L) (H : Q (some (.int (nI (B a)))) h) : ajEv d 159 0 [.ref 320] [] h Q := by
  have c2 := ct.2.2.2.1
  have c3 := ct.2.2.1
  have hb := ct.2.2.2.2.2.1 a
  have hok := MT_OK hs ct hl
  refine W159_0 hs ?_
  rw [c3, ha, if_neg (by rw [sr_le (by omega) (by omega)]; omega), hok.2.2.1, hok.2.2.2, sb_255 hb]
  exact ⟨hok.1, hok.2.1, H⟩
theorem S157 {B : Nat → Nat} {L t b d lo hi a : Nat} {h : ajH} {Q : Option Value → ajH → Prop} (hs : ajShp h) (ct : MT B L t b h) (ha : ajI h 320 10 = nI a) (hl : a ≤ L) (hf : ajI h 320 11 = -1) (hlo : lo < 2147483648) (hhi : hi < 2147483648)
    (H : ∀ h' w, nPost L (tNr B L 2 lo hi a) h h' w → Q (some (.int w)) h') : ajEv (d + 1) 157 0 [.ref 320, .int (nI lo), .int (nI hi), ajU, ajU] [] h Q := by
  have c2 := ct.2.2.2.1
  have cB := ct.2.2.2.2.2.1
  have h7 := tSk_le B hl
  refine W157_0 hs ?_
  refine S150 hs ct ha hl ?_
  intro s1
  refine ⟨_, rfl, ?_⟩
  have f1 : FR h (ajSI h 320 10 (nI (tSk B L a))) P10 := FR_SI h P10a
  refine S158 (a := tSk B L a) s1 (MT_10 ct f1) rfl h7 ?_
  intro _
  refine ⟨_, rfl, ?_⟩
  unfold tNr at H
  by_cases hd : tSk B L a < L ∧ 48 ≤ B (tSk B L a) ∧ B (tSk B L a) ≤ 57
  · rw [if_pos hd] at H ⊢
    rw [if_pos (by decide)]
    rintro _ rfl
    rw [ajSI_SI, ajI_SI, if_pos ⟨rfl, rfl⟩, nI_1]
    have f2 : FR h (ajSI h 320 10 (nI (tSk B L a + 1))) P10 := FR_SI h P10a
    refine S158 (a := tSk B L a + 1) s1 (MT_10 ct f2) rfl (by omega) ?_
    intro _
    refine ⟨_, rfl, ?_⟩
    rw [tCh_in hd.1]
    have e0 : nI (B (tSk B L a)) - 48 = nI (B (tSk B L a) - 48) := by rw [sl_48]; exact sr_sub hd.2.1
    rw [e0]
    by_cases hd2 : tSk B L a + 1 < L ∧ 48 ≤ B (tSk B L a + 1) ∧ B (tSk B L a + 1) ≤ 57
    · rw [if_pos hd2, if_neg (by decide)]
      refine S159 (a := tSk B L a + 1) s1 (MT_10 ct f2) rfl hd2.1 ?_
      intro _
      refine ⟨_, rfl, ?_⟩
      rintro _ rfl
      rw [ajSI_SI, ajI_SI, if_pos ⟨rfl, rfl⟩, nI_1]
      have f3 : FR h (ajSI h 320 10 (nI (tSk B L a + 1 + 1))) P10 := FR_SI h P10a
      have hb1 := cB (tSk B L a)
      have hb2 := cB (tSk B L a + 1)
      have et : tNum B L 2 (tSk B L a) 0 = (tSk B L a + 1 + 1, (0 * 10 + (B (tSk B L a) - 48)) * 10 + (B (tSk B L a + 1) - 48)) := by
        unfold tNum
        rw [if_pos hd]
        unfold tNum
        rw [if_pos hd2]
        rfl
      rw [et] at H
      have e1 : (10 : Int32) * nI (B (tSk B L a) - 48) + nI (B (tSk B L a + 1)) - 48 = nI ((0 * 10 + (B (tSk B L a) - 48)) * 10 + (B (tSk B L a + 1) - 48)) := by
        rw [sl_10, sl_48, sr_mul, sr_add, sr_sub (by omega)]
        exact congrArg nI (by omega)
      rw [e1]
      refine S157_67 (e := tSk B L a + 1 + 1) s1 (MT_10 ct f3) rfl (by omega) (by omega) hf hlo hhi (by omega) ?_
      intro h' w p
      exact H h' w ⟨FR_trans f3 p.1, p.2⟩
    · rw [if_neg hd2, if_pos rfl]
      have hb1 := cB (tSk B L a)
      have et : tNum B L 2 (tSk B L a) 0 = (tSk B L a + 1, 0 * 10 + (B (tSk B L a) - 48)) := by
        unfold tNum
        rw [if_pos hd]
        unfold tNum
        rw [if_neg hd2]
      rw [et] at H
      have e1 : nI (B (tSk B L a) - 48) = nI (0 * 10 + (B (tSk B L a) - 48)) := congrArg nI (by omega)
      rw [e1]
      refine S157_67 (e := tSk B L a + 1) s1 (MT_10 ct f2) rfl (by omega) (by omega) hf hlo hhi (by omega) ?_
      intro h' w p
      exact H h' w ⟨FR_trans f2 p.1, p.2⟩
  · rw [if_neg hd] at H ⊢
    rw [if_neg (by decide)]
    refine S151 (a := tSk B L a) s1 rfl hf ?_
    intro _
    exact ⟨_, rfl, H _ 0 ⟨FR_trans f1 (FR_SI _ P10f), fun z => by (cases z), fun _ => ⟨rfl, tSk B L a, h7, rfl⟩⟩⟩
theorem S153_2 {d : Nat} {h : ajH} {Q : Option Value → ajH → Prop} {q : Nat} {x : Int32} (hs : ajShp h) (sc : SC h) (hq : sTx q) : ∀ (n i : Nat), (ajStr q).length - i = n → i ≤ (ajStr q).length → Q (some (.int (ixG x ((ajStr q).drop i) i))) h → ajEv (d + 4) 153 2 [.ref q, .int x, .int (nI i)] [] h Q := by
  have hl := ajStr_len (h := h) q hq
  intro n
  induction n with
  | zero =>
    intro i h1 h2 H
    refine W153_2 hs (ajStr_ki q hq).1 ?_
    refine S250 hs sc hq ?_
    intro _
    refine ⟨_, rfl, ?_⟩
    rw [if_pos (by rw [sr_le (by omega) (by omega)]; omega)]
    rw [List.drop_of_length_le (by omega)] at H
    exact H
  | succ n ih =>
    intro i h1 h2 H
    have hi : i < (ajStr q).length := by omega
    refine W153_2 hs (ajStr_ki q hq).1 ?_
    refine S250 hs sc hq ?_
    intro _
    refine ⟨_, rfl, ?_⟩
    rw [if_neg (by rw [sr_le (by omega) (by omega)]; omega)]
    refine S259 hs sc hq hi ?_
    intro _
    refine ⟨_, rfl, ?_⟩
    rw [List.drop_eq_getElem_cons hi] at H
    unfold ixG at H
    have e : (ajStr q)[i] = (ajStr q).getD i 0 := by rw [List.getD_eq_getElem?_getD, List.getElem?_eq_getElem hi]; rfl
    rw [e] at H
    by_cases hc : nI ((ajStr q).getD i 0) = x
    · rw [if_neg (fun z => z hc)]
      rw [if_pos hc] at H
      exact H
    · rw [if_pos hc]
      rw [if_neg hc] at H
      rw [nI_1]
      exact ih (i + 1) (by omega) (by omega) H
theorem S153 {d : Nat} {h : ajH} {Q : Option Value → ajH → Prop} {q : Nat} {x : Int32} (hs : ajShp h) (sc : SC h) (hq : sTx q) (H : Q (some (.int (ixG x (ajStr q) 0))) h) : ajEv (d + 4) 153 0 [.ref q, .int x, ajU] [] h Q := by
  refine W153_0 hs (ajStr_ki q hq).1 ?_
  exact S153_2 hs sc hq _ 0 rfl (Nat.zero_le _) H
theorem S155 {d w : Nat} {h : ajH} {Q : Option Value → ajH → Prop} {b : Bool} (hs : ajShp h) (hw : w < 4) (H : Q (some (.int (nI (kLo b w)))) h) : ajEv d 155 0 [.int (kI b), .int (nI w)] [] h Q := by
  have hw : w = 0 ∨ w = 1 ∨ w = 2 ∨ w = 3 := by omega
  refine W155_0 hs ?_
  rcases hw with rfl | rfl | rfl | rfl <;> cases b <;> exact H
theorem S156 {d w : Nat} {h : ajH} {Q : Option Value → ajH → Prop} {b : Bool} (hs : ajShp h) (hw : w < 4) (H : Q (some (.int (nI (kHi b w)))) h) : ajEv d 156 0 [.int (kI b), .int (nI w)] [] h Q := by
  have hw : w = 0 ∨ w = 1 ∨ w = 2 ∨ w = 3 := by omega
  refine W156_0 hs ?_
  rcases hw with rfl | rfl | rfl | rfl <;> cases b <;> exact H
theorem S148 {d w : Nat} {h : ajH} {Q : Option Value → ajH → Prop} {b : Bool} (hs : ajShp h) (hw : w < 4) (H : Q (some (.int (nI (kUs b w)))) h) : ajEv d 148 0 [.int (kI b), .int (nI w)] [] h Q := by
  have hw : w = 0 ∨ w = 1 ∨ w = 2 ∨ w = 3 := by omega
  refine W148_0 hs ?_
  rcases hw with rfl | rfl | rfl | rfl <;> cases b <;> exact H
theorem S154 {d k : Nat} {h : ajH} {Q : Option Value → ajH → Prop} {m : Int32} (hs : ajShp h) (hk : k < 32) (H : Q (some (.int (flg (hb m k)))) h) : ajEv d 154 0 [.int m, .int (nI k)] [] h Q := by
  refine W154_0 hs ?_
  cases hm : hb m k with
  | true =>
    rw [hm] at H
    rw [if_neg (fun z => z (by rw [hb_sh1 m hk]; exact hm))]
    exact H
  | false =>
    rw [hm] at H
    rw [if_pos (fun z => by rw [hb_sh1 m hk, hm] at z; cases z)]
    exact H
theorem m4_hb {M w : Nat} (hM : M < 16) (hw : w < 4) : hb (nI M) w = decide (M / 2 ^ w % 2 = 1) := (by decide +kernel : ∀ M < 16, ∀ w < 4, hb (nI M) w = decide (M / 2 ^ w % 2 = 1)) M hM w hw
theorem m4_all {M w : Nat} {b : Bool} (hM : M < 2 ^ kLen b) (hw : w < kLen b) (hp : pc4 M = kLen b) : M / 2 ^ w % 2 = 1 := by
  cases b with
  | false => exact (by decide +kernel : ∀ M < 16, ∀ w < 4, pc4 M = 4 → M / 2 ^ w % 2 = 1) M hM w hw hp
  | true => exact (by decide +kernel : ∀ M < 8, ∀ w < 3, pc4 M = 3 → M / 2 ^ w % 2 = 1) M hM w hw hp
theorem m4_lt {M w : Nat} {b : Bool} (hM : M < 2 ^ kLen b) (hw : w < kLen b) (h : ¬ M / 2 ^ w % 2 = 1) : M + 2 ^ w < 2 ^ kLen b := by
  cases b with
  | false => exact (by decide +kernel : ∀ M < 16, ∀ w < 4, ¬ M / 2 ^ w % 2 = 1 → M + 2 ^ w < 16) M hM w hw h
  | true => exact (by decide +kernel : ∀ M < 8, ∀ w < 3, ¬ M / 2 ^ w % 2 = 1 → M + 2 ^ w < 8) M hM w hw h
theorem k16 {M : Nat} {b : Bool} (hM : M < 2 ^ kLen b) : M < 16 := by cases b with
  | false => exact hM
  | true => exact Nat.lt_trans hM (by decide)
theorem ix_let {b : Bool} {x : Int32} (h : ¬ ixG x (ajStr (kQ b)) 0 = -1) : ¬ x = 59 ∧ ¬ x = -1 := by
  constructor
  · rintro rfl
    cases b <;> exact absurd (by decide) h
  · rintro rfl
    cases b <;> exact absurd (by decide) h
/-- what the reference's items leave: r is what they are -/
def iPost (B : Nat → Nat) (L t off : Nat) (b : Bool) (r : Bool × Nat × (Nat → Nat)) (h h' : ajH) : Prop := FR h h' (fun o j => P10 o j ∨ o = t ∧ off ≤ j ∧ j < off + kLen b) ∧
  (r.1 = true ∧ ajI h' 320 11 = -1 ∧ ajI h' 320 10 = nI r.2.1 ∧ (∀ k, k < kLen b → ajI h' t (off + k) = nI (r.2.2 k)) ∨ eOK B L r = false ∧ ajI h' 320 11 = nI r.2.1)
def tgt (t off : Nat) (b : Bool) : Prop := t = 326 ∧ off = 0 ∧ b = false ∨ t = 328 ∧ off ≤ 21 ∧ b = true
theorem tgt_k {t off : Nat} {b : Bool} (h : tgt t off b) : ajKw t 100 ∧ off + kLen b ≤ 24 ∧ ∀ (h : ajH) (k : Nat), k < kLen b → off + k < ajLen h t := by
  rcases h with ⟨rfl, rfl, rfl⟩ | ⟨rfl, h1, rfl⟩
  · refine ⟨ajKc rfl, by decide, fun h k hk => ?_⟩
    have e : ajLen h 326 = 4 := ajLenC rfl
    rw [e]
    have hk : k < 4 := hk
    omega
  · refine ⟨ajKc rfl, by show off + 3 ≤ 24; omega, fun h k hk => ?_⟩
    have e : ajLen h 328 = 24 := ajLenC rfl
    rw [e]
    have hk : k < 3 := hk
    omega
theorem S152_45 {B : Nat → Nat} {L t off : Nat} {b : Bool} (ht : tgt t off b) : ∀ (F d : Nat) (h : ajH) (Q : Option Value → ajH → Prop) (M a : Nat) (R : Nat → Nat), ajShp h → MT B L 321 0 h → SC h → ajI h 320 10 = nI (tSk B L a) → a ≤ L → ajI h 320 11 = -1 → M < 2 ^ kLen b → pc4 M + F = kLen b → (∀ k, k < kLen b → ajI h t (off + k) = nI (R k)) →
    (∀ h', iPost B L t off b (pIt B L (ajStr (kQ b)) (kLo b) (kHi b) F M R a) h h' → Q none h') →
    ajEv (d + 5) 152 45 [.ref 320, .int (kI b), .ref t, .int (nI off), .ref (kQ b), .int (nI M), .int (ixG (tCh B L (tSk B L a)) (ajStr (kQ b)) 0)] [] h Q := by
  have hq := kQ_tx b
  have hk := kLen_le b
  have htk := tgt_k ht
  have htne : ¬ t = 320 ∧ ¬ t = 321 ∧ ¬ t = 322 ∧ t < 1000 := by rcases ht with ⟨rfl, _⟩ | ⟨rfl, _⟩ <;> omega
  intro F
  induction F with
  | zero =>
    intro d h Q M a R hs ct sc ha hl hf hM hp hR H
    have h7 := tSk_le B hl
    have c2 := ct.2.2.2.1
    refine W152_45 hs htk.1 (ajStr_ki _ hq).1 ?_
    rcases ixG_in (tCh B L (tSk B L a)) (ajStr (kQ b)) 0 with e | ⟨w, _, hw, e⟩
    · rw [e, if_pos rfl]
      exact H h ⟨FR_refl _ _, Or.inl ⟨rfl, hf, ha, hR⟩⟩
    · rw [kQ_len, Nat.zero_add] at hw
      have en : ¬ nI w = -1 := by rw [sr_neg1 (by omega)]; exact fun z => z
      have el := ix_let (b := b) (x := tCh B L (tSk B L a)) (by rw [e]; exact en)
      rw [e, if_neg en, hf, if_neg (fun z => z rfl)]
      refine S154 hs (by omega) ?_
      rw [m4_hb (k16 hM) (by omega), decide_eq_true (m4_all hM hw (by omega))]
      intro _
      refine ⟨_, rfl, ?_⟩
      rw [if_neg (by decide)]
      refine S151 hs ha hf ?_
      intro _
      refine ⟨_, rfl, H _ ⟨FR_SI h (Or.inl P10f), Or.inr ⟨?_, rfl⟩⟩⟩
      unfold eOK pIt
      rw [decide_eq_false el.1, decide_eq_false el.2]; rfl
  | succ F ih =>
    intro d h Q M a R hs ct sc ha hl hf hM hp hR H
    have h7 := tSk_le B hl
    have c2 := ct.2.2.2.1
    refine W152_45 hs htk.1 (ajStr_ki _ hq).1 ?_
    unfold pIt at H
    rcases ixG_in (tCh B L (tSk B L a)) (ajStr (kQ b)) 0 with e | ⟨w, _, hw, e⟩
    · rw [if_pos e] at H
      rw [e, if_pos rfl]
      exact H h ⟨FR_refl _ _, Or.inl ⟨rfl, hf, ha, hR⟩⟩
    · rw [kQ_len, Nat.zero_add] at hw
      have en : ¬ nI w = -1 := by rw [sr_neg1 (by omega)]; exact fun z => z
      have hlt := ixG_lt (B := B) (L := L) (a := tSk B L a) hq (by rw [e]; exact en)
      rw [e] at H
      simp only [if_neg en, sr_N (show w < 2147483648 by omega)] at H
      rw [e, if_neg en, hf, if_neg (fun z => z rfl)]
      refine S154 hs (by omega) ?_
      rw [m4_hb (k16 hM) (by omega)]
      intro _
      refine ⟨_, rfl, ?_⟩
      by_cases hb : M / 2 ^ w % 2 = 1
      · simp only [if_pos hb] at H
        rw [decide_eq_true hb, if_neg (by decide)]
        refine S151 hs ha hf ?_
        intro _
        exact ⟨_, rfl, H _ ⟨FR_SI h (Or.inl P10f), Or.inr ⟨rfl, rfl⟩⟩⟩
      · simp only [if_neg hb] at H
        rw [decide_eq_false hb, if_pos (by decide)]
        rintro _ rfl
        rw [ha, nI_1]
        have f1 : FR h (ajSI h 320 10 (nI (tSk B L a + 1))) P10 := FR_SI h P10a
        refine S155 hs (by omega) ?_
        intro s1
        refine ⟨_, rfl, ?_⟩
        refine S156 s1 (by omega) ?_
        intro _
        refine ⟨_, rfl, ?_⟩
        have hlo := kLo_le b w
        have hhi := kHi_le b w
        have hn := tNr_gd (B := B) (L := L) (k := 2) (lo := kLo b w) (hi := kHi b w) (a := tSk B L a + 1) (by omega) (by omega)
        refine S157 (a := tSk B L a + 1) s1 (MT_10 ct f1) rfl (by omega) hf (by omega) (by omega) ?_
        intro h3 x3 p3 s3
        refine ⟨_, rfl, ?_⟩
        rw [sr_add, sr_in (by omega), sr_N (by omega)]
        refine ⟨htk.2.2 h3 w hw, ?_⟩
        rintro _ rfl
        have f3 : FR h h3 P10 := FR_trans f1 p3.1
        generalize tNr B L 2 (kLo b w) (kHi b w) (tSk B L a + 1) = r at H hn p3
        have f4 : FR h (ajSI h3 t (off + w) x3) (fun o j => P10 o j ∨ o = t ∧ off ≤ j ∧ j < off + kLen b) := FR_trans (FR_mono f3 (fun o j z => Or.inl z)) (FR_SI _ (Or.inr ⟨rfl, by omega, by omega⟩))
        have e11 : ajI (ajSI h3 t (off + w) x3) 320 11 = ajI h3 320 11 := by rw [ajI_SI, if_neg (by omega)]
        have e10 : ajI (ajSI h3 t (off + w) x3) 320 10 = ajI h3 320 10 := by rw [ajI_SI, if_neg (by omega)]
        have em := m4_set (k16 hM) (show w < 4 by omega) hb
        have ct4 : MT B L 321 0 (ajSI h3 t (off + w) x3) := MT_FR ct f4 (by unfold P10; omega) (by unfold P10; omega) (by unfold P10; omega) (fun j => ⟨by unfold P10; omega, by unfold P10; omega⟩)
        rw [em.1, e11]
        cases hok : r.1 with
        | false =>
          simp only [hok, Bool.false_eq_true, if_false] at H
          have q3 := p3.2.2 hok
          have hr := hn.1
          rw [q3.1, if_pos (by rw [sr_neg1 (by omega)]; exact fun z => z)]
          refine W152_45 s3 htk.1 (ajStr_ki _ hq).1 ?_
          rw [if_neg en, e11, q3.1, if_pos (by rw [sr_neg1 (by omega)]; exact fun z => z)]
          exact H _ ⟨f4, Or.inr ⟨rfl, e11.trans q3.1⟩⟩
        | true =>
          simp only [hok, if_true] at H
          have q3 := p3.2.1 hok
          have hv := hn.2 hok
          rw [q3.2.1, if_neg (fun z => z rfl)]
          refine S150 (a := r.2.1) s3 ct4 (e10.trans q3.1) hn.1 ?_
          intro s4
          refine ⟨_, rfl, ?_⟩
          have f5 : FR h (ajSI (ajSI h3 t (off + w) x3) 320 10 (nI (tSk B L r.2.1))) (fun o j => P10 o j ∨ o = t ∧ off ≤ j ∧ j < off + kLen b) := FR_trans f4 (FR_SI _ (Or.inl P10a))
          have sc5 : SC (ajSI (ajSI h3 t (off + w) x3) 320 10 (nI (tSk B L r.2.1))) := SC_FR sc f5 (fun o j ho => by unfold P10; omega)
          have ct5 := MT_10 ct4 (FR_SI (ajSI h3 t (off + w) x3) (v := nI (tSk B L r.2.1)) P10a)
          refine S153 s4 sc5 hq ?_
          intro s5
          refine ⟨_, rfl, ?_⟩
          refine ih d _ Q (M + 2 ^ w) r.2.1 (fun k => if k = w then r.2.2 else R k) s5 ct5 sc5 rfl hn.1 (by rw [ajI_SI, if_neg (by omega), e11]; exact q3.2.1) (m4_lt hM hw hb) (by omega) ?_ ?_
          · intro k hk2
            rw [ajI_SI, if_neg (by omega), ajI_SI]
            by_cases ek : k = w
            · rw [if_pos ⟨rfl, by omega⟩, if_pos ek]; exact q3.2.2
            · rw [if_neg (by omega), if_neg ek]
              exact (FR_I f3 (by unfold P10; omega)).trans (hR k hk2)
          · intro h' p
            exact H h' ⟨FR_trans f5 p.1, p.2⟩
theorem S152_3 {B : Nat → Nat} {L t off : Nat} {b : Bool} (ht : tgt t off b) : ∀ (n d i : Nat) (h : ajH) (Q : Option Value → ajH → Prop) (u6 : Value) (a : Nat), i + n = kLen b → ajShp h → MT B L 321 0 h → SC h → ajI h 320 10 = nI a → a ≤ L → ajI h 320 11 = -1 → (∀ k, k < i → ajI h t (off + k) = nI (kUs b k)) →
    (∀ h', iPost B L t off b (pIt B L (ajStr (kQ b)) (kLo b) (kHi b) (kLen b) 0 (kUs b) a) h h' → Q none h') →
    ajEv (d + 5) 152 3 [.ref 320, .int (kI b), .ref t, .int (nI off), .ref (kQ b), .int (nI i), u6] [] h Q := by
  have hq := kQ_tx b
  have hk := kLen_le b
  have htk := tgt_k ht
  have htne : ¬ t = 320 ∧ ¬ t = 321 ∧ ¬ t = 322 ∧ t < 1000 := by rcases ht with ⟨rfl, _⟩ | ⟨rfl, _⟩ <;> omega
  intro n
  induction n with
  | zero =>
    intro d i h Q u6 a hi hs ct sc ha hl hf hR H
    refine W152_3 hs htk.1 (ajStr_ki _ hq).1 ?_
    refine S250 hs sc hq ?_
    intro _
    refine ⟨_, rfl, ?_⟩
    rw [kQ_len, if_pos (by rw [sr_le (by omega) (by omega)]; omega)]
    refine S150 hs ct ha hl ?_
    intro s1
    refine ⟨_, rfl, ?_⟩
    have f1 : FR h (ajSI h 320 10 (nI (tSk B L a))) P10 := FR_SI h P10a
    refine S153 s1 (SC_10 sc f1) hq ?_
    intro s2
    refine ⟨_, rfl, ?_⟩
    refine S152_45 ht (kLen b) d _ Q 0 a (kUs b) s2 (MT_10 ct f1) (SC_10 sc f1) rfl hl hf (Nat.pos_of_ne_zero (fun z => by have := Nat.one_le_two_pow (n := kLen b); omega)) (by rw [show pc4 0 = 0 from rfl]; omega) (fun k hk2 => (FR_I f1 (by unfold P10; omega)).trans (hR k (by omega))) ?_
    intro h' p
    exact H h' ⟨FR_trans (FR_mono f1 (fun o j z => Or.inl z)) p.1, p.2⟩
  | succ n ih =>
    intro d i h Q u6 a hi hs ct sc ha hl hf hR H
    refine W152_3 hs htk.1 (ajStr_ki _ hq).1 ?_
    refine S250 hs sc hq ?_
    intro _
    refine ⟨_, rfl, ?_⟩
    rw [kQ_len, if_neg (by rw [sr_le (by omega) (by omega)]; omega)]
    refine S148 hs (by omega) ?_
    intro _
    refine ⟨_, rfl, ?_⟩
    rw [sr_add, sr_in (by omega), sr_N (by omega), nI_1]
    refine ⟨htk.2.2 h i (by omega), ?_⟩
    rintro _ rfl
    have f1 : FR h (ajSI h t (off + i) (nI (kUs b i))) (fun o j => P10 o j ∨ o = t ∧ off ≤ j ∧ j < off + kLen b) := FR_SI h (Or.inr ⟨rfl, by omega, by omega⟩)
    refine ih d (i + 1) (ajSI h t (off + i) (nI (kUs b i))) Q _ a (by omega) hs (MT_FR ct f1 (by unfold P10; omega) (by unfold P10; omega) (by unfold P10; omega) (fun j => ⟨by unfold P10; omega, by unfold P10; omega⟩)) (SC_FR sc f1 (fun o j ho => by unfold P10; omega)) (by rw [ajI_SI, if_neg (by omega)]; exact ha) hl (by rw [ajI_SI, if_neg (by omega)]; exact hf) ?_ ?_
    · intro k hk2
      rw [ajI_SI]
      by_cases ek : k = i
      · rw [if_pos ⟨rfl, by omega⟩, ek]
      · rw [if_neg (by omega)]
        exact hR k (by omega)
    · intro h' p
      exact H h' ⟨FR_trans f1 p.1, p.2⟩
theorem S152 {B : Nat → Nat} {L t off d a : Nat} {b : Bool} {h : ajH} {Q : Option Value → ajH → Prop} (ht : tgt t off b) (hs : ajShp h) (ct : MT B L 321 0 h) (sc : SC h) (ha : ajI h 320 10 = nI a) (hl : a ≤ L) (hf : ajI h 320 11 = -1)
    (H : ∀ h', iPost B L t off b (rIt B L b a) h h' → Q none h') : ajEv (d + 5) 152 0 [.ref 320, .int (kI b), .ref t, .int (nI off), .ref (kQ b), ajU, ajU] [] h Q := by
  refine W152_0 hs (ajKwi (tgt_k ht).1) (ajStr_ki _ (kQ_tx b)).1 ?_
  exact S152_3 ht (kLen b) d 0 h Q _ a (by omega) hs ct sc ha hl hf (fun k hk => absurd hk (by omega)) H
/-! clauses -/
def PM (o j : Nat) : Prop := o = 320 ∧ (j = 5 ∨ j = 8 ∨ j = 9 ∨ j = 10 ∨ j = 11 ∨ j = 12 ∨ j = 25 ∨ j = 27) ∨ o = 326 ∨ o = 328
def PN (o j : Nat) : Prop := o = 320 ∧ (j = 10 ∨ j = 11 ∨ j = 12 ∨ j = 25 ∨ j = 27) ∨ o = 326 ∨ o = 328
theorem PN_M : ∀ o j, PN o j → PM o j := by unfold PN PM; omega
/-- the reference's wheel as it has been read so far -/
def MW (h : ajH) (z : Nat) (RU : Nat → Nat) (FO : Nat → Nat → Nat) : Prop := ajI h 320 25 = nI z ∧ (∀ j, j < 4 → ajI h 326 j = nI (RU j)) ∧ ∀ k, k < z → ∀ j, j < 3 → ajI h 328 (3 * k + j) = nI (FO k j)
theorem MT_N {B : Nat → Nat} {L : Nat} {h h' : ajH} (c : MT B L 321 0 h) (f : FR h h' PN) : MT B L 321 0 h' := MT_FR c f (by unfold PN; omega) (by unfold PN; omega) (by unfold PN; omega) (fun j => ⟨by unfold PN; omega, by unfold PN; omega⟩)
theorem SC_N {h h' : ajH} (c : SC h) (f : FR h h' PN) : SC h' := SC_FR c f (fun o j ho => by unfold PN; omega)
/-- what a clause of the reference leaves: a clause that goes, or the fault -/
def qPost (B : Nat → Nat) (L : Nat) (fl : Bool) (z : Nat) (RU : Nat → Nat) (FO : Nat → Nat → Nat) (a : Nat) (h h' : ajH) : Prop := FR h h' PN ∧
  if tCh B L (tSk B L a) = 115 ∧ fl = false then (ajI h' 320 27 = 1 ∧ MW h' z (rIt B L false (tSk B L a + 1)).2.2 FO ∧ ajI h' 320 11 = -1 ∧ (rIt B L false (tSk B L a + 1)).1 = true ∧ ajI h' 320 10 = nI (rIt B L false (tSk B L a + 1)).2.1 ∨ eOK B L (rIt B L false (tSk B L a + 1)) = false ∧ ajI h' 320 11 = nI (rIt B L false (tSk B L a + 1)).2.1)
  else if tCh B L (tSk B L a) = 107 ∧ z < 8 then (ajI h' 320 27 = flg fl ∧ MW h' (z + 1) RU (fun k => if k = z then (rIt B L true (tSk B L a + 1)).2.2 else FO k) ∧ ajI h' 320 11 = -1 ∧ (rIt B L true (tSk B L a + 1)).1 = true ∧ ajI h' 320 10 = nI (rIt B L true (tSk B L a + 1)).2.1 ∨ eOK B L (rIt B L true (tSk B L a + 1)) = false ∧ ajI h' 320 11 = nI (rIt B L true (tSk B L a + 1)).2.1)
  else ajI h' 320 11 = nI (tSk B L a)
theorem S149 {B : Nat → Nat} {L d z a : Nat} {fl : Bool} {RU : Nat → Nat} {FO : Nat → Nat → Nat} {h : ajH} {Q : Option Value → ajH → Prop} (hs : ajShp h) (ct : MT B L 321 0 h) (sc : SC h) (ha : ajI h 320 10 = nI a) (hl : a ≤ L) (hf : ajI h 320 11 = -1) (hfl : ajI h 320 27 = flg fl) (mw : MW h z RU FO) (hz : z ≤ 8)
    (H : ∀ h', qPost B L fl z RU FO a h h' → Q none h') : ajEv (d + 6) 149 0 [.ref 320, ajU, ajU] [] h Q := by
  have h7 := tSk_le B hl
  refine W149_0 hs ?_
  refine S150 hs ct ha hl ?_
  intro s1
  refine ⟨_, rfl, ?_⟩
  have f1 : FR h (ajSI h 320 10 (nI (tSk B L a))) P10 := FR_SI h P10a
  have ct1 := MT_10 ct f1
  have sc1 := SC_10 sc f1
  unfold qPost at H
  -- nothing that goes
  have hbad : ¬ (tCh B L (tSk B L a) = 115 ∧ fl = false) → ¬ (tCh B L (tSk B L a) = 107 ∧ z < 8) → ∀ (u2 : Value), ajEv (d + 6) 149 38 [.ref 320, .int (tCh B L (tSk B L a)), u2] [.int 0] (ajSI h 320 10 (nI (tSk B L a))) Q := by
    intro n1 n2 u2
    simp only [if_neg n1, if_neg n2] at H
    refine W149_38 s1 ?_
    rw [if_neg (by decide)]
    refine S151 (a := tSk B L a) s1 rfl hf ?_
    intro _
    exact ⟨_, rfl, H _ ⟨FR_trans (FR_mono f1 (fun o j y => by unfold P10 at y; unfold PN; omega)) (FR_SI _ (Or.inl ⟨rfl, by omega⟩)), rfl⟩⟩
  have h18 : ¬ (tCh B L (tSk B L a) = 115 ∧ fl = false) → ∀ (u2 : Value), ajEv (d + 6) 149 18 [.ref 320, .int (tCh B L (tSk B L a)), u2] [] (ajSI h 320 10 (nI (tSk B L a))) Q := by
    intro n1 u2
    refine W149_18 s1 ?_
    by_cases e1 : tCh B L (tSk B L a) = 107
    · rw [if_neg (fun y => y e1), show ajI (ajSI h 320 10 (nI (tSk B L a))) 320 25 = nI z from mw.1]
      by_cases e2 : z < 8
      · rw [if_neg (by rw [sl_8, sr_le (by omega) (by omega)]; omega)]
        simp only [if_neg n1, if_pos (show tCh B L (tSk B L a) = 107 ∧ z < 8 from ⟨e1, e2⟩)] at H
        have hlt := tCh_lt e1 (by decide)
        refine W149_38 s1 ?_
        rw [if_pos (by decide)]
        rintro _ rfl
        rw [ajSI_SI, ajI_SI, if_pos (show ¬ tCh B L (tSk B L a) = 115 by rw [e1]; decide), if_pos ⟨rfl, rfl⟩, nI_1]
        rintro _ rfl
        rw [show ajI (ajSI h 320 10 (nI (tSk B L a + 1))) 320 25 = nI z from mw.1, nI_1]
        have ez : (3 : Int32) * (ajI (ajSI (ajSI h 320 10 (nI (tSk B L a + 1))) 320 25 (nI (z + 1))) 320 25 - 1) = nI (3 * z) := by
          rw [ajI_SI, if_pos ⟨rfl, rfl⟩, sl_1, sr_sub (by omega), sl_3, sr_mul, Nat.add_sub_cancel]
        rw [ez, e1]
        have f2 : FR h (ajSI (ajSI h 320 10 (nI (tSk B L a + 1))) 320 25 (nI (z + 1))) PN := FR_trans (FR_SI h (Or.inl ⟨rfl, by omega⟩)) (FR_SI _ (Or.inl ⟨rfl, by omega⟩))
        refine S152 (b := true) (t := 328) (off := 3 * z) (a := tSk B L a + 1) (Or.inr ⟨rfl, by omega, rfl⟩) s1 (MT_N ct f2) (SC_N sc f2) rfl (by omega) hf ?_
        intro h3 p3 _
        refine ⟨rfl, ?_⟩
        have f3 : FR (ajSI (ajSI h 320 10 (nI (tSk B L a + 1))) 320 25 (nI (z + 1))) h3 PN := FR_mono p3.1 (fun o j y => by unfold P10 at y; unfold PN; omega)
        refine H h3 ⟨FR_trans f2 f3, ?_⟩
        rcases p3.2 with ⟨r1, r2, r3, r4⟩ | r1
        · refine Or.inl ⟨(FR_I p3.1 (by unfold P10; omega)).trans hfl, ⟨(FR_I p3.1 (by unfold P10; omega)), fun j hj => ?_, fun k hk j hj => ?_⟩, r2, r1, r3⟩
          · exact (FR_I p3.1 (by unfold P10; omega)).trans (mw.2.1 j hj)
          · by_cases e : k = z
            · subst e
              dsimp only
              rw [if_pos rfl]
              exact r4 j hj
            · dsimp only
              rw [if_neg e]
              exact (FR_I p3.1 (by unfold P10; have e3 : kLen true = 3 := rfl; omega)).trans (mw.2.2 k (by omega) j hj)
        · exact Or.inr r1
      · rw [if_pos (by rw [sl_8, sr_le (by omega) (by omega)]; omega)]
        exact hbad n1 (fun y => e2 y.2) _
    · rw [if_pos e1]
      exact hbad n1 (fun y => e1 y.1) _
  by_cases e0 : tCh B L (tSk B L a) = 115
  · rw [if_neg (fun y => y e0), show ajI (ajSI h 320 10 (nI (tSk B L a))) 320 27 = flg fl from hfl]
    cases fl with
    | true =>
      rw [if_neg (by decide)]
      exact h18 (fun y => by (cases y.2)) _
    | false =>
      rw [if_pos (by decide)]
      clear h18 hbad
      have hlt := tCh_lt e0 (by decide)
      refine W149_38 s1 ?_
      rw [if_pos (by decide)]
      rintro _ rfl
      rw [ajSI_SI, ajI_SI, if_neg (show ¬ ¬ tCh B L (tSk B L a) = 115 from fun y => y e0), if_pos ⟨rfl, rfl⟩, nI_1]
      rintro _ rfl
      rw [e0]
      have f2 : FR h (ajSI (ajSI h 320 10 (nI (tSk B L a + 1))) 320 27 1) PN := FR_trans (FR_SI h (Or.inl ⟨rfl, by omega⟩)) (FR_SI _ (Or.inl ⟨rfl, by omega⟩))
      refine S152 (b := false) (t := 326) (off := 0) (a := tSk B L a + 1) (Or.inl ⟨rfl, rfl, rfl⟩) s1 (MT_N ct f2) (SC_N sc f2) rfl (by omega) hf ?_
      intro h3 p3 _
      refine ⟨rfl, ?_⟩
      have f3 : FR (ajSI (ajSI h 320 10 (nI (tSk B L a + 1))) 320 27 1) h3 PN := FR_mono p3.1 (fun o j y => by unfold P10 at y; unfold PN; omega)
      refine H h3 ⟨FR_trans f2 f3, ?_⟩
      rw [if_pos ⟨e0, rfl⟩]
      rcases p3.2 with ⟨r1, r2, r3, r4⟩ | r1
      · refine Or.inl ⟨FR_I p3.1 (by unfold P10; omega), ⟨(FR_I p3.1 (by unfold P10; omega)).trans mw.1, fun j hj => ?_, fun k hk j hj => ?_⟩, r2, r1, r3⟩
        · have z := r4 j hj
          rw [Nat.zero_add] at z
          exact z
        · exact (FR_I p3.1 (by unfold P10; omega)).trans (mw.2.2 k hk j hj)
      · exact Or.inr r1
  · rw [if_pos e0]
    exact h18 (fun y => e0 y.1) _
