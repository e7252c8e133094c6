/-! The tape of both sides: bytes are fed, the tape is cut. -/
/-- a byte of a number -/
def bv (v : Int32) (s : Nat) : Int32 := (v >>> (nI s &&& 31)) &&& 255
def byN (v : Int32) (s : Nat) : Nat := (bv v s).toBitVec.toNat
theorem hb_255 {i : Nat} (h : i < 32) : hb 255 i = decide (i < 8) := (by decide +kernel : ∀ i < 32, hb 255 i = decide (i < 8)) i h
theorem nI_toNat (x : Int32) : nI x.toBitVec.toNat = x := by
  apply Int32.toBitVec_inj.1
  show BitVec.ofNat 32 x.toBitVec.toNat = x.toBitVec
  rw [BitVec.ofNat_toNat]; simp
theorem bv_eq (v : Int32) (s : Nat) : bv v s = nI (byN v s) := (nI_toNat _).symm
theorem byN_lt (v : Int32) (s : Nat) : byN v s < 256 := by
  unfold byN bv
  rw [Int32.toBitVec_and, BitVec.toNat_and]
  have h : ((255 : Int32).toBitVec).toNat = 255 := by decide
  rw [h]
  exact Nat.lt_of_le_of_lt Nat.and_le_right (by omega)
theorem bv_u (v : Int32) {s : Nat} (hs : s ≤ 24) : (v.toUInt32 >>> ((nI s).toUInt32 &&& Int32.toUInt32 31)).toInt32 &&& 255 = bv v s := by
  have e := (by decide +kernel : ∀ s ≤ 24, (((nI s).toUInt32 &&& Int32.toUInt32 31).toBitVec % 32).toNat = s) s hs
  have e2 : (v.toUInt32 >>> ((nI s).toUInt32 &&& Int32.toUInt32 31)).toInt32 = nI (v.toBitVec.toNat / 2 ^ s) := by
    have h1 := pk_ushrN (n := v.toBitVec.toNat) (v.toBitVec.isLt) (nI s) s e
    rw [nI_toNat] at h1
    exact h1
  rw [e2]
  apply hb_ext
  intro i hi
  unfold bv
  rw [hb_and, hb_and, hb_255 hi]
  by_cases h8 : i < 8
  · rw [decide_eq_true h8, Bool.and_true, Bool.and_true]
    have e3 : hb (v >>> (nI s &&& 31)) i = v.toBitVec.getLsbD (s + i) := by
      show ((v >>> (nI s &&& 31)).toBitVec).getLsbD i = _
      rw [Int32.toBitVec_shiftRight, sr_shn (by omega)]
      have h2 : (BitVec.ofNat 32 s).toNat = s := by rw [BitVec.toNat_ofNat]; omega
      rw [BitVec.sshiftRight_eq', h2, BitVec.getLsbD_sshiftRight]
      have h3 : s + i < 32 := by omega
      simp [h3, hi]
    rw [e3]
    show (BitVec.ofNat 32 (v.toBitVec.toNat / 2 ^ s)).getLsbD i = _
    rw [BitVec.getLsbD_ofNat, ← Nat.shiftRight_eq_div_pow, Nat.testBit_shiftRight]
    simp [hi, BitVec.getLsbD, Nat.add_comm]
  · rw [decide_eq_false h8, Bool.and_false, Bool.and_false]
theorem i8_low (x : Int32) : (x &&& 255).toInt8 = x.toInt8 := by
  apply Int8.toBitVec_inj.1
  apply BitVec.eq_of_getLsbD_eq
  intro i hi
  have h2 : (255 : Int32).toBitVec.getLsbD i = true := (by decide +kernel : ∀ i < 8, (255 : Int32).toBitVec.getLsbD i = true) i hi
  have h4 : (x &&& 255).toBitVec.getLsbD i = x.toBitVec.getLsbD i := by
    show (x.toBitVec &&& (255 : Int32).toBitVec).getLsbD i = _
    rw [BitVec.getLsbD_and, h2, Bool.and_true]
  have h3 : i < 32 := by omega
  first
    | (show (((x &&& 255).toBitVec).signExtend 8).getLsbD i = (x.toBitVec.signExtend 8).getLsbD i; rw [BitVec.getLsbD_signExtend, BitVec.getLsbD_signExtend, if_pos h3, if_pos h3, h4])
    | (show (((x &&& 255).toBitVec).setWidth 8).getLsbD i = (x.toBitVec.setWidth 8).getLsbD i; rw [BitVec.getLsbD_setWidth, BitVec.getLsbD_setWidth, h4])
    | (simp [hi, h3, h4]; done)
theorem bv_b (v : Int32) (s : Nat) : vp_nar .byte ((v >>> (nI s &&& 31)).toInt8.toInt32) = (nI (byN v s)).toInt8.toInt32 := by
  rw [vp_nar_byte, ← bv_eq]
  unfold bv
  rw [i8_low]
  have h1 : ∀ y : Int8, y.toInt32.toInt8 = y := by
    intro y
    first | exact Int8.toInt8_toInt32 y | simp
  rw [h1]
abbrev TP : Type := (Nat → Nat) × Nat
def stp (T : TP) (b : Nat) : TP := if b = 0 then T else (fun k => if k = T.2 then b else T.1 k, T.2 + 1)
def tap (T : TP) (v : Int32) : TP := stp (stp (stp (stp T (byN v 24)) (byN v 16)) (byN v 8)) (byN v 0)
def one (b : Nat) : Nat := if b = 0 then 0 else 1
def bys (v : Int32) : Nat := one (byN v 24) + one (byN v 16) + one (byN v 8) + one (byN v 0)
theorem stp_len (T : TP) (b : Nat) : (stp T b).2 = T.2 + one b := by unfold stp one; split <;> rfl
theorem tap_len (T : TP) (v : Int32) : (tap T v).2 = T.2 + bys v := by unfold tap bys; rw [stp_len, stp_len, stp_len, stp_len]; omega
theorem one_le (b : Nat) : one b ≤ 1 := by unfold one; split <;> omega
theorem bys_le (v : Int32) : bys v ≤ 4 := by have := one_le (byN v 24); have := one_le (byN v 16); have := one_le (byN v 8); have := one_le (byN v 0); unfold bys; omega
def TC (T : TP) (h : ajH) : Prop := CT T.1 T.2 h
def TM (T : TP) (h : ajH) : Prop := ajI h 320 6 = nI T.2 ∧ T.2 ≤ 240 ∧ (∀ k, T.1 k < 256) ∧ ∀ k, k < T.2 → ajI h 321 k = (nI (T.1 k)).toInt8.toInt32
def PT (o j : Nat) : Prop := o = 2 ∧ j = 1 ∨ o = 3
def PU (o j : Nat) : Prop := o = 320 ∧ j = 6 ∨ o = 321
theorem TC_stp {T : TP} {h : ajH} {b : Nat} (c : TC T h) (hb : b < 256) (h0 : ¬ b = 0) (hl : T.2 < 240) : TC (stp T b) (ajSI (ajSI h 3 T.2 (nI b)) 2 1 (nI (T.2 + 1))) := by
  unfold stp
  rw [if_neg h0]
  refine ⟨rfl, by show T.2 + 1 ≤ 240; omega, fun k => ?_, fun k hk => ?_⟩
  · show (if k = T.2 then b else T.1 k) < 256
    split
    · exact hb
    · exact c.2.2.1 k
  · show ajI (ajSI (ajSI h 3 T.2 (nI b)) 2 1 (nI (T.2 + 1))) 3 k = nI (if k = T.2 then b else T.1 k)
    rw [ajI_SI, if_neg (by omega), ajI_SI]
    by_cases e : k = T.2
    · rw [if_pos ⟨rfl, e⟩, if_pos e]
    · rw [if_neg (by omega), if_neg e]
      have hk : k < T.2 + 1 := hk
      exact c.2.2.2 k (by omega)
theorem TM_stp {T : TP} {h : ajH} {b : Nat} (c : TM T h) (hb : b < 256) (h0 : ¬ b = 0) (hl : T.2 < 240) : TM (stp T b) (ajSI (ajSI h 321 T.2 ((nI b).toInt8.toInt32)) 320 6 (nI (T.2 + 1))) := by
  unfold stp
  rw [if_neg h0]
  refine ⟨rfl, by show T.2 + 1 ≤ 240; omega, fun k => ?_, fun k hk => ?_⟩
  · show (if k = T.2 then b else T.1 k) < 256
    split
    · exact hb
    · exact c.2.2.1 k
  · show ajI (ajSI (ajSI h 321 T.2 ((nI b).toInt8.toInt32)) 320 6 (nI (T.2 + 1))) 321 k = (nI (if k = T.2 then b else T.1 k)).toInt8.toInt32
    rw [ajI_SI, if_neg (by omega), ajI_SI]
    by_cases e : k = T.2
    · rw [if_pos ⟨rfl, e⟩, if_pos e]
    · rw [if_neg (by omega), if_neg e]
      have hk : k < T.2 + 1 := hk
      exact c.2.2.2 k (by omega)
theorem sh8 {s : Nat} (h : 8 ≤ s) : nI s + (-8) = nI (s - 8) := by
  rw [show (-8 : Int32) = -(nI 8) from rfl, ← Int32.sub_eq_add_neg]
  exact sr_sub h
theorem nI_by0 (v : Int32) (s : Nat) : (bv v s = 0) = (byN v s = 0) := by
  rw [bv_eq, sl_0, sr_eq (by have := byN_lt v s; omega) (by omega)]
/-- one step of the class's add -/
theorem S12_3 {d s : Nat} {h : ajH} {Q : Option Value → ajH → Prop} {T : TP} {v : Int32} {u3 : Value} (hs : ajShp h) (c : TC T h) (h24 : s ≤ 24) (hl : T.2 + one (byN v s) ≤ 240)
    (H : ∀ h' u3, ajShp h' → FR h h' PT → TC (stp T (byN v s)) h' → ajEv d 12 3 [.ref 2, .int v, .int (nI s + (-8)), u3] [] h' Q) : ajEv d 12 3 [.ref 2, .int v, .int (nI s), u3] [] h Q := by
  have hb := byN_lt v s
  refine W12_3 hs ?_
  rw [if_neg (by rw [sr_lt0 (by omega)]; exact fun z => z), bv_u v h24]
  by_cases h0 : byN v s = 0
  · rw [if_pos (by rw [nI_by0]; exact h0)]
    refine H h _ hs (FR_refl _ _) ?_
    unfold stp
    rw [if_pos h0]; exact c
  · have e1 : one (byN v s) = 1 := if_neg h0
    rw [e1] at hl
    have c1 := c.1
    rw [if_neg (by rw [nI_by0]; exact h0), c1, if_neg (by rw [sl_240, sr_le (by omega) (by omega)]; omega), sr_in (by omega), sr_N (by omega)]
    refine ⟨by omega, ?_⟩
    rintro _ rfl _ rfl
    rw [show ajI (ajSI h 3 T.2 (bv v s)) 2 1 = ajI h 2 1 from rfl, c1, nI_1, bv_eq]
    exact H _ _ hs (FR_trans (FR_SI h (P := PT) (Or.inr rfl)) (FR_SI _ (Or.inl ⟨rfl, rfl⟩))) (TC_stp c hb h0 (by omega))
theorem S12 {d : Nat} {h : ajH} {Q : Option Value → ajH → Prop} {T : TP} {v : Int32} (hs : ajShp h) (c : TC T h) (hl : T.2 + bys v ≤ 240) (H : ∀ h', ajShp h' → FR h h' PT → TC (tap T v) h' → Q none h') : ajEv d 12 0 [.ref 2, .int v, ajU, ajU] [] h Q := by
  have l1 := stp_len T (byN v 24)
  have l2 := stp_len (stp T (byN v 24)) (byN v 16)
  have l3 := stp_len (stp (stp T (byN v 24)) (byN v 16)) (byN v 8)
  unfold bys at hl
  refine W12_0 hs ?_
  refine S12_3 (s := 24) hs c (by omega) (by omega) ?_
  intro h1 u s1 f1 c1
  rw [sh8 (by omega)]
  refine S12_3 (s := 16) s1 c1 (by omega) (by omega) ?_
  intro h2 u s2 f2 c2
  rw [sh8 (by omega)]
  refine S12_3 (s := 8) s2 c2 (by omega) (by omega) ?_
  intro h3 u s3 f3 c3
  rw [sh8 (by omega)]
  refine S12_3 (s := 0) s3 c3 (by omega) (by omega) ?_
  intro h4 u s4 f4 c4
  refine W12_3 s4 ?_
  rw [if_pos (by decide)]
  exact H h4 s4 (FR_trans (FR_trans (FR_trans f1 f2) f3) f4) c4
theorem S142_3 {d s : Nat} {h : ajH} {Q : Option Value → ajH → Prop} {T : TP} {v : Int32} (hs : ajShp h) (c : TM T h) (h24 : s ≤ 24) (hl : T.2 + one (byN v s) ≤ 240)
    (H : ∀ h', ajShp h' → FR h h' PU → TM (stp T (byN v s)) h' → ajEv d 142 3 [.ref 320, .int v, .int (nI s + (-8))] [] h' Q) : ajEv d 142 3 [.ref 320, .int v, .int (nI s)] [] h Q := by
  have hb := byN_lt v s
  refine W142_3 hs ?_
  rw [if_neg (by rw [sr_lt0 (by omega)]; exact fun z => z), show (v >>> (nI s &&& 31)) &&& 255 = bv v s from rfl]
  by_cases h0 : byN v s = 0
  · rw [if_neg (fun z => z (by rw [nI_by0]; exact h0))]
    refine H h hs (FR_refl _ _) ?_
    unfold stp
    rw [if_pos h0]; exact c
  · have e1 : one (byN v s) = 1 := if_neg h0
    rw [e1] at hl
    have c1 := c.1
    rw [if_pos (by rw [nI_by0]; exact h0), c1, sr_in (by omega), sr_N (by omega)]
    refine ⟨by omega, ?_⟩
    rintro _ rfl _ rfl
    rw [bv_b, show ajI (ajSI h 321 T.2 ((nI (byN v s)).toInt8.toInt32)) 320 6 = ajI h 320 6 from rfl, c1, nI_1]
    exact H _ hs (FR_trans (FR_SI h (P := PU) (Or.inr rfl)) (FR_SI _ (Or.inl ⟨rfl, rfl⟩))) (TM_stp c hb h0 (by omega))
theorem S142 {d : Nat} {h : ajH} {Q : Option Value → ajH → Prop} {T : TP} {v : Int32} (hs : ajShp h) (c : TM T h) (hl : T.2 + bys v ≤ 240) (H : ∀ h', ajShp h' → FR h h' PU → TM (tap T v) h' → Q none h') : ajEv d 142 0 [.ref 320, .int v, ajU] [] h Q := by
  have l1 := stp_len T (byN v 24)
  have l2 := stp_len (stp T (byN v 24)) (byN v 16)
  have l3 := stp_len (stp (stp T (byN v 24)) (byN v 16)) (byN v 8)
  unfold bys at hl
  refine W142_0 hs ?_
  refine S142_3 (s := 24) hs c (by omega) (by omega) ?_
  intro h1 s1 f1 c1
  rw [sh8 (by omega)]
  refine S142_3 (s := 16) s1 c1 (by omega) (by omega) ?_
  intro h2 s2 f2 c2
  rw [sh8 (by omega)]
  refine S142_3 (s := 8) s2 c2 (by omega) (by omega) ?_
  intro h3 s3 f3 c3
  rw [sh8 (by omega)]
  refine S142_3 (s := 0) s3 c3 (by omega) (by omega) ?_
  intro h4 s4 f4 c4
  refine W142_3 s4 ?_
  rw [if_pos (by decide)]
  exact H h4 s4 (FR_trans (FR_trans (FR_trans f1 f2) f3) f4) c4
theorem S11_5 {d s c : Nat} {h : ajH} {Q : Option Value → ajH → Prop} {v : Int32} (hs : ajShp h) (h24 : s ≤ 24) (H : ajEv d 11 5 [.int v, .int (nI (c + one (byN v s))), .int (nI s + (-8))] [] h Q) : ajEv d 11 5 [.int v, .int (nI c), .int (nI s)] [] h Q := by
  refine W11_5 hs ?_
  rw [if_neg (by rw [sr_lt0 (by omega)]; exact fun z => z), bv_u v h24]
  unfold one at H
  by_cases h0 : byN v s = 0
  · rw [if_pos (by rw [nI_by0]; exact h0)]
    rw [if_pos h0] at H
    exact H
  · rw [if_neg (by rw [nI_by0]; exact h0), nI_1]
    rw [if_neg h0] at H
    exact H
theorem S11 {d : Nat} {h : ajH} {Q : Option Value → ajH → Prop} {v : Int32} (hs : ajShp h) (H : Q (some (.int (nI (bys v)))) h) : ajEv d 11 0 [.int v, ajU, ajU] [] h Q := by
  refine W11_0 hs ?_
  refine S11_5 (s := 24) (c := 0) hs (by omega) ?_
  rw [sh8 (by omega)]
  refine S11_5 (s := 16) hs (by omega) ?_
  rw [sh8 (by omega)]
  refine S11_5 (s := 8) hs (by omega) ?_
  rw [sh8 (by omega)]
  refine S11_5 (s := 0) hs (by omega) ?_
  refine W11_5 hs ?_
  rw [if_pos (by decide), show 0 + one (byN v 24) + one (byN v 16) + one (byN v 8) + one (byN v 0) = bys v by unfold bys; omega]
  exact H
theorem S141_5 {d s c : Nat} {h : ajH} {Q : Option Value → ajH → Prop} {v : Int32} (hs : ajShp h) (h24 : s ≤ 24) (H : ajEv d 141 5 [.int v, .int (nI (c + one (byN v s))), .int (nI s + (-8))] [] h Q) : ajEv d 141 5 [.int v, .int (nI c), .int (nI s)] [] h Q := by
  refine W141_5 hs ?_
  rw [if_neg (by rw [sr_lt0 (by omega)]; exact fun z => z), show (v >>> (nI s &&& 31)) &&& 255 = bv v s from rfl]
  unfold one at H
  by_cases h0 : byN v s = 0
  · rw [if_pos (by rw [nI_by0]; exact h0), show nI c + 0 = nI (c + 0) from nI_add c 0]
    rw [if_pos h0] at H
    exact H
  · rw [if_neg (by rw [nI_by0]; exact h0), nI_1]
    rw [if_neg h0] at H
    exact H
theorem S141 {d : Nat} {h : ajH} {Q : Option Value → ajH → Prop} {v : Int32} (hs : ajShp h) (H : Q (some (.int (nI (bys v)))) h) : ajEv d 141 0 [.int v, ajU, ajU] [] h Q := by
  refine W141_0 hs ?_
  refine S141_5 (s := 24) (c := 0) hs (by omega) ?_
  rw [sh8 (by omega)]
  refine S141_5 (s := 16) hs (by omega) ?_
  rw [sh8 (by omega)]
  refine S141_5 (s := 8) hs (by omega) ?_
  rw [sh8 (by omega)]
  refine S141_5 (s := 0) hs (by omega) ?_
  refine W141_5 hs ?_
  rw [if_pos (by decide), show 0 + one (byN v 24) + one (byN v 16) + one (byN v 8) + one (byN v 0) = bys v by unfold bys; omega]
  exact H
/-- a feed: the tape behind it, its answer -/
def fed (T : TP) (a b c d e : Int32) : TP := if T.2 + (bys a + bys b + bys c + bys d + bys e) ≤ 240 then tap (tap (tap (tap (tap T a) b) c) d) e else T
def fedA (T : TP) (a b c d e : Int32) : Int32 := if T.2 + (bys a + bys b + bys c + bys d + bys e) ≤ 240 then nI (T.2 + (bys a + bys b + bys c + bys d + bys e)) else -1
theorem S10 {d : Nat} {h : ajH} {Q : Option Value → ajH → Prop} {T : TP} {v1 v2 v3 v4 v5 : Int32} (hs : ajShp h) (c : TC T h) (H : ∀ h', FR h h' PT → TC (fed T v1 v2 v3 v4 v5) h' → Q (some (.int (fedA T v1 v2 v3 v4 v5))) h') : ajEv (d + 1) 10 0 [.ref 1, .int v1, .int v2, .int v3, .int v4, .int v5, ajU] [] h Q := by
  have b1 := bys_le v1
  have b2 := bys_le v2
  have b3 := bys_le v3
  have b4 := bys_le v4
  have b5 := bys_le v5
  have c2 := c.2.1
  unfold fed fedA at H
  refine W10_0 hs ?_
  refine S11 hs ?_
  intro _
  refine ⟨_, rfl, ?_⟩
  refine S11 hs ?_
  intro _
  refine ⟨_, rfl, ?_⟩
  refine S11 hs ?_
  intro _
  refine ⟨_, rfl, ?_⟩
  refine S11 hs ?_
  intro _
  refine ⟨_, rfl, ?_⟩
  refine S11 hs ?_
  intro _
  refine ⟨_, rfl, ?_⟩
  rw [sr_add, sr_add, sr_add, sr_add, c.1, sr_add]
  by_cases hl : T.2 + (bys v1 + bys v2 + bys v3 + bys v4 + bys v5) ≤ 240
  · rw [if_pos (by rw [sl_240, sr_le (by omega) (by omega)]; exact hl)]
    simp only [if_pos hl] at H
    have l1 := tap_len T v1
    have l2 := tap_len (tap T v1) v2
    have l3 := tap_len (tap (tap T v1) v2) v3
    have l4 := tap_len (tap (tap (tap T v1) v2) v3) v4
    have l5 := tap_len (tap (tap (tap (tap T v1) v2) v3) v4) v5
    refine S12 hs c (by omega) ?_
    intro h1 s1 f1 c1 _
    refine ⟨rfl, ?_⟩
    refine S12 s1 c1 (by omega) ?_
    intro h2 s2 f2 c2 _
    refine ⟨rfl, ?_⟩
    refine S12 s2 c2 (by omega) ?_
    intro h3 s3 f3 c3 _
    refine ⟨rfl, ?_⟩
    refine S12 s3 c3 (by omega) ?_
    intro h4 s4 f4 c4 _
    refine ⟨rfl, ?_⟩
    refine S12 s4 c4 (by omega) ?_
    intro h5 s5 f5 c5 _
    refine ⟨rfl, ?_⟩
    rw [c5.1, l5, l4, l3, l2, l1, show T.2 + bys v1 + bys v2 + bys v3 + bys v4 + bys v5 = T.2 + (bys v1 + bys v2 + bys v3 + bys v4 + bys v5) by omega]
    exact H h5 (FR_trans (FR_trans (FR_trans (FR_trans f1 f2) f3) f4) f5) c5
  · rw [if_neg (by rw [sl_240, sr_le (by omega) (by omega)]; exact hl)]
    simp only [if_neg hl] at H
    exact H h (FR_refl _ _) c
def PU0 (o j : Nat) : Prop := o = 320 ∧ (j = 0 ∨ j = 6) ∨ o = 321
theorem PU_0 : ∀ o j, PU o j → PU0 o j := by unfold PU PU0; omega
theorem S140 {d : Nat} {h : ajH} {Q : Option Value → ajH → Prop} {T : TP} {v1 v2 v3 v4 v5 : Int32} (hs : ajShp h) (c : TM T h) (H : ∀ h', FR h h' PU0 → TM (fed T v1 v2 v3 v4 v5) h' → Q (some (.int (fedA T v1 v2 v3 v4 v5))) h') : ajEv (d + 1) 140 0 [.ref 320, .int v1, .int v2, .int v3, .int v4, .int v5] [] h Q := by
  have b1 := bys_le v1
  have b2 := bys_le v2
  have b3 := bys_le v3
  have b4 := bys_le v4
  have b5 := bys_le v5
  have c2 := c.2.1
  unfold fed fedA at H
  refine W140_0 hs ?_
  rintro _ rfl
  have f0 : FR h (ajSI h 320 0 0) PU0 := FR_SI h (Or.inl ⟨rfl, Or.inl rfl⟩)
  have c0 : TM T (ajSI h 320 0 0) := c
  refine S141 hs ?_
  intro s0
  refine ⟨_, rfl, ?_⟩
  refine S141 s0 ?_
  intro _
  refine ⟨_, rfl, ?_⟩
  refine S141 s0 ?_
  intro _
  refine ⟨_, rfl, ?_⟩
  refine S141 s0 ?_
  intro _
  refine ⟨_, rfl, ?_⟩
  refine S141 s0 ?_
  intro _
  refine ⟨_, rfl, ?_⟩
  rw [c0.1, sr_add, sr_add, sr_add, sr_add, sr_add, show T.2 + bys v1 + bys v2 + bys v3 + bys v4 + bys v5 = T.2 + (bys v1 + bys v2 + bys v3 + bys v4 + bys v5) by omega]
  by_cases hl : T.2 + (bys v1 + bys v2 + bys v3 + bys v4 + bys v5) ≤ 240
  · rw [if_pos (by rw [sl_240, sr_le (by omega) (by omega)]; exact hl)]
    simp only [if_pos hl] at H
    have l1 := tap_len T v1
    have l2 := tap_len (tap T v1) v2
    have l3 := tap_len (tap (tap T v1) v2) v3
    have l4 := tap_len (tap (tap (tap T v1) v2) v3) v4
    have l5 := tap_len (tap (tap (tap (tap T v1) v2) v3) v4) v5
    refine S142 s0 c0 (by omega) ?_
    intro h1 s1 f1 c1 _
    refine ⟨rfl, ?_⟩
    refine S142 s1 c1 (by omega) ?_
    intro h2 s2 f2 c2 _
    refine ⟨rfl, ?_⟩
    refine S142 s2 c2 (by omega) ?_
    intro h3 s3 f3 c3 _
    refine ⟨rfl, ?_⟩
    refine S142 s3 c3 (by omega) ?_
    intro h4 s4 f4 c4 _
    refine ⟨rfl, ?_⟩
    refine S142 s4 c4 (by omega) ?_
    intro h5 s5 f5 c5 _
    refine ⟨rfl, ?_⟩
    rw [c5.1, l5, l4, l3, l2, l1, show T.2 + bys v1 + bys v2 + bys v3 + bys v4 + bys v5 = T.2 + (bys v1 + bys v2 + bys v3 + bys v4 + bys v5) by omega]
    exact H h5 (FR_trans f0 (FR_mono (FR_trans (FR_trans (FR_trans (FR_trans f1 f2) f3) f4) f5) PU_0)) c5
  · rw [if_neg (by rw [sl_240, sr_le (by omega) (by omega)]; exact hl)]
    simp only [if_neg hl] at H
    exact H _ f0 c0
/-- the tape is cut -/
def cut (T : TP) (v : Int32) : TP := if v < 0 then T else if v ≤ nI T.2 then (T.1, v.toNatClampNeg) else T
def cutA (T : TP) (v : Int32) : Int32 := if v < 0 then 0 else if v ≤ nI T.2 then 1 else 0
theorem cut_len {T : TP} {v : Int32} (h0 : ¬ v < 0) (h1 : v ≤ nI T.2) (h2 : T.2 ≤ 240) : v.toNatClampNeg ≤ T.2 ∧ v = nI v.toNatClampNeg := by
  obtain ⟨j, hj, rfl⟩ := sr_of h0
  rw [sr_le (by omega) (by omega)] at h1
  rw [sr_N (by omega)]
  exact ⟨h1, rfl⟩
theorem S13 {d : Nat} {h : ajH} {Q : Option Value → ajH → Prop} {T : TP} {v : Int32} (hs : ajShp h) (c : TC T h) (H : ∀ h', FR h h' PT → TC (cut T v) h' → Q (some (.int (cutA T v))) h') : ajEv d 13 0 [.ref 1, .int v] [] h Q := by
  have c2 := c.2.1
  unfold cut cutA at H
  refine W13_0 hs ?_
  by_cases h0 : v < 0
  · rw [if_pos h0]
    simp only [if_pos h0] at H
    exact H h (FR_refl _ _) c
  · rw [if_neg h0, c.1]
    simp only [if_neg h0] at H
    by_cases h1 : v ≤ nI T.2
    · rw [if_pos h1]
      simp only [if_pos h1] at H
      have e := cut_len h0 h1 c2
      rintro _ rfl
      refine H _ (FR_SI h (Or.inl ⟨rfl, rfl⟩)) ⟨?_, by show v.toNatClampNeg ≤ 240; omega, c.2.2.1, fun k hk => c.2.2.2 k (by have hk : k < v.toNatClampNeg := hk; omega)⟩
      show (if 2 = 2 ∧ 1 = 1 then v else ajI h 2 1) = nI v.toNatClampNeg
      rw [if_pos ⟨rfl, rfl⟩]; exact e.2
    · rw [if_neg h1]
      simp only [if_neg h1] at H
      exact H h (FR_refl _ _) c
theorem S143 {d : Nat} {h : ajH} {Q : Option Value → ajH → Prop} {T : TP} {v : Int32} (hs : ajShp h) (c : TM T h) (H : ∀ h', FR h h' PU0 → TM (cut T v) h' → Q (some (.int (cutA T v))) h') : ajEv d 143 0 [.ref 320, .int v] [] h Q := by
  have c2 := c.2.1
  unfold cut cutA at H
  refine W143_0 hs ?_
  rintro _ rfl
  have f0 : FR h (ajSI h 320 0 0) PU0 := FR_SI h (Or.inl ⟨rfl, Or.inl rfl⟩)
  have c0 : TM T (ajSI h 320 0 0) := c
  by_cases h0 : v < 0
  · rw [if_pos h0]
    simp only [if_pos h0] at H
    exact H _ f0 c0
  · rw [if_neg h0, c0.1]
    simp only [if_neg h0] at H
    by_cases h1 : v ≤ nI T.2
    · rw [if_pos h1]
      simp only [if_pos h1] at H
      have e := cut_len h0 h1 c2
      rintro _ rfl
      refine H _ (FR_trans f0 (FR_SI _ (Or.inl ⟨rfl, Or.inr rfl⟩))) ⟨?_, by show v.toNatClampNeg ≤ 240; omega, c.2.2.1, fun k hk => c.2.2.2 k (by have hk : k < v.toNatClampNeg := hk; omega)⟩
      show v = nI v.toNatClampNeg
      exact e.2
    · rw [if_neg h1]
      simp only [if_neg h1] at H
      exact H _ f0 c0
