/-! Numbers, masks, frames (printed by wip/src/24.num.py). -/
theorem sl_0 : (0 : Int32) = nI 0 := rfl
theorem sl_1 : (1 : Int32) = nI 1 := rfl
theorem sl_2 : (2 : Int32) = nI 2 := rfl
theorem sl_3 : (3 : Int32) = nI 3 := rfl
theorem sl_4 : (4 : Int32) = nI 4 := rfl
theorem sl_5 : (5 : Int32) = nI 5 := rfl
theorem sl_6 : (6 : Int32) = nI 6 := rfl
theorem sl_7 : (7 : Int32) = nI 7 := rfl
theorem sl_8 : (8 : Int32) = nI 8 := rfl
theorem sl_9 : (9 : Int32) = nI 9 := rfl
theorem sl_10 : (10 : Int32) = nI 10 := rfl
theorem sl_14 : (14 : Int32) = nI 14 := rfl
theorem sl_15 : (15 : Int32) = nI 15 := rfl
theorem sl_16 : (16 : Int32) = nI 16 := rfl
theorem sl_17 : (17 : Int32) = nI 17 := rfl
theorem sl_18 : (18 : Int32) = nI 18 := rfl
theorem sl_19 : (19 : Int32) = nI 19 := rfl
theorem sl_20 : (20 : Int32) = nI 20 := rfl
theorem sl_21 : (21 : Int32) = nI 21 := rfl
theorem sl_22 : (22 : Int32) = nI 22 := rfl
theorem sl_23 : (23 : Int32) = nI 23 := rfl
theorem sl_24 : (24 : Int32) = nI 24 := rfl
theorem sl_30 : (30 : Int32) = nI 30 := rfl
theorem sl_31 : (31 : Int32) = nI 31 := rfl
theorem sl_32 : (32 : Int32) = nI 32 := rfl
theorem sl_33 : (33 : Int32) = nI 33 := rfl
theorem sl_38 : (38 : Int32) = nI 38 := rfl
theorem sl_40 : (40 : Int32) = nI 40 := rfl
theorem sl_41 : (41 : Int32) = nI 41 := rfl
theorem sl_42 : (42 : Int32) = nI 42 := rfl
theorem sl_43 : (43 : Int32) = nI 43 := rfl
theorem sl_45 : (45 : Int32) = nI 45 := rfl
theorem sl_47 : (47 : Int32) = nI 47 := rfl
theorem sl_48 : (48 : Int32) = nI 48 := rfl
theorem sl_50 : (50 : Int32) = nI 50 := rfl
theorem sl_57 : (57 : Int32) = nI 57 := rfl
theorem sl_58 : (58 : Int32) = nI 58 := rfl
theorem sl_59 : (59 : Int32) = nI 59 := rfl
theorem sl_60 : (60 : Int32) = nI 60 := rfl
theorem sl_61 : (61 : Int32) = nI 61 := rfl
theorem sl_62 : (62 : Int32) = nI 62 := rfl
theorem sl_63 : (63 : Int32) = nI 63 := rfl
theorem sl_64 : (64 : Int32) = nI 64 := rfl
theorem sl_91 : (91 : Int32) = nI 91 := rfl
theorem sl_93 : (93 : Int32) = nI 93 := rfl
theorem sl_97 : (97 : Int32) = nI 97 := rfl
theorem sl_99 : (99 : Int32) = nI 99 := rfl
theorem sl_100 : (100 : Int32) = nI 100 := rfl
theorem sl_107 : (107 : Int32) = nI 107 := rfl
theorem sl_109 : (109 : Int32) = nI 109 := rfl
theorem sl_111 : (111 : Int32) = nI 111 := rfl
theorem sl_115 : (115 : Int32) = nI 115 := rfl
theorem sl_118 : (118 : Int32) = nI 118 := rfl
theorem sl_119 : (119 : Int32) = nI 119 := rfl
theorem sl_124 : (124 : Int32) = nI 124 := rfl
theorem sl_127 : (127 : Int32) = nI 127 := rfl
theorem sl_128 : (128 : Int32) = nI 128 := rfl
theorem sl_177 : (177 : Int32) = nI 177 := rfl
theorem sl_180 : (180 : Int32) = nI 180 := rfl
theorem sl_203 : (203 : Int32) = nI 203 := rfl
theorem sl_239 : (239 : Int32) = nI 239 := rfl
theorem sl_240 : (240 : Int32) = nI 240 := rfl
theorem sl_255 : (255 : Int32) = nI 255 := rfl
theorem sl_256 : (256 : Int32) = nI 256 := rfl
theorem sl_999 : (999 : Int32) = nI 999 := rfl
theorem sl_1000 : (1000 : Int32) = nI 1000 := rfl
theorem sl_7917 : (7917 : Int32) = nI 7917 := rfl
theorem sl_8191 : (8191 : Int32) = nI 8191 := rfl
theorem sl_9999 : (9999 : Int32) = nI 9999 := rfl
theorem sl_n (b : Nat) : Int32.ofNat b = nI b := rfl
theorem sr_le {a b : Nat} (ha : a < 2147483648) (hb : b < 2147483648) : (nI a ≤ nI b) = (a ≤ b) := propext (nI_leI ha hb)
theorem sr_lt {a b : Nat} (ha : a < 2147483648) (hb : b < 2147483648) : (nI a < nI b) = (a < b) := propext (nI_ltI ha hb)
theorem sr_eq {a b : Nat} (ha : a < 2147483648) (hb : b < 2147483648) : (nI a = nI b) = (a = b) := propext (nI_eq ha hb)
theorem sr_N {a : Nat} (ha : a < 2147483648) : (nI a).toNatClampNeg = a := nI_clamp ha
theorem sr_neg1 {a : Nat} (ha : a < 2147483648) : (nI a = -1) = False := by
  refine eq_false fun e => ?_
  have h1 := congrArg Int32.toInt e
  rw [nI_toInt ha] at h1
  have h2 : (-1 : Int32).toInt = -1 := by decide
  omega
theorem sr_neg1' {a : Nat} (ha : a < 2147483648) : ((-1 : Int32) = nI a) = False := by
  refine eq_false fun e => ?_
  have h1 := sr_neg1 ha
  rw [h1.symm.trans (by rw [e])] <;> trivial
theorem sr_neg1le {a : Nat} (ha : a < 2147483648) : ((-1 : Int32) ≤ nI a) = True := by
  refine eq_true ?_
  rw [Int32.le_iff_toInt_le, nI_toInt ha]
  have h2 : (-1 : Int32).toInt = -1 := by decide
  omega
theorem sr_lt0 {a : Nat} (ha : a < 2147483648) : (nI a < 0) = False := eq_false (nI_pos ha)
theorem sr_ltn1 {a : Nat} (ha : a < 2147483648) : (nI a < -1) = False := by
  refine eq_false ?_
  rw [Int32.lt_iff_toInt_lt, nI_toInt ha]
  have h2 : (-1 : Int32).toInt = -1 := by decide
  omega
theorem sr_in {i n : Nat} (hi : i < 2147483648) : ajIn (nI i) n = (i < n) := by
  unfold ajIn
  rw [sr_lt0 hi, sr_N hi]
  refine propext ⟨fun z => ?_, fun z y => ?_⟩
  · by_cases hh : n ≤ i
    · exact absurd (Or.inr hh) z
    · omega
  · rcases y with y | y
    · exact y
    · omega
theorem sr_add (a b : Nat) : nI a + nI b = nI (a + b) := nI_add a b
theorem sr_mul (a b : Nat) : nI a * nI b = nI (a * b) := pk_mul a b
theorem sr_sub {a b : Nat} (h : b ≤ a) : nI a - nI b = nI (a - b) := pk_sub h
theorem sr_m1 {a : Nat} (h : 1 ≤ a) : nI a + (-1) = nI (a - 1) := by
  obtain ⟨b, rfl⟩ : ∃ b, a = b + 1 := ⟨a - 1, by omega⟩
  exact pk_m1 b
theorem sr_div {a d : Nat} (ha : a < 2147483648) (h0 : 0 < d) (hd : d < 2147483648) : nI a / nI d = nI (a / d) := pk_div ha h0 hd
theorem sr_rem {a d : Nat} (ha : a < 2147483648) (h0 : 0 < d) (hd : d < 2147483648) : nI a - nI a / nI d * nI d = nI (a % d) := pk_rem ha h0 hd
theorem sr_of {x : Int32} (h : ¬ x < 0) : ∃ j : Nat, j < 2147483648 ∧ x = nI j := nI_of h
theorem sr_toInt {a : Nat} (ha : a < 2147483648) : (nI a).toInt = (a : Int) := nI_toInt ha
theorem sr_0 : nI 0 = 0 := rfl
theorem sr_1 : nI 1 = 1 := rfl
/-- an int is a number of Nat, or below 0 -/
theorem sr_cs (x : Int32) : x < 0 ∨ ∃ j : Nat, j < 2147483648 ∧ x = nI j := by
  by_cases h : x < 0
  · exact Or.inl h
  · exact Or.inr (sr_of h)
theorem fa_nlt {a b : Int32} (h : ¬ a < b) : b ≤ a := by
  rw [Int32.lt_iff_toInt_lt] at h
  rw [Int32.le_iff_toInt_le]
  omega
theorem fa_nge {a b : Int32} (h : ¬ a ≤ b) : b < a := by
  rw [Int32.le_iff_toInt_le] at h
  rw [Int32.lt_iff_toInt_lt]
  omega
theorem fa_nle {a b : Int32} (h : a < b) : ¬ b ≤ a := by
  rw [Int32.lt_iff_toInt_lt] at h
  rw [Int32.le_iff_toInt_le]
  omega
/-! masks -/
def hb (m : Int32) (k : Nat) : Bool := m.toBitVec.getLsbD k
theorem hb_ext {a b : Int32} (h : ∀ i, i < 32 → hb a i = hb b i) : a = b := Int32.toBitVec_inj.1 (BitVec.eq_of_getLsbD_eq h)
theorem hb_and (a b : Int32) (i : Nat) : hb (a &&& b) i = (hb a i && hb b i) := by
  show ((a &&& b).toBitVec).getLsbD i = _
  rw [Int32.toBitVec_and, BitVec.getLsbD_and]; rfl
theorem hb_or (a b : Int32) (i : Nat) : hb (a ||| b) i = (hb a i || hb b i) := by
  show ((a ||| b).toBitVec).getLsbD i = _
  rw [Int32.toBitVec_or, BitVec.getLsbD_or]; rfl
theorem hb_xor (a b : Int32) (i : Nat) : hb (a ^^^ b) i = (hb a i ^^ hb b i) := by
  show ((a ^^^ b).toBitVec).getLsbD i = _
  rw [Int32.toBitVec_xor, BitVec.getLsbD_xor]; rfl
theorem hb_m1 {i : Nat} (h : i < 32) : hb (-1) i = true := (by decide +kernel : ∀ i < 32, hb (-1) i = true) i h
theorem hb_not (a : Int32) {i : Nat} (h : i < 32) : hb (a ^^^ -1) i = !hb a i := by rw [hb_xor, hb_m1 h]; cases hb a i <;> rfl
theorem hb_0 (i : Nat) : hb 0 i = false := by
  show ((0 : Int32).toBitVec).getLsbD i = false
  rw [Int32.toBitVec_zero]; simp
theorem hb_ge {a : Int32} {i : Nat} (h : 32 ≤ i) : hb a i = false := BitVec.getLsbD_of_ge _ _ h
theorem sr_shn {k : Nat} (h : k < 32) : ((nI k &&& 31).toBitVec.smod 32) = BitVec.ofNat 32 k := (by decide +kernel : ∀ k < 32, ((nI k &&& 31).toBitVec.smod 32) = BitVec.ofNat 32 k) k h
/-- 1 << k -/
def bt (k : Nat) : Int32 := 1 <<< (nI k &&& 31)
theorem bt_def (k : Nat) : (1 : Int32) <<< (nI k &&& 31) = bt k := rfl
theorem hb_bt {k i : Nat} (hk : k < 32) (hi : i < 32) : hb (bt k) i = decide (i = k) := (by decide +kernel : ∀ k < 32, ∀ i < 32, hb (bt k) i = decide (i = k)) k hk i hi
theorem hb_one {i : Nat} (hi : i < 32) : hb 1 i = decide (i = 0) := (by decide +kernel : ∀ i < 32, hb 1 i = decide (i = 0)) i hi
/-- a bit, as it is read -/
theorem hb_shr (m : Int32) {k : Nat} (h : k < 32) : (m >>> (nI k &&& 31)) &&& 1 = if hb m k = true then 1 else 0 := by
  apply hb_ext
  intro i hi
  rw [hb_and, hb_one hi]
  by_cases h0 : i = 0
  · subst h0
    have h1 : hb (m >>> (nI k &&& 31)) 0 = hb m k := by
      show ((m >>> (nI k &&& 31)).toBitVec).getLsbD 0 = m.toBitVec.getLsbD k
      rw [Int32.toBitVec_shiftRight, sr_shn h]
      have h2 : (BitVec.ofNat 32 k).toNat = k := by rw [BitVec.toNat_ofNat]; omega
      rw [BitVec.sshiftRight_eq', h2, BitVec.getLsbD_sshiftRight]
      simp [h]
    rw [h1]
    cases hm : hb m k with
    | true => rw [if_pos rfl, hb_one (by omega)]; rfl
    | false => rw [if_neg (by decide), hb_0]; rfl
  · have e : decide (i = 0) = false := decide_eq_false h0
    rw [e, Bool.and_false]
    split
    · rw [hb_one hi, e]
    · rw [hb_0]
theorem hb_sh1 (m : Int32) {k : Nat} (h : k < 32) : ((m >>> (nI k &&& 31)) &&& 1 = 1) = (hb m k = true) := by
  rw [hb_shr m h]
  cases hb m k <;> decide
theorem hb_sh0 (m : Int32) {k : Nat} (h : k < 32) : ((m >>> (nI k &&& 31)) &&& 1 = 0) = (hb m k = false) := by
  rw [hb_shr m h]
  cases hb m k <;> decide
/-- the numbers below n with p, as bits -/
def mk (p : Nat → Bool) : Nat → Int32
  | 0 => 0
  | k + 1 => mk p k ||| (if p k = true then bt k else 0)
theorem hb_mk (p : Nat → Bool) : ∀ (n : Nat), n ≤ 32 → ∀ i, i < 32 → hb (mk p n) i = (decide (i < n) && p i) := by
  intro n
  induction n with
  | zero => intro _ i _; unfold mk; rw [hb_0]; simp
  | succ n ih =>
    intro hn i hi
    unfold mk
    rw [hb_or, ih (by omega) i hi]
    by_cases h1 : i = n
    · subst h1
      cases hp : p i with
      | true => rw [if_pos rfl, hb_bt hi hi]; simp
      | false => rw [if_neg (by decide), hb_0]; simp
    · have e : hb (if p n = true then bt n else 0) i = false := by
        split
        · rw [hb_bt (by omega) hi]; exact decide_eq_false h1
        · exact hb_0 i
      rw [e, Bool.or_false]
      have e2 : decide (i < n + 1) = decide (i < n) := by
        by_cases h2 : i < n
        · rw [decide_eq_true h2, decide_eq_true (by omega)]
        · rw [decide_eq_false h2, decide_eq_false (by omega)]
      rw [e2]
theorem mk_congr {p q : Nat → Bool} : ∀ (n : Nat), (∀ k, k < n → p k = q k) → mk p n = mk q n := by
  intro n
  induction n with
  | zero => intro _; rfl
  | succ n ih =>
    intro h
    unfold mk
    rw [ih (fun k hk => h k (by omega)), h n (by omega)]
/-- a mask is told by its bits -/
theorem mk_of {m : Int32} {p : Nat → Bool} {n : Nat} (hn : n ≤ 32) (h : ∀ i, i < 32 → hb m i = (decide (i < n) && p i)) : m = mk p n := hb_ext fun i hi => by rw [h i hi, hb_mk p n hn i hi]
theorem mk_and (p q : Nat → Bool) {n : Nat} (hn : n ≤ 32) : mk p n &&& mk q n = mk (fun k => p k && q k) n := mk_of hn fun i hi => by
  rw [hb_and, hb_mk p n hn i hi, hb_mk q n hn i hi]; cases decide (i < n) <;> simp
theorem mk_or (p q : Nat → Bool) {n : Nat} (hn : n ≤ 32) : mk p n ||| mk q n = mk (fun k => p k || q k) n := mk_of hn fun i hi => by
  rw [hb_or, hb_mk p n hn i hi, hb_mk q n hn i hi]; cases decide (i < n) <;> simp
theorem mk_dif (p q : Nat → Bool) {n : Nat} (hn : n ≤ 32) : mk p n &&& (mk q n ^^^ -1) = mk (fun k => p k && !q k) n := mk_of hn fun i hi => by
  rw [hb_and, hb_not _ hi, hb_mk p n hn i hi, hb_mk q n hn i hi]; cases decide (i < n) <;> simp
theorem mk_off (p : Nat → Bool) {n j : Nat} (hn : n ≤ 32) (hj : j < 32) : mk p n &&& (bt j ^^^ -1) = mk (fun k => p k && !decide (k = j)) n := mk_of hn fun i hi => by
  rw [hb_and, hb_not _ hi, hb_mk p n hn i hi, hb_bt hj hi]; cases decide (i < n) <;> simp
theorem mk_set (p : Nat → Bool) {n j : Nat} (hn : n ≤ 32) (hj : j < n) : mk p n ||| bt j = mk (fun k => p k || decide (k = j)) n := mk_of hn fun i hi => by
  rw [hb_or, hb_mk p n hn i hi, hb_bt (by omega) hi]
  by_cases h : i = j
  · subst h; simp [hj]
  · simp [h]
theorem mk_flip (p : Nat → Bool) {n j : Nat} (hn : n ≤ 32) (hj : j < n) : mk p n ^^^ bt j = mk (fun k => p k ^^ decide (k = j)) n := mk_of hn fun i hi => by
  rw [hb_xor, hb_mk p n hn i hi, hb_bt (by omega) hi]
  by_cases h : i = j
  · subst h; simp [hj]
  · simp [h]
/-! frames: what has changed lies in P -/
def FR (h h' : ajH) (P : Nat → Nat → Prop) : Prop := h'.1 = h.1 ∧ ∀ o j, ¬ P o j → ajI h' o j = ajI h o j ∧ ajL h' o j = ajL h o j ∧ ajR h' o j = ajR h o j
theorem FR_refl (h : ajH) (P : Nat → Nat → Prop) : FR h h P := ⟨rfl, fun _ _ _ => ⟨rfl, rfl, rfl⟩⟩
theorem FR_trans {h h1 h2 : ajH} {P : Nat → Nat → Prop} (a : FR h h1 P) (b : FR h1 h2 P) : FR h h2 P := ⟨b.1.trans a.1, fun o j z => ⟨(b.2 o j z).1.trans (a.2 o j z).1, (b.2 o j z).2.1.trans (a.2 o j z).2.1, (b.2 o j z).2.2.trans (a.2 o j z).2.2⟩⟩
theorem FR_mono {h h1 : ajH} {P P' : Nat → Nat → Prop} (a : FR h h1 P) (p : ∀ o j, P o j → P' o j) : FR h h1 P' := ⟨a.1, fun o j z => a.2 o j (fun y => z (p o j y))⟩
theorem FR_tr {h h1 h2 : ajH} {P P1 P2 : Nat → Nat → Prop} (a : FR h h1 P1) (b : FR h1 h2 P2) (p1 : ∀ o j, P1 o j → P o j) (p2 : ∀ o j, P2 o j → P o j) : FR h h2 P := FR_trans (FR_mono a p1) (FR_mono b p2)
theorem FR_I {h h1 : ajH} {P : Nat → Nat → Prop} (a : FR h h1 P) {o j : Nat} (z : ¬ P o j) : ajI h1 o j = ajI h o j := (a.2 o j z).1
theorem FR_L {h h1 : ajH} {P : Nat → Nat → Prop} (a : FR h h1 P) {o j : Nat} (z : ¬ P o j) : ajL h1 o j = ajL h o j := (a.2 o j z).2.1
theorem FR_R {h h1 : ajH} {P : Nat → Nat → Prop} (a : FR h h1 P) {o j : Nat} (z : ¬ P o j) : ajR h1 o j = ajR h o j := (a.2 o j z).2.2
theorem FR_SI (h : ajH) {a k : Nat} {v : Int32} {P : Nat → Nat → Prop} (p : P a k) : FR h (ajSI h a k v) P := ⟨rfl, fun o j z => ⟨by rw [ajI_SI, if_neg]; rintro ⟨rfl, rfl⟩; exact z p, rfl, rfl⟩⟩
theorem FR_SL (h : ajH) {a k : Nat} {v : Int64} {P : Nat → Nat → Prop} (p : P a k) : FR h (ajSL h a k v) P := ⟨rfl, fun o j z => ⟨rfl, by rw [ajL_SL, if_neg]; rintro ⟨rfl, rfl⟩; exact z p, rfl⟩⟩
theorem FR_SR (h : ajH) {a k : Nat} {v : Nat} {P : Nat → Nat → Prop} (p : P a k) : FR h (ajSR h a k v) P := ⟨rfl, fun o j z => ⟨rfl, rfl, by rw [ajR_SR, if_neg]; rintro ⟨rfl, rfl⟩; exact z p⟩⟩
theorem FR_Cp (h : ajH) {d s sp dp n : Nat} {P : Nat → Nat → Prop} (p : ∀ j, dp ≤ j → j < dp + n → P d j) : FR h (ajCp h d s sp dp n) P := ⟨rfl, fun o j z => ⟨by rw [ajI_Cp, if_neg]; rintro ⟨rfl, h1, h2⟩; exact z (p _ h1 h2), rfl, rfl⟩⟩
theorem ajSI_self (h : ajH) (a k : Nat) {v : Int32} (e : ajI h a k = v) : ajSI h a k v = h := by
  subst e
  obtain ⟨c, i, l, r⟩ := h
  show (c, (fun b j => if b = a ∧ j = k then i a k else i b j), l, r) = (c, i, l, r)
  congr 2
  funext b j
  split
  · rename_i z; rw [z.1, z.2]
  · rfl
theorem ajSI_SI (h : ajH) (a k : Nat) (v w : Int32) : ajSI (ajSI h a k v) a k w = ajSI h a k w := by
  obtain ⟨c, i, l, r⟩ := h
  show (c, (fun b j => if b = a ∧ j = k then w else if b = a ∧ j = k then v else i b j), l, r) = (c, (fun b j => if b = a ∧ j = k then w else i b j), l, r)
  congr 2
  funext b j
  split <;> rfl
/-- the heap with its shape stays so -/
theorem ajShp_SI {h : ajH} {a k : Nat} {v : Int32} : ajShp (ajSI h a k v) = ajShp h := rfl
theorem ajShp_SL {h : ajH} {a k : Nat} {v : Int64} : ajShp (ajSL h a k v) = ajShp h := rfl
theorem ajShp_Cp {h : ajH} {d s sp dp n : Nat} : ajShp (ajCp h d s sp dp n) = ajShp h := rfl

