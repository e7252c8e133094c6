/-! Seen, on both sides. -/
def snOK (S : GS) (v : Int32) : Bool := decide (0 < gz S) && !decide (v < 1) && !decide (20 < v) && decide (gns S < 10)
def gAddS (S : GS) (k : Nat) (b : Bool) : GS := sZ S (gns S + 1) (fun i => if i = gns S then k else gst S i) (fun i => if i = gns S then b else gsb S i)
def gSeen (S : GS) (v : Int32) (b : Bool) : GS := if snOK S v = true then gAddS S v.toNatClampNeg b else S
def aSeen (S : GS) (v : Int32) : Int32 := if snOK S v = true then nI (gns S + 1) else -1
theorem snOK_e {S : GS} {v : Int32} (c : snOK S v = true) : 0 < gz S ∧ gns S < 10 ∧ ∃ k, 1 ≤ k ∧ k ≤ 20 ∧ v = nI k := by
  unfold snOK at c
  simp only [Bool.and_eq_true, Bool.not_eq_true', decide_eq_true_eq, decide_eq_false_iff_not] at c
  obtain ⟨⟨⟨hz, h0⟩, h9⟩, hn⟩ := c
  have n0 : ¬ v < 0 := fun z => h0 (by
    rw [Int32.lt_iff_toInt_lt] at z ⊢
    have e : (1 : Int32).toInt = 1 := rfl
    have e0 : (0 : Int32).toInt = 0 := rfl
    omega)
  obtain ⟨j, hj, rfl⟩ := sr_of n0
  rw [sl_20, sr_lt (by omega) (by omega)] at h9
  rw [sl_1, sr_lt (by omega) (by omega)] at h0
  exact ⟨hz, hn, j, by omega, by omega, rfl⟩
theorem GVd_seen {S : GS} {v : Int32} {b : Bool} (vd : GVd S) : GVd (gSeen S v b) := by
  unfold gSeen
  by_cases y : snOK S v = true
  · rw [if_pos y]
    obtain ⟨hz, hn, k, k1, k2, rfl⟩ := snOK_e y
    rw [sr_N (by omega)]
    refine ⟨vd.z8, vd.fo, vd.ru, vd.r0, vd.m4, vd.hl, vd.sl, vd.j4, vd.jn, vd.xv, vd.a4, fun z => by have z : gz S = 0 := z; omega, vd.ax, vd.ix, ?_, fun i hi => ?_, vd.x0⟩
    · show gns S + 1 ≤ 10
      omega
    · have hi : i < gns S + 1 := hi
      show 1 ≤ (if i = gns S then k else gst S i) ∧ (if i = gns S then k else gst S i) ≤ 20
      by_cases y2 : i = gns S
      · rw [if_pos y2]; exact ⟨k1, k2⟩
      · rw [if_neg y2]; exact vd.st i (by omega)
  · rw [if_neg y]; exact vd
theorem sn_n {S : GS} {v : Int32} {b : Bool} {h' h : ajH} {P : Nat → Nat → Prop} {CC : GS → ajH → Prop} {Q : Option Value → ajH → Prop} (e : snOK S v = false) (H : ∀ h', FR h h' P → CC (gSeen S v b) h' → Q (some (.int (aSeen S v))) h') (f : FR h h' P) (c : CC S h') : Q (some (.int (-1))) h' := by
  have H2 := H h' f
  unfold gSeen aSeen at H2
  rw [e, if_neg (by decide), if_neg (by decide)] at H2
  exact H2 c
theorem sn_y {S : GS} {v : Int32} {b : Bool} {h' h : ajH} {P : Nat → Nat → Prop} {CC : GS → ajH → Prop} {Q : Option Value → ajH → Prop} (e : snOK S v = true) (H : ∀ h', FR h h' P → CC (gSeen S v b) h' → Q (some (.int (aSeen S v))) h') (f : FR h h' P) (c : CC (gAddS S v.toNatClampNeg b) h') : Q (some (.int (nI (gns S + 1)))) h' := by
  have H2 := H h' f
  unfold gSeen aSeen at H2
  rw [if_pos e, if_pos e] at H2
  exact H2 c
theorem sgM_cg {st st' : Nat → Nat} {sb sb' : Nat → Bool} {b : Bool} : ∀ n, (∀ i, i < n → st' i = st i ∧ sb' i = sb i) → sgM st' sb' b n = sgM st sb b n := by
  intro n
  induction n with
  | zero => intro _; rfl
  | succ n ih =>
    intro e
    have e1 := ih (fun i hi => e i (by omega))
    have e2 := e n (by omega)
    show (if sb' n = b then sgM st' sb' b n ||| bt (st' n - 1) else sgM st' sb' b n) = (if sb n = b then sgM st sb b n ||| bt (st n - 1) else sgM st sb b n)
    rw [e1, e2.1, e2.2]
theorem sgX_cg {st st' : Nat → Nat} : ∀ n, (∀ i, i < n → st' i = st i) → sgX st' n = sgX st n := by
  intro n
  induction n with
  | zero => intro _; rfl
  | succ n ih =>
    intro e
    have e1 := ih (fun i hi => e i (by omega))
    have e2 := e n (by omega)
    show (if sgX st' n < st' n then st' n else sgX st' n) = (if sgX st n < st n then st n else sgX st n)
    rw [e1, e2]
theorem sgX_le {st : Nat → Nat} {m : Nat} : ∀ n, (∀ i, i < n → st i ≤ m) → sgX st n ≤ m := by
  intro n
  induction n with
  | zero => intro _; exact Nat.zero_le _
  | succ n ih =>
    intro e
    have e1 := ih (fun i hi => e i (by omega))
    have e2 := e n (by omega)
    show (if sgX st n < st n then st n else sgX st n) ≤ m
    split <;> omega
theorem S111 {S : GS} {d k : Nat} {b : Bool} {h : ajH} {Q : Option Value → ajH → Prop} (k1 : 1 ≤ k) (k2 : k ≤ 20) (hn : gns S < 10) (hs : ajShp h) (c : CI S h) (vd : GVd S)
    (H : ∀ h', FR h h' (fun o j => o = 271) → CI (gAddS S k b) h' → Q none h') : ajEv d 111 0 [.ref 271, .int (nI k), .int (flg b)] [] h Q := by
  obtain ⟨e0, e1, e2, e3⟩ := c.2.2.2.2.2.2
  have mx := sgX_le (m := 20) (st := gst S) (gns S) (fun i hi => (vd.st i hi).2)
  have cg1 : ∀ bb, sgM (fun i => if i = gns S then k else gst S i) (fun i => if i = gns S then b else gsb S i) bb (gns S) = sgM (gst S) (gsb S) bb (gns S) := fun bb => sgM_cg _ (fun i hi => ⟨if_neg (by omega), if_neg (by omega)⟩)
  have cg2 : sgX (fun i => if i = gns S then k else gst S i) (gns S) = sgX (gst S) (gns S) := sgX_cg _ (fun i hi => if_neg (by omega))
  have eM : ∀ bb, sgM (fun i => if i = gns S then k else gst S i) (fun i => if i = gns S then b else gsb S i) bb (gns S + 1) = if b = bb then sgM (gst S) (gsb S) bb (gns S) ||| bt (k - 1) else sgM (gst S) (gsb S) bb (gns S) := by
    intro bb
    show (if (if gns S = gns S then b else gsb S (gns S)) = bb then sgM _ _ bb (gns S) ||| bt ((if gns S = gns S then k else gst S (gns S)) - 1) else sgM _ _ bb (gns S)) = _
    rw [cg1 bb, if_pos rfl, if_pos rfl]
  have eX : sgX (fun i => if i = gns S then k else gst S i) (gns S + 1) = if sgX (gst S) (gns S) < k then k else sgX (gst S) (gns S) := by
    show (if sgX _ (gns S) < (if gns S = gns S then k else gst S (gns S)) then (if gns S = gns S then k else gst S (gns S)) else sgX _ (gns S)) = _
    rw [cg2, if_pos rfl]
  -- behind the mark
  have rest : ∀ (h1 : ajH) (u : Value), FR h h1 (fun o j => o = 271) → ajI h1 271 0 = nI (gns S) → ajI h1 271 3 = nI (sgX (gst S) (gns S)) → ajI h1 271 1 = sgM (gst (gAddS S k b)) (gsb (gAddS S k b)) true (gns S + 1) → ajI h1 271 2 = sgM (gst (gAddS S k b)) (gsb (gAddS S k b)) false (gns S + 1) → ajShp h1 → ajEv d 111 35 [.ref 271, .int (nI k), u] [] h1 Q := by
    intro h1 u f1 g0 g3 g1 g2 s1
    refine W111_35 s1 ?_
    rintro _ rfl _ rfl
    have q0 : ∀ x, ajI (ajSI h1 271 3 x) 271 0 = nI (gns S) := fun x => by rw [ajI_SI, if_neg (by omega)]; exact g0
    rw [q0, nI_1, g3]
    have em : (if nI (sgX (gst S) (gns S)) < nI k then nI k else nI (sgX (gst S) (gns S))) = nI (if sgX (gst S) (gns S) < k then k else sgX (gst S) (gns S)) := by
      by_cases y : sgX (gst S) (gns S) < k
      · rw [if_pos y, if_pos (by rw [sr_lt (by omega) (by omega)]; exact y)]
      · rw [if_neg y, if_neg (by rw [sr_lt (by omega) (by omega)]; exact y)]
    rw [em, ← eX]
    have f2 : FR h (ajSI (ajSI h1 271 3 (nI (sgX (fun i => if i = gns S then k else gst S i) (gns S + 1)))) 271 0 (nI (gns S + 1))) (fun o j => o = 271) := FR_trans (FR_trans f1 (FR_SI h1 rfl)) (FR_SI _ rfl)
    obtain ⟨k1', k2', k3', k4', k5', k6', _⟩ := c
    refine H _ f2 ⟨c1_FR k1' f2 (fun o j z => by unfold b1; omega), c2_FR k2' f2 (fun o j z => by unfold b2; omega), c3_FR k3' f2 (fun o j z => by unfold b3; omega), c4_FR k4' f2 (fun o j z => by unfold b4; omega), c5_FR k5' f2 (fun o j z => by unfold b5; omega), c6_FR k6' f2 (fun o j z => by unfold b6; omega), ?_, ?_, ?_, ?_⟩
    · rw [ajI_SI, if_pos ⟨rfl, rfl⟩]; rfl
    · rw [ajI_SI, if_neg (by omega), ajI_SI, if_neg (by omega)]; exact g1
    · rw [ajI_SI, if_neg (by omega), ajI_SI, if_neg (by omega)]; exact g2
    · rw [ajI_SI, if_neg (by omega), ajI_SI, if_pos ⟨rfl, rfl⟩]; rfl
  refine W111_0 hs ?_
  cases b with
  | false =>
    rw [if_pos (show flg false = 0 from rfl)]
    rintro _ rfl
    rw [e2, sl_1, sr_sub k1, ← sl_1, bt_def]
    refine rest _ _ (FR_SI h rfl) (by rw [ajI_SI, if_neg (by omega)]; exact e0) (by rw [ajI_SI, if_neg (by omega)]; exact e3) ?_ ?_ hs
    · rw [ajI_SI, if_neg (by omega), e1]
      exact ((eM true).trans (if_neg (by decide))).symm
    · rw [ajI_SI, if_pos ⟨rfl, rfl⟩]
      exact ((eM false).trans (if_pos rfl)).symm
  | true =>
    rw [if_neg (by decide)]
    rintro _ rfl
    rw [e1, sl_1, sr_sub k1, ← sl_1, bt_def]
    refine rest _ _ (FR_SI h rfl) (by rw [ajI_SI, if_neg (by omega)]; exact e0) (by rw [ajI_SI, if_neg (by omega)]; exact e3) ?_ ?_ hs
    · rw [ajI_SI, if_pos ⟨rfl, rfl⟩]
      exact ((eM true).trans (if_pos rfl)).symm
    · rw [ajI_SI, if_neg (by omega), e2]
      exact ((eM false).trans (if_neg (by decide))).symm
theorem S110 {S : GS} {d : Nat} {v : Int32} {b : Bool} {h : ajH} {Q : Option Value → ajH → Prop} (hs : ajShp h) (c : CI S h) (vd : GVd S)
    (H : ∀ h', FR h h' (fun o j => o < 320) → CI (gSeen S v b) h' → Q (some (.int (aSeen S v))) h') : ajEv (d + 1) 110 0 [.ref 1, .int v, .int (flg b)] [] h Q := by
  have z8 := vd.z8
  have n10 := vd.ns
  refine W110_0 hs ?_
  refine S56 hs c.2.1 z8 ?_
  intro s1
  refine ⟨_, rfl, ?_⟩
  by_cases hz : 0 < gz S
  · rw [decide_eq_true hz, if_neg (by decide), c.2.2.2.2.2.2.1]
    by_cases y1 : v < 1
    · rw [if_pos y1]
      exact sn_n (by unfold snOK; simp [y1]) H (FR_refl _ _) c
    · rw [if_neg y1]
      by_cases y2 : 20 < v
      · rw [if_pos y2]
        exact sn_n (by unfold snOK; simp [y2]) H (FR_refl _ _) c
      · rw [if_neg y2]
        by_cases y3 : gns S < 10
        · rw [if_pos (by rw [sl_10, sr_lt (by omega) (by omega)]; exact y3)]
          have e : snOK S v = true := by unfold snOK; simp [hz, y1, y2, y3]
          obtain ⟨_, _, k, k1, k2, rfl⟩ := snOK_e e
          refine S111 (S := S) k1 k2 y3 s1 c vd ?_
          intro h1 f1 c1 s2
          refine ⟨rfl, ?_⟩
          have e0 : ajI h1 271 0 = nI (gns S + 1) := c1.2.2.2.2.2.2.1
          rw [e0]
          refine sn_y e H (FR_mono f1 (fun o j z => by omega)) ?_
          rw [sr_N (by omega)]; exact c1
        · rw [if_neg (by rw [sl_10, sr_lt (by omega) (by omega)]; exact y3)]
          exact sn_n (by unfold snOK; simp [y3]) H (FR_refl _ _) c
  · rw [decide_eq_false hz, if_pos (show flg false = 0 from rfl)]
    exact sn_n (by unfold snOK; simp [hz]) H (FR_refl _ _) c
theorem S226 {S : GS} {d : Nat} {v : Int32} {b : Bool} {h : ajH} {Q : Option Value → ajH → Prop} (hs : ajShp h) (c : MI S h) (vd : GVd S)
    (H : ∀ h', FR h h' (fun o j => 320 ≤ o ∧ o < 1000) → MI (gSeen S v b) h' → Q (some (.int (aSeen S v))) h') : ajEv (d + 1) 226 0 [.ref 320, .int v, .int (flg b)] [] h Q := by
  have z8 := vd.z8
  have n10 := vd.ns
  refine W226_0 hs ?_
  rintro _ rfl
  have c0 := MI_0 (x := 0) c
  have f0 : FR h (ajSI h 320 0 0) (fun o j => 320 ≤ o ∧ o < 1000) := FR_SI h (by omega)
  have s0 : ajShp (ajSI h 320 0 0) := hs
  generalize ajSI h 320 0 0 = h0 at c0 f0 s0
  rw [c0.2.1.1]
  by_cases hz : 0 < gz S
  · rw [if_neg (nI_ne0 hz (by omega))]
    refine S145 (lo := 1) (hi := 20) s0 ?_
    intro s1
    refine ⟨_, rfl, ?_⟩
    have e45 := c0.2.2.2.2.2.2.1.1
    rw [e45]
    by_cases y1 : v < 1
    · rw [if_pos y1, if_pos rfl]
      exact sn_n (by unfold snOK; simp [y1]) H f0 c0
    · rw [if_neg y1]
      by_cases y2 : 20 < v
      · rw [if_pos y2, if_pos rfl]
        exact sn_n (by unfold snOK; simp [y2]) H f0 c0
      · rw [if_neg y2, if_neg (by decide)]
        by_cases y3 : gns S < 10
        · rw [if_pos (by rw [sl_10, sr_eq (by omega) (by omega)]; omega)]
          have e : snOK S v = true := by unfold snOK; simp [hz, y1, y2, y3]
          obtain ⟨_, _, k, k1, k2, rfl⟩ := snOK_e e
          rw [sl_2, sr_mul, sr_in (by omega), sr_N (by omega)]
          refine ⟨by omega, ?_⟩
          rintro _ rfl
          have q45 : ajI (ajSI h0 339 (2 * gns S) (nI k)) 320 45 = nI (gns S) := by rw [ajI_SI, if_neg (by omega)]; exact e45
          rw [q45, sr_mul, sl_1, sr_add]
          have go : ∀ x : Int32, x = flg b → ajEv (d + 1) 226 68 [.ref 320, .int (nI k), .int (flg b)] [.int x, .int (nI (2 * gns S + 1)), .ref 339] (ajSI h0 339 (2 * gns S) (nI k)) Q := by
            intro x ex
            refine W226_68 s1 ?_
            rw [sr_in (by omega), sr_N (by omega)]
            refine ⟨by omega, ?_⟩
            rintro _ rfl _ rfl
            have r45 : ajI (ajSI (ajSI h0 339 (2 * gns S) (nI k)) 339 (2 * gns S + 1) x) 320 45 = nI (gns S) := by rw [ajI_SI, if_neg (by omega)]; exact q45
            rw [r45, nI_1]
            have f1 : FR h0 (ajSI (ajSI (ajSI h0 339 (2 * gns S) (nI k)) 339 (2 * gns S + 1) x) 320 45 (nI (gns S + 1))) (fun o j => o = 339 ∧ (j = 2 * gns S ∨ j = 2 * gns S + 1) ∨ o = 320 ∧ j = 45) := FR_trans (FR_trans (FR_SI h0 (by omega)) (FR_SI _ (by omega))) (FR_SI _ (by omega))
            have r45' : ajI (ajSI (ajSI (ajSI h0 339 (2 * gns S) (nI k)) 339 (2 * gns S + 1) x) 320 45 (nI (gns S + 1))) 320 45 = nI (gns S + 1) := by rw [ajI_SI, if_pos ⟨rfl, rfl⟩]
            rw [r45']
            obtain ⟨p1, p2, p3, p4, p5, p6, p7, p8⟩ := c0
            refine sn_y (v := nI k) e H (FR_trans f0 (FR_mono f1 (fun o j z => by omega))) ?_
            rw [sr_N (by omega)]
            refine ⟨r1_FR p1 f1 (fun o j z => by unfold d1; omega), r2_FR p2 f1 (fun o j z => by unfold d2; omega), r3_FR p3 f1 (fun o j z => by unfold d3; omega), r4_FR p4 f1 (fun o j z => by unfold d4; omega), r5_FR p5 f1 (fun o j z => by unfold d5; omega), r6_FR p6 f1 (fun o j z => by unfold d6; omega), ⟨r45', show gns S + 1 ≤ 10 by omega, fun i hi => ?_⟩, r8_FR p8 f1 (fun o j z => by omega)⟩
            have hi : i < gns S + 1 := hi
            show ajI _ 339 (2 * i) = nI (if i = gns S then k else gst S i) ∧ ajI _ 339 (2 * i + 1) = flg (if i = gns S then b else gsb S i)
            by_cases y4 : i = gns S
            · rw [if_pos y4, if_pos y4, y4]
              constructor
              · rw [ajI_SI, if_neg (by omega), ajI_SI, if_neg (by omega), ajI_SI, if_pos ⟨rfl, rfl⟩]
              · rw [ajI_SI, if_neg (by omega), ajI_SI, if_pos ⟨rfl, rfl⟩]; exact ex
            · rw [if_neg y4, if_neg y4]
              exact ⟨(FR_I f1 (by omega)).trans (p7.2.2 i (by omega)).1, (FR_I f1 (by omega)).trans (p7.2.2 i (by omega)).2⟩
          cases b with
          | false => rw [if_pos (show flg false = 0 from rfl)]; exact go 0 rfl
          | true => rw [if_neg (by decide)]; exact go (nI 1) rfl
        · have e10 : gns S = 10 := by omega
          rw [e10, if_neg (show ¬ ¬ nI 10 = 10 from fun z => z rfl)]
          exact sn_n (by unfold snOK; simp [y3]) H f0 c0
  · have e0 : gz S = 0 := by omega
    rw [if_pos (by rw [e0]; rfl)]
    exact sn_n (by unfold snOK; simp [hz]) H f0 c0
