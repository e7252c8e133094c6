/-! Years by draws. -/
theorem u33 (x : Int64) : ∃ u : Nat, u < 2147483648 ∧ (x.toUInt64 >>> ((33 : Int32).toInt64.toUInt64 &&& Int64.toUInt64 63)).toInt64 = lN u := by
  refine ⟨(x.toUInt64 >>> ((33 : Int32).toInt64.toUInt64 &&& Int64.toUInt64 63)).toNat, ?_, ?_⟩
  · rw [UInt64.toNat_shiftRight, show ((33 : Int32).toInt64.toUInt64 &&& Int64.toUInt64 63).toNat % 64 = 33 from rfl, Nat.shiftRight_eq_div_pow]
    have := x.toUInt64.toNat_lt
    omega
  · generalize x.toUInt64 >>> ((33 : Int32).toInt64.toUInt64 &&& Int64.toUInt64 63) = y
    exact Int64.toBitVec_inj.mp (by show y.toBitVec = BitVec.ofNat 64 y.toBitVec.toNat; rw [BitVec.ofNat_toNat, BitVec.setWidth_eq])
def dr (x : Int64) : Int64 := (x * (6364136223846793005 : Int64)) + (1442695040888963407 : Int64)
def bl (x : Int64) (m : Int32) : Int32 := ((x.toUInt64 >>> ((33 : Int32).toInt64.toUInt64 &&& Int64.toUInt64 63)).toInt64 - (x.toUInt64 >>> ((33 : Int32).toInt64.toUInt64 &&& Int64.toUInt64 63)).toInt64 / m.toInt64 * m.toInt64).toInt32
theorem bl_n (x : Int64) {n : Nat} (h0 : 0 < n) (hn : n < 1000) : ∃ k, k < n ∧ bl x (nI n) = nI k := by
  obtain ⟨u, hu, e⟩ := u33 x
  refine ⟨u % n, Nat.mod_lt _ h0, ?_⟩
  unfold bl
  rw [e, nI_l (by omega), pk_lRem (by omega) h0 (by omega), lN_i]
theorem nz_l {n : Nat} (h0 : 0 < n) (hn : n < 1000) : ¬ (nI n).toInt64 = 0 := by
  rw [nI_l (by omega)]
  intro z
  have := (pk_lEQ (b := 0) (show n < 2 ^ 63 by omega) (by omega)).mp z
  omega
theorem S91 {d n : Nat} {x : Int64} {h : ajH} {Q : Option Value → ajH → Prop} (hs : ajShp h) (h0 : 0 < n) (hn : n < 1000) (H : Q (some (.int (bl x (nI n)))) h) : ajEv d 91 0 [.long x, ajU, .int (nI n)] [] h Q := by
  refine W91_0 hs ?_
  rw [if_neg (by rw [show (0 : Int32) = nI 0 from rfl, sr_le (by omega) (by omega)]; omega)]
  exact ⟨nz_l h0 hn, H⟩
theorem S90 {d : Nat} {x : Int64} {h : ajH} {Q : Option Value → ajH → Prop} (hs : ajShp h) (H : Q (some (.long (dr x))) h) : ajEv d 90 0 [.long x, ajU] [] h Q := W90_0 hs H
theorem S209 {d n : Nat} {x : Int64} {h : ajH} {Q : Option Value → ajH → Prop} (hs : ajShp h) (h0 : 0 < n) (hn : n < 1000) (e : ajL h 320 40 = x)
    (H : ∀ h', FR h h' (fun o j => o = 320 ∧ j = 40) → ajL h' 320 40 = dr x → Q (some (.int (bl (dr x) (nI n)))) h') : ajEv d 209 0 [.ref 320, .int (nI n)] [] h Q := by
  refine W209_0 hs ?_
  rintro _ rfl
  rw [e]
  have f1 : FR h (ajSL h 320 40 ((x * (6364136223846793005 : Int64)) + (1442695040888963407 : Int64))) (fun o j => o = 320 ∧ j = 40) := FR_SL h ⟨rfl, rfl⟩
  have e1 : ajL (ajSL h 320 40 ((x * (6364136223846793005 : Int64)) + (1442695040888963407 : Int64))) 320 40 = dr x := by rw [ajL_SL, if_pos ⟨rfl, rfl⟩]; rfl
  rw [e1]
  exact ⟨nz_l h0 hn, H _ f1 e1⟩
/-- healed when broken -/
noncomputable def yrH (X : XT) (k : Nat) : XT := (if X.1 (2 * k + 1) = 2 then upR X.1 (2 * k + 1) 0 else X.1, X.2)
noncomputable def yrK (S : GS) (x : Int64) : Nat := (bl (dr x) (nI (gz S))).toNatClampNeg
noncomputable def yrB (S : GS) (x : Int64) : XT := (upR (yrH (gX S) (yrK S x)).1 17 (bl (dr (dr x)) (nI 10)), (yrH (gX S) (yrK S x)).2)
noncomputable def yrS (S : GS) (x : Int64) : Bool := decide (bl (dr (dr (dr x))) (nI 10) < gs S)
noncomputable def yrX (S : GS) (x : Int64) : XT := xTurn (gE S) (yrS S x) (yrB S x)
theorem yrX_e (S : GS) (x : Int64) : xTurn (gE S) (decide (bl (dr (dr (dr x))) (nI 10) < gs S)) (upR (yrH (gX S) (yrK S x)).1 17 (bl (dr (dr x)) (nI 10)), (yrH (gX S) (yrK S x)).2) = yrX S x := by
  unfold yrX yrS yrB
  rfl
theorem gX_keep (S : GS) (X : XT) : gX (gKeep S X) = X := rfl
theorem gz_keep (S : GS) (X : XT) : gz (gKeep S X) = gz S := rfl
/-- again and again -/
def itF {α : Type} (g : α → α) : Nat → α → α
  | 0, a => a
  | f + 1, a => itF g f (g a)
theorem itF_s {α : Type} (g : α → α) (f : Nat) (a : α) : itF g (f + 1) a = itF g f (g a) := rfl
theorem itF_0 {α : Type} (g : α → α) (a : α) : itF g 0 a = a := rfl
noncomputable def yrG (p : GS × Int64) : GS × Int64 := (gKeep p.1 (yrX p.1 p.2), dr (dr (dr p.2)))
theorem yrG_e (S : GS) (x : Int64) : yrG (S, x) = (gKeep S (yrX S x), dr (dr (dr x))) := rfl
noncomputable def yrF (f : Nat) (S : GS) (x : Int64) : GS := (itF yrG f (S, x)).1
theorem yrF_0 (S : GS) (x : Int64) : yrF 0 S x = S := by unfold yrF; rw [itF_0]
theorem yrF_s (f : Nat) (S : GS) (x : Int64) : yrF (f + 1) S x = yrF f (gKeep S (yrX S x)) (dr (dr (dr x))) := by unfold yrF; rw [itF_s, yrG_e]
theorem yrK_l {S : GS} {x : Int64} (hz : 0 < gz S) (z8 : gz S ≤ 8) : yrK S x < gz S ∧ bl (dr x) (nI (gz S)) = nI (yrK S x) := by
  obtain ⟨k, hk, e⟩ := bl_n (dr x) hz (by omega)
  unfold yrK
  rw [e, sr_N (by omega)]
  exact ⟨hk, rfl⟩
theorem yrH_v {n k : Nat} {X : XT} (n8 : n ≤ 8) (hk : k < n) (xv : XV n X) : XV n (yrH X k) := by
  unfold yrH
  by_cases y : X.1 (2 * k + 1) = 2
  · rw [if_pos y]
    refine ⟨RV_how xv.1 n8 hk (Or.inl rfl), ?_, xv.2.2⟩
    have e : tN (upR X.1 (2 * k + 1) 0) = tN X.1 := by unfold tN; rw [upR_n _ _ (by omega)]
    show X.2.1 ≤ tN (upR X.1 (2 * k + 1) 0)
    rw [e]; exact xv.2.1
  · rw [if_neg y]; exact xv
theorem yrB_v {S : GS} {x : Int64} (vd : GVd S) (hz : 0 < gz S) : XV (gz S) (yrB S x) := by
  have a := yrH_v vd.z8 (yrK_l (x := x) hz vd.z8).1 (vd.xv hz)
  exact XV_17 (bl_n _ (by omega) (by omega)) a vd.z8
theorem yrB_t {S : GS} {x : Int64} (vd : GVd S) (hz : 0 < gz S) : tN (yrB S x).1 = tN (gX S).1 := by
  have l := (yrK_l (x := x) hz vd.z8).1
  have z8 := vd.z8
  show tN (upR (yrH (gX S) (yrK S x)).1 17 _) = _
  unfold tN
  rw [upR_n _ _ (by omega)]
  unfold yrH
  by_cases y : (gX S).1 (2 * yrK S x + 1) = 2
  · rw [if_pos y]
    show (upR (gX S).1 (2 * yrK S x + 1) 0 21).toNatClampNeg = _
    rw [upR_n _ _ (by omega)]
  · rw [if_neg y]
theorem yrX_v {S : GS} {x : Int64} (vd : GVd S) (hz : 0 < gz S) (ht : tN (gX S).1 < 999) : XV (gz S) (yrX S x) ∧ tN (yrX S x).1 = tN (gX S).1 + 1 := by
  have a := yrB_v (x := x) vd hz
  have b := yrB_t (x := x) vd hz
  refine ⟨XV_turn (gE_g vd) (gE_ok vd) vd.z8 a (by rw [b]; exact ht), ?_⟩
  have c := iPl_21 (E := gE S) (s := yrS S x) vd.z8 a.1 (by omega)
  rw [b] at c
  exact c
theorem yrG_v {S : GS} {x : Int64} (vd : GVd S) (hz : 0 < gz S) (ht : tN (gX S).1 < 999) : GVd (gKeep S (yrX S x)) := GVd_keep vd hz (yrX_v vd hz ht).1
theorem yrF_v : ∀ f S x, GVd S → 0 < gz S → tN (gX S).1 + f ≤ 999 → GVd (yrF f S x) ∧ tN (gX (yrF f S x)).1 = tN (gX S).1 + f ∧ gz (yrF f S x) = gz S := by
  intro f
  induction f with
  | zero => intro S x vd hz ht; rw [yrF_0]; exact ⟨vd, rfl, rfl⟩
  | succ f ih =>
    intro S x vd hz ht
    have a := yrX_v (x := x) vd hz (by omega)
    have g := yrG_v (x := x) vd hz (by omega)
    have es := yrF_s f S x
    rw [es]
    generalize yrX S x = X at a g ⊢
    generalize dr (dr (dr x)) = x3
    have r := ih (gKeep S X) x3 g (by rw [gz_keep]; exact hz) (by rw [gX_keep, a.2]; omega)
    rw [gX_keep, a.2, gz_keep] at r
    exact ⟨r.1, by rw [r.2.1]; omega, r.2.2⟩
def yrOK (S : GS) (v : Int32) : Bool := decide (0 < gz S) && rg 1 30 v && decide ((gX S).1 21 + v ≤ 999)
noncomputable def gYear (S : GS) (v : Int32) (x : Int64) : GS := if yrOK S v = true then yrF v.toNatClampNeg S x else S
noncomputable def aYear (S : GS) (v : Int32) (x : Int64) : Int32 := if yrOK S v = true then (gX (yrF v.toNatClampNeg S x)).1 21 else -1
theorem yrOK_k {S : GS} {v : Int32} (vd : GVd S) (e : yrOK S v = true) : 0 < gz S ∧ ∃ n, 1 ≤ n ∧ n ≤ 30 ∧ v = nI n ∧ tN (gX S).1 + n ≤ 999 := by
  unfold yrOK at e
  simp only [Bool.and_eq_true, decide_eq_true_eq] at e
  obtain ⟨⟨hz, e2⟩, e3⟩ := e
  obtain ⟨n, n1, n30, rfl⟩ := rg_k (lo := 1) (hi := 30) (by omega) (by omega) e2
  have t := (vd.xv hz).1.2.2.2.1
  rw [t.1, sr_add, sl_999, sr_le (by omega) (by omega)] at e3
  exact ⟨hz, n, n1, n30, rfl, e3⟩
theorem GVd_year {S : GS} {v : Int32} {x : Int64} (vd : GVd S) : GVd (gYear S v x) := by
  unfold gYear
  by_cases y : yrOK S v = true
  · rw [if_pos y]
    obtain ⟨hz, n, n1, n30, rfl, ht⟩ := yrOK_k vd y
    rw [sr_N (by omega)]
    exact (yrF_v n S x vd hz ht).1
  · rw [if_neg y]; exact vd
theorem yr_n {S : GS} {v : Int32} {x : Int64} {h' h : ajH} {P : Nat → Nat → Prop} {CC : GS → ajH → Prop} {Q : Option Value → ajH → Prop} (e : yrOK S v = false) (H : ∀ h', FR h h' P → CC (gYear S v x) h' → Q (some (.int (aYear S v x))) h') (f : FR h h' P) (c : CC S h') : Q (some (.int (-1))) h' := by
  have H2 := H h' f
  unfold gYear aYear at H2
  rw [e, if_neg (by decide), if_neg (by decide)] at H2
  exact H2 c
/-- the class heals -/
theorem S82h {q n k d : Nat} {h : ajH} {Q : Option Value → ajH → Prop} {X : XT} (hq : ajKw q 6) (n8 : n ≤ 8) (hk : k < n) (hs : ajShp h) (cx : cX h q n X) (y : X.1 (2 * k + 1) = 2)
    (H : ∀ h', FR h h' (fun o j => o = q ∧ j < 2) → cX h' q n (yrH X k) → Q none h') : ajEv d 82 0 [.ref q, .int (nI k)] [] h Q := by
  refine W82_0 hs hq ?_
  rintro _ rfl _ rfl
  have cs1 := cx.1
  rw [ajI_SI, if_neg (by omega), cs1.1.1, cs1.1.2.1, bt_def]
  have f2 : FR h (ajSI (ajSI h q 1 (mk (brB X.1) n &&& (bt k ^^^ -1))) q 0 (mk (onB X.1) n ||| bt k)) (fun o j => o = q ∧ j < 2) := FR_trans (FR_SI h ⟨rfl, by omega⟩) (FR_SI _ ⟨rfl, by omega⟩)
  have eH : yrH X k = (upR X.1 (2 * k + 1) 0, X.2) := by unfold yrH; rw [if_pos y]
  refine H _ f2 ?_
  rw [eH]
  refine ⟨?_, (FR_I f2 (by omega)).trans cx.2.1, fun e h1 h2 => (FR_I f2 (by omega)).trans (cx.2.2 e h1 h2)⟩
  refine CS_how n8 hk cs1 f2 ?_ ?_
  · rw [ajI_SI, if_pos ⟨rfl, rfl⟩, mk_set _ (by omega) hk]
    refine mk_congr _ (fun i hi => ?_)
    unfold onB
    by_cases y : i = k
    · subst y
      rw [upR_s, decide_eq_true (rfl : i = i), Bool.or_true]; rfl
    · rw [upR_n _ _ (by omega : ¬ 2 * i + 1 = 2 * k + 1), decide_eq_false y, Bool.or_false]
  · rw [ajI_SI, if_neg (by omega), ajI_SI, if_pos ⟨rfl, rfl⟩, mk_off _ (by omega) (by omega)]
    refine mk_congr _ (fun i hi => ?_)
    unfold brB
    by_cases y : i = k
    · subst y
      rw [upR_s, decide_eq_true (rfl : i = i)]
      simp
    · rw [upR_n _ _ (by omega : ¬ 2 * i + 1 = 2 * k + 1), decide_eq_false y]
      simp
theorem kY {S : GS} {X X2 : XT} {h1 h2 : ajH} {P : Nat → Nat → Prop} (c : CI (gKeep S X) h1) (f : FR h1 h2 P) (p : ∀ o j, P o j → PTk 54 o j) (cx : cX h2 54 (gz S) X2) : CI (gKeep S X2) h2 := by
  have ca : cA (gz S) (pushN (gna S)) (pushX (gna S) (gAX S) (gX S)) h1 := c.2.2.2.2.1
  exact CI_sX (S := gKeep S X) c f (fun o j z => Or.inr (p o j z)) cx (cA_FR ca f (fun o j z => by have y := p o j z; unfold PTk PCp PLw at y; unfold b5; omega))
theorem S89_151 {S : GS} {d i : Nat} {X : XT} {b : Bool} {x : Int64} {w : Int32} {h : ajH} {Q : Option Value → ajH → Prop} {u2 u3 u7 : Value} (vd : GVd S) (hz : 0 < gz S) (xv : XV (gz S) X) (hs : ajShp h) (c : CI (gKeep S X) h)
    (H : ∀ h', FR h h' PHd → ajShp h' → CI (gKeep S (xTurn (gE S) b X)) h' → ajEv (d + 5) 89 41 [.ref 1, .int w, ajU, ajU, .long x, ajU, .int (nI (i + 1)), ajU] [] h' Q) : ajEv (d + 5) 89 151 [.ref 1, .int w, u2, u3, .long x, ajU, .int (nI i), u7] [.int (flg b), .ref 54] h Q := by
  have vd1 : GVd (gKeep S X) := GVd_keep vd hz xv
  have ct := xv.2.1
  have t1 := xv.1.2.2.2.1.2
  have cx : cX h 54 (gz S) X := c.2.2.2.1
  refine W89_151 hs ?_
  refine S64 (S := gKeep S X) hs c.2.2.1 vd1 ?_
  intro s1
  refine ⟨_, rfl, ?_⟩
  refine S65 (E := gE S) (T := 1000) sQ_54 wQ_4 xv.1 (gE_ok vd) (gE_g vd) s1 (CI_CE (S := gKeep S X) c.2.1 vd1 hz) (CI_CL (S := gKeep S X) c.2.2.1 vd1) cx.1 ?_
  intro h1 f1 cs1 e13 e14 e15 s2
  refine ⟨rfl, ?_⟩
  refine S80 (d := d + 3) (ct := X.2.1) (LG := X.2.2) sQ_54 s2 (iDone_b _ _) (by omega) cs1 ((FR_I f1 (by unfold PCp PLw; omega)).trans cx.2.1) e13 e14 (fun e h1' h2 => (FR_I f1 (by unfold PCp PLw; omega)).trans (cx.2.2 e h1' h2)) ?_
  intro h2 f2 cx2 s3
  refine ⟨rfl, ?_⟩
  rw [nI_1]
  have f12 : FR h h2 (PTk 54) := FR_trans (FR_mono f1 (fun o j z => Or.inl z)) (FR_mono f2 (fun o j z => Or.inr (by omega)))
  exact H h2 (FR_mono f12 (fun o j z => Or.inr z)) s3 (kY c f12 (fun o j z => z) cx2)
theorem S89_100 {S : GS} {d i : Nat} {X : XT} {x : Int64} {w : Int32} {h : ajH} {Q : Option Value → ajH → Prop} {u2 u3 u7 : Value} (vd : GVd S) (hz : 0 < gz S) (xv : XV (gz S) X) (hs : ajShp h) (c : CI (gKeep S X) h)
    (H : ∀ h', FR h h' PHd → ajShp h' → CI (gKeep S (xTurn (gE S) (decide (bl (dr (dr x)) (nI 10) < gs S)) (upR X.1 17 (bl (dr x) (nI 10)), X.2))) h' → ajEv (d + 5) 89 41 [.ref 1, .int w, ajU, ajU, .long (dr (dr x)), ajU, .int (nI (i + 1)), ajU] [] h' Q) : ajEv (d + 5) 89 100 [.ref 1, .int w, u2, u3, .long x, ajU, .int (nI i), u7] [] h Q := by
  have z8 := vd.z8
  refine W89_100 hs ?_
  refine S90 hs ?_
  intro s1
  refine ⟨_, rfl, ?_⟩
  rw [sl_10]
  refine S91 s1 (by omega) (by omega) ?_
  intro s2
  refine ⟨_, rfl, ?_⟩
  rintro _ rfl
  have hw := bl_n (dr x) (show 0 < 10 by omega) (by omega)
  generalize bl (dr x) (nI 10) = wt at hw H
  have cx : cX h 54 (gz S) X := c.2.2.2.1
  have f1 : FR h (ajSI h 54 3 wt) (fun o j => o = 54 ∧ j = 3) := FR_SI h ⟨rfl, rfl⟩
  have cx1 : cX (ajSI h 54 3 wt) 54 (gz S) (upR X.1 17 wt, X.2) := ⟨CS_17 z8 cx.1 f1 (by rw [ajI_SI, if_pos ⟨rfl, rfl⟩]), (FR_I f1 (by omega)).trans cx.2.1, fun e h1 h2 => (FR_I f1 (by omega)).trans (cx.2.2 e h1 h2)⟩
  have s3 : ajShp (ajSI h 54 3 wt) := s2
  have c1 : CI (gKeep S (upR X.1 17 wt, X.2)) (ajSI h 54 3 wt) := kY c f1 (fun o j z => by unfold PTk; omega) cx1
  generalize ajSI h 54 3 wt = h1 at f1 s3 c1
  have f1' : FR h h1 PHd := FR_mono f1 (fun o j z => Or.inr (by unfold PTk; omega))
  refine S90 s3 ?_
  intro s4
  refine ⟨_, rfl, ?_⟩
  refine S91 s4 (by omega) (by omega) ?_
  intro s5
  refine ⟨_, rfl, ?_⟩
  have e10 : ajI h1 1 10 = gs S := c1.2.2.1.1.2.2.1
  rw [e10]
  have xv1 : XV (gz S) (upR X.1 17 wt, X.2) := XV_17 hw xv z8
  by_cases y : bl (dr (dr x)) (nI 10) < gs S
  · rw [if_neg (fa_nle y)]
    rw [decide_eq_true y] at H
    exact S89_151 (b := true) vd hz xv1 s5 c1 (fun h' g s' c' => H h' (FR_trans f1' g) s' c')
  · rw [if_pos (Int32.not_lt.mp y)]
    rw [decide_eq_false y] at H
    exact S89_151 (b := false) vd hz xv1 s5 c1 (fun h' g s' c' => H h' (FR_trans f1' g) s' c')
theorem S89_41 {d n : Nat} (n30 : n ≤ 30) : ∀ (f i : Nat) (S : GS) (x : Int64) (h : ajH) (Q : Option Value → ajH → Prop) (u2 u3 u7 : Value), i + f = n → GVd S → 0 < gz S → tN (gX S).1 + f ≤ 999 → ajShp h → CI S h →
    (∀ h', FR h h' PHd → CI (yrF f S x) h' → Q (some (.int ((gX (yrF f S x)).1 21))) h') → ajEv (d + 5) 89 41 [.ref 1, .int (nI n), u2, u3, .long x, ajU, .int (nI i), u7] [] h Q := by
  intro f
  induction f with
  | zero =>
    intro i S x h Q u2 u3 u7 hi vd hz ht hs c H
    rw [yrF_0] at H
    refine W89_41 hs ?_
    rw [if_pos (by rw [sr_le (by omega) (by omega)]; omega)]
    have e5 : ajI h 54 5 = (gX S).1 21 := c.2.2.2.1.1.1.2.2.2.2.2.1
    rw [e5]
    exact H h (FR_refl _ _) c
  | succ f ih =>
    intro i S x h Q u2 u3 u7 hi vd hz ht hs c H
    have z8 := vd.z8
    have k5 : cA (gz S) (gna S) (gAX S) h := c.2.2.2.2.1
    obtain ⟨hk, ek⟩ := yrK_l (x := x) hz z8
    have nx : ∀ h1, FR h h1 PHd → ajShp h1 → CI (gKeep S (yrH (gX S) (yrK S x))) h1 → ∀ u7, ajEv (d + 5) 89 100 [.ref 1, .int (nI n), ajU, ajU, .long (dr x), ajU, .int (nI i), u7] [] h1 Q := by
      intro h1 f1 s1 c1 u7
      refine S89_100 vd hz (yrH_v z8 hk (vd.xv hz)) s1 c1 ?_
      intro h2 f2 s2 c2
      have t2 := yrX_v (x := x) vd hz (by omega)
      have g2 := yrG_v (x := x) vd hz (by omega)
      have es := yrF_s f S x
      rw [yrX_e] at c2
      rw [es] at H
      generalize yrX S x = X at c2 t2 g2 H
      generalize dr (dr (dr x)) = x3 at c2 H ⊢
      exact ih (i + 1) (gKeep S X) x3 h2 Q _ _ _ (by omega) g2 (by rw [gz_keep]; exact hz) (by rw [gX_keep, t2.2]; omega) s2 c2 (fun h' g c' => H h' (FR_trans f1 (FR_trans f2 g)) c')
    refine W89_41 hs ?_
    rw [if_neg (by rw [sr_le (by omega) (by omega)]; omega)]
    refine S60 (d := d + 2) sQ_54 (by omega) z8 hs k5 c.2.2.2.1 (vd.xv hz).1.2.2.2.2.1 ?_
    intro h1 f1 ca1 s1
    refine ⟨rfl, ?_⟩
    have f1' : FR h h1 PHd := FR_mono f1 (fun o j z => Or.inl z)
    have cx1 : cX h1 54 (gz S) (gX S) := cX_FR c.2.2.2.1 f1 (fun o j z => by unfold PAc at z; omega)
    have c1 : CI (gKeep S (gX S)) h1 := CI_sX c f1' (fun o j z => z) cx1 ca1
    refine S90 s1 ?_
    intro s2
    refine ⟨_, rfl, ?_⟩
    have e4 : ajI h1 4 0 = nI (gz S) := c1.2.1.1
    rw [e4]
    refine S91 s2 hz (by omega) ?_
    intro s3
    refine ⟨_, rfl, ?_⟩
    rw [ek]
    refine S59c (ajKc rfl) s3 cx1.1 z8 hk ?_
    intro s4
    refine ⟨_, rfl, ?_⟩
    cases eb : brB (gX S).1 (yrK S x) with
    | false =>
      rw [if_pos (show flg false = 0 from rfl)]
      have y : ¬ (gX S).1 (2 * yrK S x + 1) = 2 := of_decide_eq_false eb
      have eH : yrH (gX S) (yrK S x) = gX S := by unfold yrH; rw [if_neg y]
      exact nx h1 f1' s4 (by rw [eH]; exact c1) _
    | true =>
      rw [if_neg (by decide)]
      have y : (gX S).1 (2 * yrK S x + 1) = 2 := of_decide_eq_true eb
      refine S82h (ajKc rfl) z8 hk s4 cx1 y ?_
      intro h2 f2 cx2 s5
      refine ⟨rfl, ?_⟩
      exact nx h2 (FR_trans f1' (FR_mono f2 (fun o j z => Or.inr (by unfold PTk; omega)))) s5 (kY c1 f2 (fun o j z => by unfold PTk; omega) cx2) _
theorem S89 {S : GS} {d : Nat} {v : Int32} {x : Int64} {h : ajH} {Q : Option Value → ajH → Prop} (hs : ajShp h) (c : CI S h) (vd : GVd S)
    (H : ∀ h', FR h h' PHd → CI (gYear S v x) h' → Q (some (.int (aYear S v x))) h') : ajEv (d + 5) 89 0 [.ref 1, .int v, .long x, ajU, ajU, ajU, ajU, ajU] [] h Q := by
  have z8 := vd.z8
  refine W89_0 hs ?_
  refine S56 hs c.2.1 z8 ?_
  intro s1
  refine ⟨_, rfl, ?_⟩
  by_cases hz : 0 < gz S
  · rw [decide_eq_true hz, if_neg (by decide)]
    by_cases y1 : v < 1
    · rw [if_pos y1]
      exact yr_n (by unfold yrOK rg; rw [decide_eq_true y1]; simp) H (FR_refl _ _) c
    · rw [if_neg y1]
      by_cases y2 : 30 < v
      · rw [if_pos y2]
        exact yr_n (by unfold yrOK rg; rw [decide_eq_true y2]; simp) H (FR_refl _ _) c
      · rw [if_neg y2]
        have e1 : rg 1 30 v = true := by unfold rg; rw [decide_eq_false y1, decide_eq_false y2]; rfl
        have e5 : ajI h 54 5 = (gX S).1 21 := c.2.2.2.1.1.1.2.2.2.2.2.1
        rw [e5]
        by_cases y3 : (gX S).1 21 + v ≤ 999
        · rw [if_pos y3]
          have ey : yrOK S v = true := by unfold yrOK; rw [decide_eq_true hz, e1, decide_eq_true y3]; rfl
          obtain ⟨_, n, n1, n30, rfl, ht⟩ := yrOK_k vd ey
          unfold gYear aYear at H
          simp only [if_pos ey, sr_N (show n < 2147483648 by omega)] at H
          exact S89_41 n30 n 0 S x h Q _ _ _ (by omega) vd hz ht s1 c H
        · rw [if_neg y3]
          exact yr_n (by unfold yrOK; rw [decide_eq_false y3, Bool.and_false]) H (FR_refl _ _) c
  · rw [decide_eq_false hz, if_pos (show flg false = 0 from rfl)]
    exact yr_n (by unfold yrOK; rw [decide_eq_false hz]; rfl) H (FR_refl _ _) c
/-! the reference -/
def PMy (o j : Nat) : Prop := PMd o j ∨ o = 320 ∧ j = 40
theorem kYm {S : GS} {X X2 : XT} {h1 h2 : ajH} {P : Nat → Nat → Prop} (c : MI (gKeep S X) h1) (f : FR h1 h2 P) (p : ∀ o j, P o j → Pst 331 o j ∨ o = 331 ∨ o = 320 ∧ (j = 0 ∨ j = 40)) (mx : mX h2 331 0 X2) (m8 : MemoOK h2 (gm S) (gTB S) (gTL S)) : MI (gKeep S X2) h2 := by
  obtain ⟨k1, k2, k3, k4, k5, k6, k7, _⟩ := c
  have g : ∀ o j, P o j → ¬ d1 o j ∧ ¬ d2 o j ∧ ¬ d3 o j ∧ ¬ d5 o j ∧ ¬ d6 o j ∧ ¬ d7 o j := fun o j z => by
    have y := p o j z
    unfold Pst PY at y
    unfold d1 d2 d3 d5 d6 d7
    omega
  exact ⟨r1_FR k1 f (fun o j z => (g o j z).1), r2_FR k2 f (fun o j z => (g o j z).2.1), r3_FR k3 f (fun o j z => (g o j z).2.2.1), mx, r5_FR k5 f (fun o j z => (g o j z).2.2.2.1), r6_FR k6 f (fun o j z => (g o j z).2.2.2.2.1), r7_FR k7 f (fun o j z => (g o j z).2.2.2.2.2), m8⟩
theorem S208_132 {S : GS} {d i : Nat} {X : XT} {b : Bool} {x : Int64} {w : Int32} {h : ajH} {Q : Option Value → ajH → Prop} {u2 u3 u5 u6 : Value} (vd : GVd S) (hz : 0 < gz S) (xv : XV (gz S) X) (hs : ajShp h) (c : MI (gKeep S X) h) (ex : ajL h 320 40 = x)
    (H : ∀ h' u6, FR h h' PMy → ajShp h' → MI (gKeep S (xTurn (gE S) b X)) h' → ajL h' 320 40 = x → ajEv (d + 39) 208 49 [.ref 320, .int w, ajU, ajU, .int (nI (i + 1)), ajU, u6] [] h' Q) : ajEv (d + 39) 208 132 [.ref 320, .int w, u2, u3, .int (nI i), u5, u6] [.int (flg b), .ref 331, .ref 320] h Q := by
  have vd1 : GVd (gKeep S X) := GVd_keep vd hz xv
  have mx : mX h 331 0 X := c.2.2.2.1
  refine W208_132 hs ?_
  refine S188n (E := gE S) (s := b) (Or.inl rfl) hs (MI_ME (S := gKeep S X) c.2.1 vd1 hz) (gE_ok vd) (MI_MV (S := gKeep S X) c.2.2.1 c.1 c.2.2.2.2.2.2.2 vd1) mx xv ?_
  intro h1 f1 mv1 mx1 _ _ s1
  refine ⟨_, rfl, ?_⟩
  rw [nI_1]
  have f1' : FR h h1 PMy := FR_mono f1 (fun o j z => by unfold PG at z; unfold PMy PMd; rcases z with z | z; exact Or.inl (Or.inl z); exact Or.inl (Or.inr (Or.inl z)))
  exact H h1 _ f1' s1 (kYm c f1 (fun o j z => by unfold PG at z; rcases z with z | z; exact Or.inl z; exact Or.inr (Or.inl z)) mx1 mv1.2.1) ((FR_L f1 (by unfold PG Pst PY; omega)).trans ex)
theorem S208_96 {S : GS} {d i : Nat} {X : XT} {x : Int64} {w : Int32} {h : ajH} {Q : Option Value → ajH → Prop} {u2 u3 u5 u6 : Value} (vd : GVd S) (hz : 0 < gz S) (xv : XV (gz S) X) (hs : ajShp h) (c : MI (gKeep S X) h) (ex : ajL h 320 40 = x)
    (H : ∀ h' u6, FR h h' PMy → ajShp h' → MI (gKeep S (xTurn (gE S) (decide (bl (dr (dr x)) (nI 10) < gs S)) (upR X.1 17 (bl (dr x) (nI 10)), X.2))) h' → ajL h' 320 40 = dr (dr x) → ajEv (d + 39) 208 49 [.ref 320, .int w, ajU, ajU, .int (nI (i + 1)), ajU, u6] [] h' Q) : ajEv (d + 39) 208 96 [.ref 320, .int w, u2, u3, .int (nI i), u5, u6] [] h Q := by
  have z8 := vd.z8
  refine W208_96 hs ?_
  rw [sl_10]
  refine S209 hs (by omega) (by omega) ex ?_
  intro h1 f1 e1 s1
  refine ⟨_, rfl, ?_⟩
  rintro _ rfl
  have hw := bl_n (dr x) (show 0 < 10 by omega) (by omega)
  generalize bl (dr x) (nI 10) = wt at hw H
  have mx : mX h 331 0 X := c.2.2.2.1
  have mx1 : mX h1 331 0 X := mX_FR mx f1 (fun j => by omega)
  have mx2 := mX_up (x := wt) mx1 (show 17 < 22 by omega)
  have f2 : FR h1 (ajSI h1 331 17 wt) (fun o j => o = 331) := FR_SI h1 rfl
  have s2 : ajShp (ajSI h1 331 17 wt) := s1
  generalize ajSI h1 331 17 wt = h2 at mx2 f2 s2
  have e2 : ajL h2 320 40 = dr x := (FR_L f2 (by omega)).trans e1
  have f02 : FR h h2 (fun o j => o = 331 ∨ o = 320 ∧ j = 40) := FR_trans (FR_mono f1 (fun o j z => Or.inr z)) (FR_mono f2 (fun o j z => Or.inl z))
  have c2 : MI (gKeep S (upR X.1 17 wt, X.2)) h2 := kYm c f02 (fun o j z => by omega) mx2 (MemoOK_FR c.2.2.2.2.2.2.2 f02 (fun j => by omega))
  refine S209 s2 (by omega) (by omega) e2 ?_
  intro h3 f3 e3 s3
  refine ⟨_, rfl, ?_⟩
  have mx3 : mX h3 331 0 (upR X.1 17 wt, X.2) := mX_FR mx2 f3 (fun j => by omega)
  have c3 : MI (gKeep S (upR X.1 17 wt, X.2)) h3 := kYm c2 f3 (fun o j z => by omega) mx3 (MemoOK_FR c2.2.2.2.2.2.2.2 f3 (fun j => by omega))
  have f03 : FR h h3 PMy := FR_trans (FR_mono f02 (fun o j z => by unfold PMy PMd; omega)) (FR_mono f3 (fun o j z => by unfold PMy PMd; omega))
  have e31 : ajI h3 320 31 = gs S := c3.2.2.1.1.2.2.1
  rw [e31]
  have xv1 : XV (gz S) (upR X.1 17 wt, X.2) := XV_17 hw xv z8
  by_cases y : bl (dr (dr x)) (nI 10) < gs S
  · rw [if_neg (fa_nle y)]
    rw [decide_eq_true y] at H
    exact S208_132 (b := true) vd hz xv1 s3 c3 e3 (fun h' u6 g s' c' e' => H h' u6 (FR_trans f03 g) s' c' e')
  · rw [if_pos (Int32.not_lt.mp y)]
    rw [decide_eq_false y] at H
    exact S208_132 (b := false) vd hz xv1 s3 c3 e3 (fun h' u6 g s' c' e' => H h' u6 (FR_trans f03 g) s' c' e')
theorem S208_49 {d n : Nat} (n30 : n ≤ 30) : ∀ (f i : Nat) (S : GS) (x : Int64) (h : ajH) (Q : Option Value → ajH → Prop) (u2 u3 u5 u6 : Value), i + f = n → GVd S → 0 < gz S → tN (gX S).1 + f ≤ 999 → ajShp h → MI S h → ajL h 320 40 = x →
    (∀ h', FR h h' PMy → MI (yrF f S x) h' → Q (some (.int ((gX (yrF f S x)).1 21))) h') → ajEv (d + 39) 208 49 [.ref 320, .int (nI n), u2, u3, .int (nI i), u5, u6] [] h Q := by
  intro f
  induction f with
  | zero =>
    intro i S x h Q u2 u3 u5 u6 hi vd hz ht hs c ex H
    rw [yrF_0] at H
    refine W208_49 hs ?_
    rw [if_pos (by rw [sr_le (by omega) (by omega)]; omega), (mX0 c.2.2.2.1).1 21 (by omega)]
    exact H h (FR_refl _ _) c
  | succ f ih =>
    intro i S x h Q u2 u3 u5 u6 hi vd hz ht hs c ex H
    have z8 := vd.z8
    obtain ⟨hk, ek⟩ := yrK_l (x := x) hz z8
    have nx : ∀ h1, FR h h1 PMy → ajShp h1 → MI (gKeep S (yrH (gX S) (yrK S x))) h1 → ajL h1 320 40 = dr x → ∀ u5, ajEv (d + 39) 208 96 [.ref 320, .int (nI n), ajU, ajU, .int (nI i), u5, ajU] [] h1 Q := by
      intro h1 f1 s1 c1 e1 u5
      refine S208_96 vd hz (yrH_v z8 hk (vd.xv hz)) s1 c1 e1 ?_
      intro h2 u6 f2 s2 c2 e2
      have t2 := yrX_v (x := x) vd hz (by omega)
      have g2 := yrG_v (x := x) vd hz (by omega)
      have es := yrF_s f S x
      rw [yrX_e] at c2
      rw [es] at H
      generalize yrX S x = X at c2 t2 g2 H
      generalize dr (dr (dr x)) = x3 at c2 e2 H
      exact ih (i + 1) (gKeep S X) x3 h2 Q _ _ _ _ (by omega) g2 (by rw [gz_keep]; exact hz) (by rw [gX_keep, t2.2]; omega) s2 c2 e2 (fun h' g c' => H h' (FR_trans f1 (FR_trans f2 g)) c')
    refine W208_49 hs ?_
    rw [if_neg (by rw [sr_le (by omega) (by omega)]; omega)]
    refine S187 hs c.2.2.2.2.1 c.2.2.2.1 ?_
    intro h1 f1 ra1 s1
    refine ⟨rfl, ?_⟩
    have f1d : FR h h1 PMd := FR_mono f1 (fun o j z => by unfold PMd; exact Or.inr (Or.inr (Or.inl z)))
    have mx1 : mX h1 331 0 (gX S) := mX_FR c.2.2.2.1 f1 (fun j => by unfold PRm; omega)
    have c1 : MI (gKeep S (gX S)) h1 := MI_sX c f1d (fun o j z => z) mx1 ra1 (MemoOK_FR c.2.2.2.2.2.2.2 f1 (fun j => by unfold PRm; omega))
    have e24 : ajI h1 320 24 = nI (gz S) := c1.2.1.1
    rw [e24]
    refine S209 s1 hz (by omega) ((FR_L f1 (by unfold PRm; omega)).trans ex) ?_
    intro h2 f2 e2 s2
    refine ⟨_, rfl, ?_⟩
    have mx2 : mX h2 331 0 (gX S) := mX_FR mx1 f2 (fun j => by omega)
    have c2 : MI (gKeep S (gX S)) h2 := kYm c1 f2 (fun o j z => by omega) mx2 (MemoOK_FR c1.2.2.2.2.2.2.2 f2 (fun j => by omega))
    have f02 : FR h h2 PMy := FR_trans (FR_mono f1d (fun o j z => Or.inl z)) (FR_mono f2 (fun o j z => Or.inr z))
    rw [ek, sl_2, sr_mul, sl_1, sr_add, sr_in (by omega), sr_N (by omega), ← sl_2, (mX0 mx2).1 _ (by omega)]
    refine ⟨by omega, ?_⟩
    by_cases y : (gX S).1 (2 * yrK S x + 1) = 2
    · rw [if_neg (fun z => z y)]
      refine ⟨by omega, ?_⟩
      rintro _ rfl
      have eH : yrH (gX S) (yrK S x) = (upR (gX S).1 (2 * yrK S x + 1) 0, (gX S).2) := by unfold yrH; rw [if_pos y]
      have mx3 := mX_up (x := 0) mx2 (show 2 * yrK S x + 1 < 22 by omega)
      have f3 : FR h2 (ajSI h2 331 (2 * yrK S x + 1) 0) (fun o j => o = 331) := FR_SI h2 rfl
      refine nx _ (FR_trans f02 (FR_mono f3 (fun o j z => by unfold PMy PMd; omega))) s2 ?_ ((FR_L f3 (by omega)).trans e2) _
      rw [eH]
      exact kYm c2 f3 (fun o j z => by omega) mx3 (MemoOK_FR c2.2.2.2.2.2.2.2 f3 (fun j => by omega))
    · rw [if_pos y]
      have eH : yrH (gX S) (yrK S x) = gX S := by unfold yrH; rw [if_neg y]
      exact nx h2 f02 s2 (by rw [eH]; exact c2) e2 _
theorem S208 {S : GS} {d : Nat} {v : Int32} {x : Int64} {h : ajH} {Q : Option Value → ajH → Prop} (hs : ajShp h) (c : MI S h) (vd : GVd S)
    (H : ∀ h', FR h h' PMy → MI (gYear S v x) h' → Q (some (.int (aYear S v x))) h') : ajEv (d + 39) 208 0 [.ref 320, .int v, .long x, ajU, ajU, ajU, ajU] [] h Q := by
  have z8 := vd.z8
  refine W208_0 hs ?_
  rintro _ rfl
  have c0 := MI_0 (x := 0) c
  have f0 : FR h (ajSI h 320 0 0) PMy := FR_SI h (by unfold PMy PMd; omega)
  have s0 : ajShp (ajSI h 320 0 0) := hs
  generalize ajSI h 320 0 0 = h0 at c0 f0 s0
  rw [c0.2.1.1]
  by_cases hz : 0 < gz S
  · rw [if_neg (nI_ne0 hz (by omega))]
    refine S145r (lo := 1) (hi := 30) s0 ?_
    intro s1
    refine ⟨_, rfl, ?_⟩
    cases e1 : rg 1 30 v with
    | false =>
      rw [if_pos (show flg false = 0 from rfl)]
      exact yr_n (by unfold yrOK; rw [e1]; simp) H f0 c0
    | true =>
      rw [if_neg (by decide), (mX0 c0.2.2.2.1).1 21 (by omega)]
      by_cases y3 : (gX S).1 21 + v ≤ 999
      · rw [if_pos y3]
        have ey : yrOK S v = true := by unfold yrOK; rw [decide_eq_true hz, e1, decide_eq_true y3]; rfl
        obtain ⟨_, n, n1, n30, rfl, ht⟩ := yrOK_k vd ey
        unfold gYear aYear at H
        simp only [if_pos ey, sr_N (show n < 2147483648 by omega)] at H
        rintro _ rfl
        have f1 : FR h0 (ajSL h0 320 40 x) (fun o j => o = 320 ∧ j = 40) := FR_SL h0 ⟨rfl, rfl⟩
        have s2 : ajShp (ajSL h0 320 40 x) := s1
        have e2 : ajL (ajSL h0 320 40 x) 320 40 = x := by rw [ajL_SL, if_pos ⟨rfl, rfl⟩]
        generalize ajSL h0 320 40 x = h1 at f1 s2 e2
        have c1 : MI S h1 := MI_FR8 c0 f1 (fun o j z => by unfold d1 d2 d3 d4 d5 d6 d7; omega)
        exact S208_49 n30 n 0 S x h1 Q _ _ _ _ (by omega) vd hz ht s2 c1 e2 (fun h' g c' => H h' (FR_trans f0 (FR_trans (FR_mono f1 (fun o j z => Or.inr z)) g)) c')
      · rw [if_neg y3]
        exact yr_n (by unfold yrOK; rw [decide_eq_false y3, Bool.and_false]) H f0 c0
  · rw [show gz S = 0 by omega, if_pos (show nI 0 = 0 from rfl)]
    exact yr_n (by unfold yrOK; rw [decide_eq_false hz]; rfl) H f0 c0
