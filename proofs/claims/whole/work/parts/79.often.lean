/-! Turns without opinions; who is down how often; who breaks first. -/
def CB (h : ajH) (q n : Nat) (R : Nat → Int32) : Prop := ajI h q 0 = mk (onB R) n ∧ ajI h q 1 = mk (brB R) n ∧ ajI h q 2 = R 16
theorem CS_CB {h : ajH} {q n : Nat} {R : Nat → Int32} (c : CS h q n R) : CB h q n R := ⟨c.1.1, c.1.2.1, c.1.2.2.1⟩
theorem S72b {d q n k : Nat} {h : ajH} {Q : Option Value → ajH → Prop} {R : Nat → Int32} (hq : ajKw q 6) (hs : ajShp h) (c : CB h q n R) (n8 : n ≤ 8) (hk : k < n) (H : Q (some (.int (flg (onB R k)))) h) : ajEv d 72 0 [.ref q, .int (nI k)] [] h Q := by
  refine S72 hq hs (by omega) ?_
  rw [c.1, on_k n8 hk]; exact H
theorem S59b {d q n k : Nat} {h : ajH} {Q : Option Value → ajH → Prop} {R : Nat → Int32} (hq : ajKw q 6) (hs : ajShp h) (c : CB h q n R) (n8 : n ≤ 8) (hk : k < n) (H : Q (some (.int (flg (brB R k)))) h) : ajEv d 59 0 [.ref q, .int (nI k)] [] h Q := by
  refine W59_0 hs hq ?_
  rw [c.2.1, if_neg (by rw [sr_lt0 (by omega)]; exact fun z => z), if_neg (by rw [sl_8, sr_le (by omega) (by omega)]; omega)]
  have e2 := br_k (R := R) n8 hk
  cases e : brB R k with
  | false => rw [if_pos (by rw [hb_sh0 _ (by omega), e2]; exact e)]; rw [e] at H; exact H
  | true => rw [if_neg (by rw [hb_sh0 _ (by omega), e2, e]; exact fun z => by cases z)]; rw [e] at H; exact H
theorem od_fall {n : Nat} {R : Nat → Int32} {p : Nat → Bool} (n8 : n ≤ 8) : ∀ k, k < n → iFall (mk p n) R (2 * k + 1) = if p k = true then 2 else R (2 * k + 1) := fun k hk => by
  unfold iFall
  rw [show (2 * k + 1) / 2 = k by omega, hb_mk _ _ (by omega) k (by omega), decide_eq_true hk, Bool.true_and]
  by_cases e : p k = true
  · rw [if_pos ⟨by omega, by omega, e⟩, if_pos e]
  · rw [if_neg (fun z => e z.2.2), if_neg e]
theorem iTurn_f (E : EV) (R : Nat → Int32) : iTurn E false R = iGo (eN E) R := if_neg (by decide)
theorem iTurn_t (E : EV) (R : Nat → Int32) : iTurn E true R = R := if_pos rfl
theorem on_nx {E : EV} (n8 : eN E ≤ 8) (R : Nat → Int32) : mk (onB R) (eN E) &&& (bmO E (iGo (eN E) R) ^^^ -1) = mk (onB (iNx E R)) (eN E) := by
  have ex := fun k (hk : k < eN E) => iNx_od E n8 R (k := k) (by omega)
  unfold bmO at ex ⊢
  rw [ov_mk] at ex ⊢
  rw [mk_dif _ _ (by omega)]
  refine mk_congr _ (fun k hk => ?_)
  unfold onB
  rw [ex k hk, od_fall n8 k hk]
  cases e : (hb (onM (eN E) (iGo (eN E) R)) k && decide (eS E k < br E (onM (eN E) (iGo (eN E) R)) (bN (iGo (eN E) R)) k)) with
  | true => rw [if_pos rfl]; simp
  | false => rw [if_neg (by decide)]; simp
theorem br_nx {E : EV} (n8 : eN E ≤ 8) (R : Nat → Int32) : mk (brB R) (eN E) ||| bmO E (iGo (eN E) R) = mk (brB (iNx E R)) (eN E) := by
  have ex := fun k (hk : k < eN E) => iNx_od E n8 R (k := k) (by omega)
  unfold bmO at ex ⊢
  rw [ov_mk] at ex ⊢
  rw [mk_or _ _ (by omega)]
  refine mk_congr _ (fun k hk => ?_)
  unfold brB
  rw [ex k hk, od_fall n8 k hk]
  cases e : (hb (onM (eN E) (iGo (eN E) R)) k && decide (eS E k < br E (onM (eN E) (iGo (eN E) R)) (bN (iGo (eN E) R)) k)) with
  | true => rw [if_pos rfl]; simp
  | false => rw [if_neg (by decide)]; simp
theorem go_on (n : Nat) (n8 : n ≤ 8) (R : Nat → Int32) : onM n (iGo n R) = mk (onB R) n := by
  unfold onM
  refine mk_congr _ (fun k hk => ?_)
  unfold onB iGo
  rw [upR_n _ _ (by omega)]
theorem S121 {S : GS} {d T : Nat} {h : ajH} {Q : Option Value → ajH → Prop} {R : Nat → Int32} (hs : ajShp h) (c : CI S h) (vd : GVd S) (hz : 0 < gz S) (rv : RV (gz S) T R) (cb : CB h 59 (gz S) R)
    (H : ∀ h', FR h h' PTr → CI S h' → CB h' 59 (gz S) (iNx (gE S) R) → Q none h') : ajEv (d + 3) 121 0 [.ref 59, .ref 4] [] h Q := by
  have z8 := vd.z8
  have ce := CI_CE c.2.1 vd hz
  have eg := (RV_go rv z8).2
  have hlt := Nat.mod_lt (bN R + 1) hz
  refine W121_0 hs (ajKc rfl) (ajKc rfl) ?_
  rw [cb.2.2, rv.1.1]
  refine S66 hs (ajKc rfl) c.2.1.1 z8 rv.1.2 ?_
  intro s1
  refine ⟨_, rfl, ?_⟩
  rintro _ rfl
  have f1 : FR h (ajSI h 59 2 (nI ((bN R + 1) % gz S))) (fun o j => o = 59 ∧ j = 2) := FR_SI h ⟨rfl, rfl⟩
  have e12 : ajI (ajSI h 59 2 (nI ((bN R + 1) % gz S))) 59 2 = nI ((bN R + 1) % gz S) := by rw [ajI_SI, if_pos ⟨rfl, rfl⟩]
  have s2 : ajShp (ajSI h 59 2 (nI ((bN R + 1) % gz S))) := hs
  generalize ajSI h 59 2 (nI ((bN R + 1) % gz S)) = h1 at f1 e12 s2
  have e10 : ajI h1 59 0 = mk (onB R) (gz S) := (FR_I f1 (by omega)).trans cb.1
  have e11 : ajI h1 59 1 = mk (brB R) (gz S) := (FR_I f1 (by omega)).trans cb.2.1
  rw [e10, e12]
  refine S67 (E := gE S) (ajKc rfl) (ajKc rfl) (by omega) s2 (CE_FR ce f1 (by omega) (fun j => by omega)) hlt ?_
  intro h2 f2 x2 s3
  refine ⟨_, rfl, ?_⟩
  have ebm : ov (gE S) (mk (onB R) (gz S)) ((bN R + 1) % gz S) = bmO (gE S) (iGo (gz S) R) := by
    unfold bmO
    rw [eg, ← go_on (gz S) z8 R]; rfl
  rw [ebm]
  refine W71_0 s3 (ajKc rfl) ?_
  rintro _ rfl _ rfl _ rfl
  intro s4
  refine ⟨rfl, ?_⟩
  generalize hbm : bmO (gE S) (iGo (gz S) R) = bm at *
  have on1 : mk (onB R) (gz S) &&& (bm ^^^ -1) = mk (onB (iNx (gE S) R)) (gz S) := by rw [← hbm]; exact on_nx (E := gE S) z8 R
  have br1 : mk (brB R) (gz S) ||| bm = mk (brB (iNx (gE S) R)) (gz S) := by rw [← hbm]; exact br_nx (E := gE S) z8 R
  have f3 : FR h2 (ajSI (ajSI (ajSI h2 59 13 bm) 59 0 (ajI (ajSI h2 59 13 bm) 59 0 &&& (bm ^^^ -1))) 59 1 (ajI (ajSI (ajSI h2 59 13 bm) 59 0 (ajI (ajSI h2 59 13 bm) 59 0 &&& (bm ^^^ -1))) 59 1 ||| bm)) (fun o j => o = 59 ∧ ¬ j = 2) := FR_trans (FR_trans (FR_SI h2 ⟨rfl, by omega⟩) (FR_SI _ ⟨rfl, by omega⟩)) (FR_SI _ ⟨rfl, by omega⟩)
  have f03 : FR h (ajSI (ajSI (ajSI h2 59 13 bm) 59 0 (ajI (ajSI h2 59 13 bm) 59 0 &&& (bm ^^^ -1))) 59 1 (ajI (ajSI (ajSI h2 59 13 bm) 59 0 (ajI (ajSI h2 59 13 bm) 59 0 &&& (bm ^^^ -1))) 59 1 ||| bm)) PTr := FR_trans (FR_trans (FR_mono f1 (fun o j z => by unfold PTr; omega)) (FR_mono f2 (fun o j z => by unfold PTr; omega))) (FR_mono f3 (fun o j z => by unfold PTr; omega))
  refine H _ f03 (CI_tr c f03 (fun o j z => z)) ⟨?_, ?_, ?_⟩
  · rw [ajI_SI, if_neg (by omega), ajI_SI, if_pos ⟨rfl, rfl⟩, ajI_SI, if_neg (by omega), FR_I f2 (by omega), e10]
    exact on1
  · rw [ajI_SI, if_pos ⟨rfl, rfl⟩, ajI_SI, if_neg (by omega), ajI_SI, if_neg (by omega), FR_I f2 (by omega), e11]
    exact br1
  · rw [FR_I f3 (by omega), FR_I f2 (by omega), e12]
    exact (iNx_16 (gE S) z8 R).symm
/-- in a span -/
def rg (lo hi v : Int32) : Bool := !decide (v < lo) && !decide (hi < v)
theorem rg_eq (lo hi v : Int32) : (if v < lo then (0 : Int32) else if hi < v then 0 else 1) = flg (rg lo hi v) := by
  unfold rg
  by_cases y : v < lo
  · rw [if_pos y, decide_eq_true y]; rfl
  · rw [if_neg y, decide_eq_false y]
    by_cases y2 : hi < v
    · rw [if_pos y2, decide_eq_true y2]; rfl
    · rw [if_neg y2, decide_eq_false y2]; rfl
theorem rg_k {lo hi : Nat} {v : Int32} (hh : hi < 1000000) (hl : lo < 1000000) (c : rg (nI lo) (nI hi) v = true) : ∃ k, lo ≤ k ∧ k ≤ hi ∧ v = nI k := by
  unfold rg at c
  simp only [Bool.and_eq_true, Bool.not_eq_true', decide_eq_false_iff_not] at c
  obtain ⟨c1, c2⟩ := c
  have n0 : ¬ v < 0 := fun z => c1 (by
    rw [Int32.lt_iff_toInt_lt] at z ⊢
    have e0 : (0 : Int32).toInt = 0 := rfl
    rw [sr_toInt (by omega)]
    omega)
  obtain ⟨j, hj, rfl⟩ := sr_of n0
  rw [sr_lt (by omega) (by omega)] at c1 c2
  exact ⟨j, by omega, by omega, rfl⟩
theorem S145r {d : Nat} {h : ajH} {Q : Option Value → ajH → Prop} {x lo hi : Int32} (hs : ajShp h) (H : Q (some (.int (flg (rg lo hi x)))) h) : ajEv d 145 0 [.long x.toInt64, ajU, .long lo.toInt64, ajU, .long hi.toInt64, ajU] [] h Q := by
  refine S145 hs ?_
  rw [rg_eq]; exact H
/-- who is down how often -/
noncomputable def otF (E : EV) (k : Nat) : Nat → (Nat → Int32) → Int32 → Int32
  | 0, _, a => a
  | f + 1, R, a => otF E k f (iNx E R) (if iNx E R 16 = nI k ∧ onB (iNx E R) k = true then a + 1 else a)
noncomputable def aOften (S : GS) (v1 v2 : Int32) : Int32 := if (isp (gz S) v1 && rg 1 99 v2) = true then otF (gE S) v1.toNatClampNeg v2.toNatClampNeg (gX S).1 0 else -1
theorem of_n {S : GS} {v1 v2 : Int32} {h : ajH} {Q : Option Value → ajH → Prop} (H : Q (some (.int (aOften S v1 v2))) h) (e : (isp (gz S) v1 && rg 1 99 v2) = false) : Q (some (.int (-1))) h := by
  unfold aOften at H
  rw [e, if_neg (by decide)] at H
  exact H
theorem S120_37 {S : GS} {d k n : Nat} (vd : GVd S) (hk : k < gz S) (hn : n ≤ 99) : ∀ (f i : Nat) (h : ajH) (Q : Option Value → ajH → Prop) (R : Nat → Int32) (T : Nat) (a : Int32), i + f = n → ajShp h → CI S h → RV (gz S) T R → T + f ≤ 100000 → CB h 59 (gz S) R →
    (∀ h', FR h h' PTr → CI S h' → Q (some (.int (otF (gE S) k f R a))) h') → ajEv (d + 4) 120 37 [.ref 1, .int (nI k), .int (nI n), .int a, .int (nI i)] [] h Q := by
  have z8 := vd.z8
  intro f
  induction f with
  | zero =>
    intro i h Q R T a hi hs c rv hT cb H
    refine W120_37 hs ?_
    rw [if_pos (by rw [sr_le (by omega) (by omega)]; omega)]
    exact H h (FR_refl _ _) c
  | succ f ih =>
    intro i h Q R T a hi hs c rv hT cb H
    refine W120_37 hs ?_
    rw [if_neg (by rw [sr_le (by omega) (by omega)]; omega), nI_1]
    refine S121 hs c vd (by omega) rv cb ?_
    intro h1 f1 c1 cb1 s1
    refine ⟨rfl, ?_⟩
    have rv1 : RV (gz S) (T + 1) (iNx (gE S) R) := RV_nx (gE_g vd) (gE_ok vd) z8 rv (by omega)
    have es : otF (gE S) k (f + 1) R a = otF (gE S) k f (iNx (gE S) R) (if iNx (gE S) R 16 = nI k ∧ onB (iNx (gE S) R) k = true then a + 1 else a) := rfl
    rw [es] at H
    have e16 := cb1.2.2
    generalize iNx (gE S) R 16 = v16 at H e16
    have go : ∀ (a' : Int32), a' = (if v16 = nI k ∧ onB (iNx (gE S) R) k = true then a + 1 else a) → ajEv (d + 4) 120 37 [.ref 1, .int (nI k), .int (nI n), .int a', .int (nI (i + 1))] [] h1 Q := by
      intro a' e'
      rw [← e'] at H
      exact ih (i + 1) h1 Q _ (T + 1) a' (by omega) s1 c1 rv1 (by omega) cb1 (fun h' g c' => H h' (FR_trans f1 g) c')
    rw [e16]
    by_cases e : v16 = nI k
    · rw [if_neg (fun z => z e)]
      refine S72b (ajKc rfl) s1 cb1 z8 hk ?_
      intro s2
      refine ⟨_, rfl, ?_⟩
      cases eo : onB (iNx (gE S) R) k with
      | false =>
        rw [if_pos (show flg false = 0 from rfl)]
        exact go a (by rw [eo, if_neg (fun z => by cases z.2)])
      | true =>
        rw [if_neg (by decide)]
        exact go (a + 1) (by rw [eo, if_pos ⟨e, rfl⟩])
    · rw [if_pos e]
      exact go a (by rw [if_neg (fun z => e z.1)])
theorem rg_le {lo hi : Nat} {v : Int32} (hl : lo < 1000000) (hh : hi < 1000000) : rg (nI lo) (nI hi) v = (!decide (v < nI lo) && decide (v ≤ nI hi)) := by
  unfold rg
  congr 1
  by_cases y : nI hi < v
  · rw [decide_eq_true y, decide_eq_false (fa_nle y)]; rfl
  · rw [decide_eq_false y, decide_eq_true (fa_nlt y)]; rfl
theorem S120 {S : GS} {d : Nat} {v1 v2 : Int32} {h : ajH} {Q : Option Value → ajH → Prop} (hs : ajShp h) (c : CI S h) (vd : GVd S)
    (H : ∀ h', FR h h' PTr → CI S h' → Q (some (.int (aOften S v1 v2))) h') : ajEv (d + 4) 120 0 [.ref 1, .int v1, .int v2, ajU, ajU] [] h Q := by
  have z8 := vd.z8
  have H0 := H h (FR_refl _ _) c
  refine W120_0 hs ?_
  refine S58 hs c.2.1 ?_
  intro s1
  refine ⟨_, rfl, ?_⟩
  cases e1 : isp (gz S) v1 with
  | false =>
    rw [if_pos (show flg false = 0 from rfl)]
    exact of_n H0 (by rw [e1]; rfl)
  | true =>
    rw [if_neg (by decide)]
    obtain ⟨k, hk, rfl⟩ := isp_k z8 e1
    have er := rg_le (lo := 1) (hi := 99) (v := v2) (by omega) (by omega)
    by_cases y1 : v2 < 1
    · rw [if_pos y1]
      exact of_n H0 (by rw [show (1 : Int32) = nI 1 from rfl, show (99 : Int32) = nI 99 from rfl, er, decide_eq_true (show v2 < nI 1 from y1)]; simp)
    · rw [if_neg y1]
      by_cases y2 : v2 ≤ 99
      · rw [if_pos y2]
        have e2 : rg 1 99 v2 = true := by rw [show (1 : Int32) = nI 1 from rfl, show (99 : Int32) = nI 99 from rfl, er, decide_eq_false (show ¬ v2 < nI 1 from y1), decide_eq_true (show v2 ≤ nI 99 from y2)]; rfl
        obtain ⟨n, n1, n99, rfl⟩ := rg_k (lo := 1) (hi := 99) (by omega) (by omega) e2
        unfold aOften at H
        rw [e1, e2, if_pos (show (true && true) = true from rfl), sr_N (by omega), sr_N (by omega)] at H
        refine cFo s1 c vd (by omega) ?_
        intro h1 f1 c1 cs1 s2
        refine ⟨rfl, ?_⟩
        exact S120_37 vd hk n99 n 0 h1 Q _ 1000 0 (by omega) s2 c1 (vd.xv (by omega)).1 (by omega) (CS_CB cs1) (fun h' g c' => H h' (FR_trans f1 g) c')
      · rw [if_neg y2]
        exact of_n H0 (by rw [show (1 : Int32) = nI 1 from rfl, show (99 : Int32) = nI 99 from rfl, er, decide_eq_false (show ¬ v2 ≤ nI 99 from y2)]; simp)
theorem S232_43 {S : GS} {d k n : Nat} (vd : GVd S) (hk : k < gz S) (hn : n ≤ 99) : ∀ (f i : Nat) (h : ajH) (Q : Option Value → ajH → Prop) (R : Nat → Int32) (T : Nat) (a : Int32) (u5 : Value), i + f = n → ajShp h → MI S h → RV (gz S) T R → T + f ≤ 100000 → RW h 332 R →
    (∀ h', FR h h' PMt → MI S h' → Q (some (.int (otF (gE S) k f R a))) h') → ajEv (d + 38) 232 43 [.ref 320, .int (nI k), .int (nI n), .int a, .int (nI i), u5] [] h Q := by
  have z8 := vd.z8
  intro f
  induction f with
  | zero =>
    intro i h Q R T a u5 hi hs c rv hT mw H
    refine W232_43 hs ?_
    rw [if_pos (by rw [sr_le (by omega) (by omega)]; omega)]
    exact H h (FR_refl _ _) c
  | succ f ih =>
    intro i h Q R T a u5 hi hs c rv hT mw H
    refine W232_43 hs ?_
    rw [if_neg (by rw [sr_le (by omega) (by omega)]; omega), nI_1]
    refine mTr (s := false) hs c vd (by omega) rv (by omega) mw ?_
    intro h1 f1 c1 mw1 _ _ s1
    refine ⟨_, rfl, ?_⟩
    have rv1 : RV (gz S) (T + 1) (iNx (gE S) R) := RV_nx (gE_g vd) (gE_ok vd) z8 rv (by omega)
    have mw1 : RW h1 332 (iNx (gE S) R) := mw1
    have es : otF (gE S) k (f + 1) R a = otF (gE S) k f (iNx (gE S) R) (if iNx (gE S) R 16 = nI k ∧ onB (iNx (gE S) R) k = true then a + 1 else a) := rfl
    rw [es] at H
    have e16 := mw1 16 (by omega)
    generalize iNx (gE S) R 16 = v16 at H e16
    have go : ∀ (a' : Int32) (u5 : Value), a' = (if v16 = nI k ∧ onB (iNx (gE S) R) k = true then a + 1 else a) → ajEv (d + 38) 232 43 [.ref 320, .int (nI k), .int (nI n), .int a', .int (nI (i + 1)), u5] [] h1 Q := by
      intro a' u5 e'
      rw [← e'] at H
      exact ih (i + 1) h1 Q _ (T + 1) a' _ (by omega) s1 c1 rv1 (by omega) mw1 (fun h' g c' => H h' (FR_trans f1 g) c')
    rw [e16]
    by_cases e : v16 = nI k
    · rw [if_neg (fun z => z e)]
      refine S193 (Or.inr rfl) s1 mw1 (by omega) ?_
      intro s2
      refine ⟨_, rfl, ?_⟩
      cases eo : onB (iNx (gE S) R) k with
      | false =>
        rw [if_pos (show flg false = 0 from rfl)]
        exact go a _ (by rw [eo, if_neg (fun z => by cases z.2)])
      | true =>
        rw [if_neg (by decide)]
        exact go (a + 1) _ (by rw [eo, if_pos ⟨e, rfl⟩])
    · rw [if_pos e]
      exact go a _ (by rw [if_neg (fun z => e z.1)])
theorem FR_t0 (h : ajH) (x : Int32) : FR h (ajSI h 320 0 x) PMt := FR_SI h (by unfold PMt; omega)
theorem S232 {S : GS} {d : Nat} {v1 v2 : Int32} {h : ajH} {Q : Option Value → ajH → Prop} (hs : ajShp h) (c : MI S h) (vd : GVd S)
    (H : ∀ h', FR h h' PMt → MI S h' → Q (some (.int (aOften S v1 v2))) h') : ajEv (d + 38) 232 0 [.ref 320, .int v1, .int v2, ajU, ajU, ajU] [] h Q := by
  have z8 := vd.z8
  refine W232_0 hs ?_
  rintro _ rfl
  have c0 := MI_0 (x := 0) c
  have f0 := FR_t0 h 0
  have s0 : ajShp (ajSI h 320 0 0) := hs
  generalize ajSI h 320 0 0 = h0 at c0 f0 s0
  have H0 := H h0 f0 c0
  refine S179 s0 c0.2.1 ?_
  intro s1
  refine ⟨_, rfl, ?_⟩
  cases e1 : isp (gz S) v1 with
  | false =>
    rw [if_pos (show flg false = 0 from rfl)]
    exact of_n H0 (by rw [e1]; rfl)
  | true =>
    rw [if_neg (by decide)]
    obtain ⟨k, hk, rfl⟩ := isp_k z8 e1
    refine S145r (lo := 1) (hi := 99) s1 ?_
    intro s2
    refine ⟨_, rfl, ?_⟩
    cases e2 : rg 1 99 v2 with
    | false =>
      rw [if_neg (show ¬ ¬ flg false = 0 from fun z => z rfl)]
      exact of_n H0 (by rw [e2, Bool.and_false])
    | true =>
      rw [if_pos (by decide)]
      obtain ⟨n, n1, n99, rfl⟩ := rg_k (lo := 1) (hi := 99) (by omega) (by omega) e2
      unfold aOften at H
      rw [e1, e2, if_pos (show (true && true) = true from rfl), sr_N (by omega), sr_N (by omega)] at H
      refine mFo s2 c0 ?_
      intro h1 f1 c1 mw1 s3
      refine ⟨rfl, ?_⟩
      exact S232_43 vd hk n99 n 0 h1 Q _ 1000 0 _ (by omega) s3 c1 (vd.xv (by omega)).1 (by omega) mw1 (fun h' g c' => H h' (FR_trans f0 (FR_trans f1 g)) c')
/-- who breaks first -/
noncomputable def fsF (E : EV) (k : Nat) : Nat → Nat → (Nat → Int32) → Int32
  | 0, _, _ => -1
  | f + 1, n, R => if hb (bmO E (iGo (eN E) R)) k = true then nI n else fsF E k f (n + 1) (iNx E R)
noncomputable def aFirst (S : GS) (v : Int32) : Int32 := if (isp (gz S) v && !brB (gX S).1 v.toNatClampNeg) = true then fsF (gE S) v.toNatClampNeg 99 1 (gX S).1 else -1
theorem fs_n {S : GS} {v : Int32} {h : ajH} {Q : Option Value → ajH → Prop} (H : Q (some (.int (aFirst S v))) h) (e : (isp (gz S) v && !brB (gX S).1 v.toNatClampNeg) = false) : Q (some (.int (-1))) h := by
  unfold aFirst at H
  rw [e, if_neg (by decide)] at H
  exact H
theorem brB_nx {E : EV} (n8 : eN E ≤ 8) (R : Nat → Int32) {k : Nat} (hk : k < eN E) (e : brB R k = false) : brB (iNx E R) k = hb (bmO E (iGo (eN E) R)) k := by
  have e1 : brB (iNx E R) k = hb (mk (brB (iNx E R)) (eN E)) k := (br_k n8 hk).symm
  rw [e1, ← br_nx n8 R, hb_or, br_k n8 hk, e, Bool.false_or]
theorem S122_34 {S : GS} {d k : Nat} (vd : GVd S) (hk : k < gz S) : ∀ (f i : Nat) (h : ajH) (Q : Option Value → ajH → Prop) (R : Nat → Int32) (T : Nat), i + f = 100 → ajShp h → CI S h → RV (gz S) T R → T + f ≤ 100000 → CB h 59 (gz S) R → brB R k = false →
    (∀ h', FR h h' PTr → CI S h' → Q (some (.int (fsF (gE S) k f i R))) h') → ajEv (d + 4) 122 34 [.ref 1, .int (nI k), .int (nI i)] [] h Q := by
  have z8 := vd.z8
  intro f
  induction f with
  | zero =>
    intro i h Q R T hi hs c rv hT cb eb H
    refine W122_34 hs ?_
    rw [if_pos (by rw [sl_99, sr_lt (by omega) (by omega)]; omega)]
    exact H h (FR_refl _ _) c
  | succ f ih =>
    intro i h Q R T hi hs c rv hT cb eb H
    refine W122_34 hs ?_
    rw [if_neg (by rw [sl_99, sr_lt (by omega) (by omega)]; omega), nI_1]
    refine S121 hs c vd (by omega) rv cb ?_
    intro h1 f1 c1 cb1 s1
    refine ⟨rfl, ?_⟩
    have rv1 : RV (gz S) (T + 1) (iNx (gE S) R) := RV_nx (gE_g vd) (gE_ok vd) z8 rv (by omega)
    have es : fsF (gE S) k (f + 1) i R = if hb (bmO (gE S) (iGo (eN (gE S)) R)) k = true then nI i else fsF (gE S) k f (i + 1) (iNx (gE S) R) := rfl
    rw [es] at H
    have ebr := brB_nx (E := gE S) z8 R hk eb
    refine S59b (ajKc rfl) s1 cb1 z8 hk ?_
    intro s2
    refine ⟨_, rfl, ?_⟩
    rw [← ebr] at H
    cases eo : brB (iNx (gE S) R) k with
    | false =>
      rw [if_pos (show flg false = 0 from rfl)]
      rw [eo, if_neg (by decide)] at H
      exact ih (i + 1) h1 Q _ (T + 1) (by omega) s2 c1 rv1 (by omega) cb1 eo (fun h' g c' => H h' (FR_trans f1 g) c')
    | true =>
      rw [if_neg (by decide)]
      rw [eo, if_pos rfl] at H
      exact H h1 f1 c1
theorem S122 {S : GS} {d : Nat} {v : Int32} {h : ajH} {Q : Option Value → ajH → Prop} (hs : ajShp h) (c : CI S h) (vd : GVd S)
    (H : ∀ h', FR h h' PTr → CI S h' → Q (some (.int (aFirst S v))) h') : ajEv (d + 4) 122 0 [.ref 1, .int v, ajU] [] h Q := by
  have z8 := vd.z8
  have H0 := H h (FR_refl _ _) c
  refine W122_0 hs ?_
  refine S58 hs c.2.1 ?_
  intro s1
  refine ⟨_, rfl, ?_⟩
  cases e1 : isp (gz S) v with
  | false =>
    rw [if_pos (show flg false = 0 from rfl)]
    exact fs_n H0 (by rw [e1]; rfl)
  | true =>
    rw [if_neg (by decide)]
    obtain ⟨k, hk, rfl⟩ := isp_k z8 e1
    refine S59c (ajKc rfl) s1 c.2.2.2.1.1 z8 hk ?_
    intro s2
    refine ⟨_, rfl, ?_⟩
    cases e2 : brB (gX S).1 k with
    | true =>
      rw [if_neg (by decide)]
      exact fs_n H0 (by rw [e1, sr_N (by omega), e2]; rfl)
    | false =>
      rw [if_pos (show flg false = 0 from rfl)]
      unfold aFirst at H
      rw [e1, sr_N (by omega), e2, if_pos (show (true && !false) = true from rfl)] at H
      refine cFo s2 c vd (by omega) ?_
      intro h1 f1 c1 cs1 s3
      refine ⟨rfl, ?_⟩
      exact S122_34 vd hk 99 1 h1 Q _ 1000 (by omega) s3 c1 (vd.xv (by omega)).1 (by omega) (CS_CB cs1) e2 (fun h' g c' => H h' (FR_trans f1 g) c')
theorem S233_42 {S : GS} {d k : Nat} (vd : GVd S) (hk : k < gz S) : ∀ (f i : Nat) (h : ajH) (Q : Option Value → ajH → Prop) (R : Nat → Int32) (T : Nat) (u3 : Value), i + f = 100 → ajShp h → MI S h → RV (gz S) T R → T + f ≤ 100000 → RW h 332 R →
    (∀ h', FR h h' PMt → MI S h' → Q (some (.int (fsF (gE S) k f i R))) h') → ajEv (d + 38) 233 42 [.ref 320, .int (nI k), .int (nI i), u3] [] h Q := by
  have z8 := vd.z8
  intro f
  induction f with
  | zero =>
    intro i h Q R T u3 hi hs c rv hT mw H
    refine W233_42 hs ?_
    rw [if_pos (by rw [sl_99, sr_lt (by omega) (by omega)]; omega)]
    exact H h (FR_refl _ _) c
  | succ f ih =>
    intro i h Q R T u3 hi hs c rv hT mw H
    refine W233_42 hs ?_
    rw [if_neg (by rw [sl_99, sr_lt (by omega) (by omega)]; omega), nI_1]
    refine mTr (s := false) hs c vd (by omega) rv (by omega) mw ?_
    intro h1 f1 c1 mw1 e36 _ s1
    refine ⟨_, rfl, ?_⟩
    rw [iTurn_f] at e36
    have rv1 : RV (gz S) (T + 1) (iNx (gE S) R) := RV_nx (gE_g vd) (gE_ok vd) z8 rv (by omega)
    have es : fsF (gE S) k (f + 1) i R = if hb (bmO (gE S) (iGo (eN (gE S)) R)) k = true then nI i else fsF (gE S) k f (i + 1) (iNx (gE S) R) := rfl
    rw [es] at H
    rw [e36]
    refine S154 s1 (by omega) ?_
    intro s2
    refine ⟨_, rfl, ?_⟩
    cases eo : hb (bmO (gE S) (iGo (eN (gE S)) R)) k with
    | false =>
      rw [if_pos (show flg false = 0 from rfl)]
      rw [eo, if_neg (by decide)] at H
      exact ih (i + 1) h1 Q _ (T + 1) _ (by omega) s2 c1 rv1 (by omega) mw1 (fun h' g c' => H h' (FR_trans f1 g) c')
    | true =>
      rw [if_neg (by decide)]
      rw [eo, if_pos rfl] at H
      exact H h1 f1 c1
theorem S233 {S : GS} {d : Nat} {v : Int32} {h : ajH} {Q : Option Value → ajH → Prop} (hs : ajShp h) (c : MI S h) (vd : GVd S)
    (H : ∀ h', FR h h' PMt → MI S h' → Q (some (.int (aFirst S v))) h') : ajEv (d + 38) 233 0 [.ref 320, .int v, ajU, ajU] [] h Q := by
  have z8 := vd.z8
  refine W233_0 hs ?_
  rintro _ rfl
  have c0 := MI_0 (x := 0) c
  have f0 := FR_t0 h 0
  have s0 : ajShp (ajSI h 320 0 0) := hs
  generalize ajSI h 320 0 0 = h0 at c0 f0 s0
  have H0 := H h0 f0 c0
  refine S179 s0 c0.2.1 ?_
  intro s1
  refine ⟨_, rfl, ?_⟩
  cases e1 : isp (gz S) v with
  | false =>
    rw [if_pos (show flg false = 0 from rfl)]
    exact fs_n H0 (by rw [e1]; rfl)
  | true =>
    rw [if_neg (by decide)]
    obtain ⟨k, hk, rfl⟩ := isp_k z8 e1
    rw [sl_2, sr_mul, sl_1, sr_add, sr_in (by omega), sr_N (by omega), (mX0 c0.2.2.2.1).1 _ (by omega), ← sl_2]
    refine ⟨by omega, ?_⟩
    by_cases y : (gX S).1 (2 * k + 1) = 2
    · rw [if_neg (fun z => z y)]
      have e2 : brB (gX S).1 k = true := decide_eq_true y
      exact fs_n H0 (by rw [e1, sr_N (by omega), e2]; rfl)
    · rw [if_pos y]
      have e2 : brB (gX S).1 k = false := decide_eq_false y
      unfold aFirst at H
      rw [e1, sr_N (by omega), e2, if_pos (show (true && !false) = true from rfl)] at H
      refine mFo s1 c0 ?_
      intro h1 f1 c1 mw1 s3
      refine ⟨rfl, ?_⟩
      exact S233_42 vd hk 99 1 h1 Q _ 1000 _ (by omega) s3 c1 (vd.xv (by omega)).1 (by omega) mw1 (fun h' g c' => H h' (FR_trans f0 (FR_trans f1 g)) c')
