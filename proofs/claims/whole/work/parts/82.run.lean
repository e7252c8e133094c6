/-! Journeys run and performed. -/
noncomputable def xFo (S : GS) : XT := ((gX S).1, 0, fun _ _ => 0)
theorem xFo_v {S : GS} (vd : GVd S) (hz : 0 < gz S) : XV (gz S) (xFo S) := ⟨(vd.xv hz).1, Nat.zero_le _, fun e he => absurd he (by show ¬ e < 0; omega)⟩
theorem cFx {S : GS} {d : Nat} {h : ajH} {Q : Option Value → ajH → Prop} (hs : ajShp h) (c : CI S h) (vd : GVd S) (hz : 0 < gz S)
    (H : ∀ h', FR h h' PTr → CI S h' → cX h' 59 (gz S) (xFo S) → Q none h') : ajEv d 62 0 [.ref 59, .ref 54] [] h Q := by
  have h18 := (vd.xv hz).1.2.2.2.2.1
  refine S62 (LG := fun _ _ => 0) sQ_59 sQ_54 (by omega) vd.z8 hs c.2.2.2.1.1 h18 ?_
  intro h1 f1 cx1
  have f2 : FR h h1 PTr := FR_mono f1 (fun o j z => by unfold PCc at z; unfold PTr; omega)
  exact H h1 f2 (CI_tr c f2 (fun o j z => z)) cx1
theorem mFx {S : GS} {d : Nat} {h : ajH} {Q : Option Value → ajH → Prop} (hs : ajShp h) (c : MI S h)
    (H : ∀ h', FR h h' PMt → MI S h' → mX h' 332 0 (xFo S) → Q none h') : ajEv d 215 0 [.ref 331, .ref 332, ajU] [] h Q := by
  refine S215 (LG := fun _ _ => 0) (Or.inl rfl) (Or.inr rfl) (by omega) hs (mX0 c.2.2.2.1).1 ?_
  intro h1 f1 mx1
  have f2 : FR h h1 PMt := FR_mono f1 (fun o j z => by unfold PMt; omega)
  exact H h1 f2 (MI_tr c f2 (fun o j z => z) (r8_FR c.2.2.2.2.2.2.2 f1 (fun o j z => by omega))) mx1
/-- what a step adds to what is done -/
noncomputable def gsA (E : EV) (o : Nat) (X : XT) : Int32 := if o < 2 then xTkD E o X else 0
theorem iPl_19 (E : EV) (s : Bool) (n8 : eN E ≤ 8) (R : Nat → Int32) : iPl E (iTurn E s R) 19 = R 19 + iDone E (iTurn E s R) := by
  have em : iMid E (iTurn E s R) 19 = R 19 := by
    unfold iMid
    rw [iTalk_e _ _ (by omega), iFall_e _ _ (by omega)]
    unfold iTurn iGo
    split
    · rfl
    · rw [upR_n _ _ (by omega)]
  unfold iPl iEnd
  rw [upR_n _ _ (by omega)]
  rcases iDone_b E (iTurn E s R) with e | e
  · rw [e, if_pos rfl, em, Int32.add_zero]
  · rw [e, if_neg (by decide), upR_n _ _ (by omega), upR_s, em]
theorem xTake_19 (E : EV) (n8 : eN E ≤ 8) {o k : Nat} {v : Int32} (X : XT) (ho : o < 4) (hv : 2 ≤ o → v = nI k ∧ k < 8) : (xTake E o v X).1 19 = X.1 19 + gsA E o X := by
  have ho : o = 0 ∨ o = 1 ∨ o = 2 ∨ o = 3 := by omega
  rcases ho with rfl | rfl | rfl | rfl
  · have e : (xTake E 0 v X).1 = iPl E (iTurn E false X.1) := rfl
    have e2 : gsA E 0 X = iDone E (iTurn E false X.1) := if_pos (show 0 < 2 by omega)
    rw [e, e2]
    exact iPl_19 E false n8 X.1
  · have e : (xTake E 1 v X).1 = iPl E (iTurn E true (upR X.1 20 (X.1 20 - 1))) := rfl
    have e2 : gsA E 1 X = iDone E (iTurn E true (upR X.1 20 (X.1 20 - 1))) := if_pos (show 1 < 2 by omega)
    have := iPl_19 E true n8 (upR X.1 20 (X.1 20 - 1))
    rw [upR_n _ _ (by omega : ¬ 19 = 20)] at this
    rw [e, e2]
    exact this
  · obtain ⟨rfl, hk⟩ := hv (by omega)
    show upR (upR X.1 20 (X.1 20 - 2)) (2 * (nI k).toNatClampNeg + 1) (1 - X.1 (2 * (nI k).toNatClampNeg + 1)) 19 = X.1 19 + 0
    rw [sr_N (by omega), upR_n _ _ (by omega), upR_n _ _ (by omega), Int32.add_zero]
  · obtain ⟨rfl, hk⟩ := hv (by omega)
    show upR (upR X.1 20 (X.1 20 - 4)) (2 * (nI k).toNatClampNeg + 1) 0 19 = X.1 19 + 0
    rw [sr_N (by omega), upR_n _ _ (by omega), upR_n _ _ (by omega), Int32.add_zero]
theorem caB_k {n o : Nat} {v : Int32} {R : Nat → Int32} (n8 : n ≤ 8) (ho : 2 ≤ o) (c : caB n R o v = true) : ∃ k, k < n ∧ v = nI k := by
  match o, ho with
  | 2, _ =>
    unfold caB at c
    cases e : isp n v with
    | true => exact isp_k n8 e
    | false => rw [e] at c; cases c
  | 3, _ =>
    unfold caB at c
    cases e : isp n v with
    | true => exact isp_k n8 e
    | false => rw [e] at c; cases c
  | (o + 4), _ => exact absurd (show false = true from c) (by decide)
theorem S216 {S : GS} {r d i k : Nat} {h : ajH} {Q : Option Value → ajH → Prop} {R : Nat → Int32} (hr : rB r) (hs : ajShp h) (vd : GVd S) (k2 : r2 S h) (k3 : r3 S h) (rw : RW h r R) (hi : i < gmj S) (hk : k < gJn S i)
    (H : Q (some (.int (flg (caB (gz S) R (gJK S i k) (gJD S i k))))) h) : ajEv (d + 2) 216 0 [.ref 320, .ref r, .int (nI (2 * (16 * i + k)))] [] h Q := by
  have z8 := vd.z8
  have j4 := vd.j4
  obtain ⟨n16, hK⟩ := vd.jn i hi
  have eJ := (k3.2.2.2 i hi).2.2 k hk
  rw [show 32 * i + 2 * k = 2 * (16 * i + k) by omega] at eJ
  have hK := hK k hk
  generalize gJK S i k = K at *
  generalize gJD S i k = D at *
  refine W216_0 hs (rB_i hr) ?_
  rw [sr_in (by omega), sr_N (by omega), eJ.1]
  refine ⟨by omega, ?_⟩
  have hb := flg_b (caB (gz S) R K D)
  have i1 : ajIn (nI (2 * (16 * i + k)) + 1) 160 := by rw [nI_1, sr_in (by omega)]; omega
  have e1 : ajI h 329 (nI (2 * (16 * i + k)) + 1).toNatClampNeg = D := by rw [nI_1, sr_N (by omega)]; exact eJ.2
  have hK : K = 0 ∨ K = 1 ∨ K = 2 ∨ K = 3 := by omega
  rcases hK with rfl | rfl | rfl | rfl
  · rw [if_pos (by decide)]
    refine W216_32 hs (rB_i hr) ?_
    rw [rB_l hr, rw 21 (by omega)]
    refine ⟨by decide, ?_⟩
    unfold caB at H
    by_cases y : 999 ≤ R 21
    · rw [if_pos y]; rw [decide_eq_true y] at H; exact H
    · rw [if_neg y]; rw [decide_eq_false y] at H; exact H
  · rw [if_neg (by decide), if_pos (by decide)]
    refine W216_48 hs (rB_i hr) ?_
    refine S198 (n := gz S) (v := D) hr hs rw ?_
    intro s1
    exact ⟨_, rfl, hb, H⟩
  · rw [if_neg (by decide), if_neg (by decide), if_pos (by decide)]
    refine W216_53 hs (rB_i hr) ?_
    refine ⟨i1, ?_⟩
    rw [e1]
    refine S200 hr hs z8 k2 rw ?_
    intro s1
    exact ⟨_, rfl, hb, H⟩
  · rw [if_neg (by decide), if_neg (by decide), if_neg (by decide)]
    refine W216_67 hs (rB_i hr) ?_
    refine ⟨i1, ?_⟩
    rw [e1]
    refine S203 hr hs z8 k2 rw ?_
    intro s1
    exact ⟨_, rfl, hb, H⟩
theorem S217 {S : GS} {r d i k : Nat} {h : ajH} {Q : Option Value → ajH → Prop} {X : XT} (hr : rB r) (hs : ajShp h) (c : MI S h) (vd : GVd S) (hz : 0 < gz S) (xv : XV (gz S) X) (mx : mX h r 0 X) (hi : i < gmj S) (hk : k < gJn S i) (ca : caB (gz S) X.1 (gJK S i k) (gJD S i k) = true)
    (H : ∀ h', FR h h' (PG r) → mX h' r 0 (xTake (gE S) (gJK S i k) (gJD S i k) X) → MemoOK h' (gm S) (gTB S) (gTL S) → Q (some (.int (gsA (gE S) (gJK S i k) X))) h') : ajEv (d + 39) 217 0 [.ref 320, .ref r, .int (nI (2 * (16 * i + k)))] [] h Q := by
  have z8 := vd.z8
  have j4 := vd.j4
  obtain ⟨n16, hK⟩ := vd.jn i hi
  have k3 := c.2.2.1
  have eJ := (k3.2.2.2 i hi).2.2 k hk
  rw [show 32 * i + 2 * k = 2 * (16 * i + k) by omega] at eJ
  have hK := hK k hk
  have m8 : MemoOK h (gm S) (gTB S) (gTL S) := c.2.2.2.2.2.2.2
  have hr' := hr
  unfold rB at hr'
  generalize gJK S i k = K at *
  generalize gJD S i k = D at *
  refine W217_0 hs (rB_i hr) ?_
  rw [sr_in (by omega), sr_N (by omega), eJ.1]
  refine ⟨by omega, ?_⟩
  have i1 : ajIn (nI (2 * (16 * i + k)) + 1) 160 := by rw [nI_1, sr_in (by omega)]; omega
  have e1 : ajI h 329 (nI (2 * (16 * i + k)) + 1).toNatClampNeg = D := by rw [nI_1, sr_N (by omega)]; exact eJ.2
  have hK : K = 0 ∨ K = 1 ∨ K = 2 ∨ K = 3 := by omega
  rcases hK with rfl | rfl | rfl | rfl
  · rw [if_pos (by decide)]
    refine W217_32 hs (rB_i hr) ?_
    refine S188n (E := gE S) (s := false) hr hs (MI_ME c.2.1 vd hz) (gE_ok vd) (MI_MV k3 c.1 m8 vd) mx xv ?_
    intro h2 f2 mv2 mx2 _ _ s2
    exact ⟨_, rfl, H h2 f2 mx2 mv2.2.1⟩
  · rw [if_neg (by decide), if_pos (by decide)]
    refine W217_39 hs (rB_w hr) ?_
    rw [rB_l hr]
    refine ⟨by decide, by decide, ?_⟩
    rintro _ rfl
    rw [(mX0 mx).1 20 (by omega)]
    have mx2 := mX_up (x := X.1 20 - 1) mx (show 20 < 22 by omega)
    have f1 : FR h (ajSI h r 20 (X.1 20 - 1)) (fun o j => o = r) := FR_SI h rfl
    have s1 : ajShp (ajSI h r 20 (X.1 20 - 1)) := hs
    generalize ajSI h r 20 (X.1 20 - 1) = h1 at mx2 f1 s1
    have k1' := r1_FR c.1 f1 (fun o j z => by unfold d1; omega)
    have k2' := r2_FR c.2.1 f1 (fun o j z => by unfold d2; omega)
    have k3' := r3_FR k3 f1 (fun o j z => by unfold d3; omega)
    have m8' := MemoOK_FR m8 f1 (fun j => by omega)
    refine S188n (E := gE S) (s := true) hr s1 (MI_ME k2' vd hz) (gE_ok vd) (MI_MV k3' k1' m8' vd) mx2 (XV_20 _ xv z8) ?_
    intro h2 f2 mv2 mx3 _ _ s2
    exact ⟨_, rfl, H h2 (FR_trans (FR_mono f1 (fun o j z => Or.inr z)) f2) mx3 mv2.2.1⟩
  · rw [if_neg (by decide), if_neg (by decide), if_pos (by decide)]
    refine W217_54 hs (rB_i hr) ?_
    refine ⟨i1, ?_⟩
    rw [e1]
    obtain ⟨p, hp, rfl⟩ := caB_k z8 (by omega) ca
    refine S201 (E := gE S) hr (show p < 8 by omega) hs mx ?_
    intro h2 f2 mx2 s2
    exact ⟨rfl, H h2 (FR_mono f2 (fun o j z => Or.inr z.1)) mx2 (MemoOK_FR m8 f2 (fun j => by omega))⟩
  · rw [if_neg (by decide), if_neg (by decide), if_neg (by decide)]
    refine W217_68 hs (rB_i hr) ?_
    refine ⟨i1, ?_⟩
    rw [e1]
    obtain ⟨p, hp, rfl⟩ := caB_k z8 (by omega) ca
    refine S204 (E := gE S) hr (show p < 8 by omega) hs mx ?_
    intro h2 f2 mx2 s2
    exact ⟨rfl, H h2 (FR_mono f2 (fun o j z => Or.inr z.1)) mx2 (MemoOK_FR m8 f2 (fun j => by omega))⟩
/-- steps from k on: how many could be, and what was done -/
noncomputable def runF (S : GS) (i : Nat) : Nat → Nat → XT → Int32 → Nat × Int32
  | 0, k, _, a => (k, a)
  | f + 1, k, X, a => if caB (gz S) X.1 (gJK S i k) (gJD S i k) = true then runF S i f (k + 1) (xTake (gE S) (gJK S i k) (gJD S i k) X) (a + gsA (gE S) (gJK S i k) X) else (k, a)
theorem runF_le (S : GS) (i : Nat) : ∀ f k X a, (runF S i f k X a).1 ≤ k + f := by
  intro f
  induction f with
  | zero => intro k X a; exact Nat.le_refl _
  | succ f ih =>
    intro k X a
    unfold runF
    split
    · have := ih (k + 1) (xTake (gE S) (gJK S i k) (gJD S i k) X) (a + gsA (gE S) (gJK S i k) X)
      omega
    · show k ≤ _; omega
noncomputable def rnA (S : GS) (i : Nat) (v : Int32) (p : Nat × Int32) : Int32 := if v = 1 then p.2 else if p.1 = gJn S i then -1 else nI p.1
def rnOK (S : GS) (v1 v2 : Int32) : Bool := isp (gmj S) v1 && decide (0 < gz S) && isp 2 v2
noncomputable def aRun (S : GS) (v1 v2 : Int32) : Int32 := if rnOK S v1 v2 = true then rnA S v1.toNatClampNeg v2 (runF S v1.toNatClampNeg (gJn S v1.toNatClampNeg) 0 (xFo S) 0) else -1000000
theorem rn_n {S : GS} {v1 v2 : Int32} {h : ajH} {Q : Option Value → ajH → Prop} (H : Q (some (.int (aRun S v1 v2))) h) (e : rnOK S v1 v2 = false) : Q (some (.int (-1000000))) h := by
  unfold aRun at H
  rw [e, if_neg (by decide)] at H
  exact H
theorem S99_52 {S : GS} {d i : Nat} {w : Int32} (vd : GVd S) (hz : 0 < gz S) (hi : i < gmj S) : ∀ (f k : Nat) (h : ajH) (Q : Option Value → ajH → Prop) (X : XT) (a : Int32) (u1 : Value), k + f = gJn S i → ajShp h → CI S h → XV (gz S) X → cX h 59 (gz S) X → X.1 19 = (gX S).1 19 + a →
    (∀ h', FR h h' PTr → CI S h' → Q (some (.int (rnA S i w (runF S i f k X a)))) h') → ajEv (d + 6) 99 52 [.ref 1, u1, .int w, .ref (22 + 7 * i), .int (nI k), .int (nI k)] [] h Q := by
  have z8 := vd.z8
  have j4 := vd.j4
  obtain ⟨n16, hK⟩ := vd.jn i hi
  have kw : ajKw (22 + 7 * i) 4 := by
    have : i = 0 ∨ i = 1 ∨ i = 2 ∨ i = 3 := by omega
    rcases this with rfl | rfl | rfl | rfl <;> exact ajKc rfl
  have fin : ∀ (k : Nat) (h : ajH) (Q : Option Value → ajH → Prop) (X : XT) (a : Int32) (u1 u5 : Value), k ≤ gJn S i → ajShp h → CI S h → cX h 59 (gz S) X → X.1 19 = (gX S).1 19 + a → Q (some (.int (rnA S i w (k, a)))) h → ajEv (d + 6) 99 117 [.ref 1, u1, .int w, .ref (22 + 7 * i), .int (nI k), u5] [] h Q := by
    intro k h Q X a u1 u5 hk hs c cx e19 H
    refine W99_117 hs kw ?_
    have cj := c.2.2.1.2.2.2.2 i hi
    unfold rnA at H
    by_cases y : w = 1
    · rw [if_neg (fun z => z y)]
      rw [if_pos y] at H
      rw [cx.1.1.2.2.2.2.2.2.1, c.2.2.2.1.1.1.2.2.2.2.2.2.1, e19, Int32.add_comm, Int32.add_sub_cancel]
      exact H
    · rw [if_pos y]
      rw [if_neg y] at H
      rw [cj.1]
      by_cases y2 : k = gJn S i
      · rw [if_pos (by rw [sr_le (by omega) (by omega)]; omega)]
        rw [if_pos y2] at H; exact H
      · rw [if_neg (by rw [sr_le (by omega) (by omega)]; omega)]
        rw [if_neg y2] at H; exact H
  intro f
  induction f with
  | zero =>
    intro k h Q X a u1 hk hs c xv cx e19 H
    refine W99_52 hs kw ?_
    have cj := c.2.2.1.2.2.2.2 i hi
    rw [cj.1, if_pos (by rw [sr_le (by omega) (by omega)]; omega)]
    exact fin k h Q X a _ _ (by omega) hs c cx e19 (H h (FR_refl _ _) c)
  | succ f ih =>
    intro k h Q X a u1 hk hs c xv cx e19 H
    have hk' : k < gJn S i := by omega
    refine W99_52 hs kw ?_
    have cj := c.2.2.1.2.2.2.2 i hi
    have eJ := cj.2 k hk'
    have i16 : ajIn (nI k) 16 := by rw [sr_in (by omega)]; omega
    rw [cj.1, if_neg (by rw [sr_le (by omega) (by omega)]; omega), sr_N (by omega), eJ.1, eJ.2]
    refine ⟨i16, i16, ?_⟩
    refine S57 (hK k hk') sQ_59 hs c.2.1 z8 cx.1 ?_
    intro s1
    refine ⟨_, rfl, ?_⟩
    have es : runF S i (f + 1) k X a = if caB (gz S) X.1 (gJK S i k) (gJD S i k) = true then runF S i f (k + 1) (xTake (gE S) (gJK S i k) (gJD S i k) X) (a + gsA (gE S) (gJK S i k) X) else (k, a) := rfl
    rw [es] at H
    cases ec : caB (gz S) X.1 (gJK S i k) (gJD S i k) with
    | false =>
      rw [if_pos (show flg false = 0 from rfl)]
      rw [ec, if_neg (by decide)] at H
      exact fin k h Q X a _ _ (by omega) s1 c cx e19 (H h (FR_refl _ _) c)
    | true =>
      rw [if_neg (by decide), eJ.1, eJ.2]
      rw [if_pos ec] at H
      refine ⟨i16, i16, ?_⟩
      refine S63 (hK k hk') sQ_59 s1 c.2.1 c.2.2.1 vd hz xv cx ec ?_
      intro h1 f1 cx1 _ s2
      refine ⟨rfl, ?_⟩
      rw [nI_1]
      have f1' : FR h h1 PTr := FR_mono f1 (fun o j z => by unfold PTk PCp PLw at z; unfold PTr PLw; omega)
      have e19' : (xTake (gE S) (gJK S i k) (gJD S i k) X).1 19 = (gX S).1 19 + (a + gsA (gE S) (gJK S i k) X) := by
        by_cases h2 : 2 ≤ gJK S i k
        · obtain ⟨p, hp, e⟩ := caB_k z8 h2 ec
          rw [xTake_19 (k := p) (gE S) z8 X (hK k hk') (fun _ => ⟨e, by omega⟩), e19, Int32.add_assoc]
        · rw [xTake_19 (k := 0) (gE S) z8 X (hK k hk') (fun z => absurd z h2), e19, Int32.add_assoc]
      exact ih (k + 1) h1 Q _ _ _ (by omega) s2 (CI_tr c f1' (fun o j z => z)) (XV_take (gE_g vd) (gE_ok vd) z8 xv (hK k hk') ec) cx1 e19' (fun h' g c' => H h' (FR_trans f1' g) c')
theorem S99 {S : GS} {d : Nat} {v1 v2 : Int32} {h : ajH} {Q : Option Value → ajH → Prop} (hs : ajShp h) (c : CI S h) (vd : GVd S)
    (H : ∀ h', FR h h' PTr → CI S h' → Q (some (.int (aRun S v1 v2))) h') : ajEv (d + 6) 99 0 [.ref 1, .int v1, .int v2, ajU, ajU, ajU] [] h Q := by
  have z8 := vd.z8
  have j4 := vd.j4
  have H0 := H h (FR_refl _ _) c
  refine W99_0 hs ?_
  refine S98 hs c.2.2.1 ?_
  intro s1
  refine ⟨_, rfl, ?_⟩
  cases e1 : isp (gmj S) v1 with
  | false =>
    rw [if_pos (show flg false = 0 from rfl)]
    exact rn_n H0 (by unfold rnOK; rw [e1]; rfl)
  | true =>
    rw [if_neg (by decide)]
    obtain ⟨i, hi, rfl⟩ := isp_k (by omega) e1
    refine S56 s1 c.2.1 z8 ?_
    intro s2
    refine ⟨_, rfl, ?_⟩
    by_cases hz : 0 < gz S
    · rw [decide_eq_true hz, if_neg (by decide)]
      cases e : isp 2 v2 with
      | false =>
        have H1 := rn_n H0 (by unfold rnOK; rw [e, Bool.and_false])
        rcases isp_2n e with y | y
        · rw [if_pos y]; exact H1
        · by_cases y0 : v2 < 0
          · rw [if_pos y0]; exact H1
          · rw [if_neg y0, if_neg (fa_nle y)]; exact H1
      | true =>
        unfold aRun rnOK at H
        rw [decide_eq_true hz, e, e1, if_pos (show (true && true && true) = true from rfl), sr_N (by omega)] at H
        have go : ajIn (nI i) 4 ∧ ajEv (d + 5) 62 0 [.ref 59, .ref 54] [] h (fun r h11 => ajShp h11 → r = none ∧ ajEv (d + 5 + 1) 99 52 [.ref 1, .int (nI i), .int v2, .ref (22 + 7 * (nI i).toNatClampNeg), .int 0, .int 0] [] h11 Q) := by
          refine ⟨by rw [sr_in (by omega)]; omega, ?_⟩
          refine cFx s2 c vd hz ?_
          intro h1 f1 c1 cx1 s3
          refine ⟨rfl, ?_⟩
          rw [sr_N (by omega)]
          exact S99_52 vd hz hi (gJn S i) 0 h1 Q (xFo S) 0 _ (by omega) s3 c1 (xFo_v vd hz) cx1 (Int32.add_zero _).symm (fun h' g c' => H h' (FR_trans f1 g) c')
        rcases isp_2 e with rfl | rfl
        · rw [if_neg (by decide), if_pos (by decide)]; exact go
        · rw [if_neg (by decide), if_pos (by decide)]; exact go
    · rw [decide_eq_false hz, if_pos (show flg false = 0 from rfl)]
      exact rn_n H0 (by unfold rnOK; rw [decide_eq_false hz, Bool.and_false]; rfl)
theorem S214_106 {S : GS} {d i k : Nat} {w a : Int32} {h : ajH} {Q : Option Value → ajH → Prop} (hs : ajShp h) (c : MI S h) (vd : GVd S) (hi : i < gmj S) (hk : k ≤ gJn S i) (H : Q (some (.int (rnA S i w (k, a)))) h) : ajEv (d + 1) 214 106 [.ref 320, .int (nI i), .int w, .int (nI k), .int a] [] h Q := by
  have j4 := vd.j4
  obtain ⟨n16, hK⟩ := vd.jn i hi
  refine W214_106 hs ?_
  unfold rnA at H
  by_cases y : w = 1
  · rw [if_neg (fun z => z y)]; rw [if_pos y] at H; exact H
  · rw [if_pos y]; rw [if_neg y] at H
    refine ⟨by rw [sr_in (by omega)]; omega, ?_⟩
    rw [sr_N (by omega), (c.2.2.1.2.2.2 i hi).1]
    by_cases y2 : k = gJn S i
    · rw [if_neg (fun z => z (by rw [y2]))]; rw [if_pos y2] at H; exact H
    · rw [if_pos (fun z => y2 ((sr_eq (by omega) (by omega)).mp z))]; rw [if_neg y2] at H; exact H
theorem S214_50 {S : GS} {d i : Nat} {w : Int32} (vd : GVd S) (hz : 0 < gz S) (hi : i < gmj S) : ∀ (f k : Nat) (h : ajH) (Q : Option Value → ajH → Prop) (X : XT) (a : Int32), k + f = gJn S i → ajShp h → MI S h → XV (gz S) X → mX h 332 0 X →
    (∀ h', FR h h' PMt → MI S h' → Q (some (.int (rnA S i w (runF S i f k X a)))) h') → ajEv (d + 40) 214 50 [.ref 320, .int (nI i), .int w, .int (nI k), .int a] [] h Q := by
  have z8 := vd.z8
  have j4 := vd.j4
  obtain ⟨n16, hK⟩ := vd.jn i hi
  intro f
  induction f with
  | zero =>
    intro k h Q X a hk hs c xv mx H
    refine W214_50 hs ?_
    refine ⟨by rw [sr_in (by omega)]; omega, ?_⟩
    rw [sr_N (by omega), (c.2.2.1.2.2.2 i hi).1, if_pos (by rw [sr_le (by omega) (by omega)]; omega)]
    exact S214_106 hs c vd hi (by omega) (H h (FR_refl _ _) c)
  | succ f ih =>
    intro k h Q X a hk hs c xv mx H
    have hk' : k < gJn S i := by omega
    refine W214_50 hs ?_
    refine ⟨by rw [sr_in (by omega)]; omega, ?_⟩
    rw [sr_N (by omega), (c.2.2.1.2.2.2 i hi).1, if_neg (by rw [sr_le (by omega) (by omega)]; omega), sl_16, sr_mul, sr_add, sl_2, sr_mul]
    refine S216 (Or.inr rfl) hs vd c.2.1 c.2.2.1 (mX0 mx).1 hi hk' ?_
    intro s1
    refine ⟨_, rfl, ?_⟩
    have es : runF S i (f + 1) k X a = if caB (gz S) X.1 (gJK S i k) (gJD S i k) = true then runF S i f (k + 1) (xTake (gE S) (gJK S i k) (gJD S i k) X) (a + gsA (gE S) (gJK S i k) X) else (k, a) := rfl
    rw [es] at H
    cases ec : caB (gz S) X.1 (gJK S i k) (gJD S i k) with
    | false =>
      rw [if_pos (show flg false = 0 from rfl)]
      rw [ec, if_neg (by decide)] at H
      exact S214_106 s1 c vd hi (by omega) (H h (FR_refl _ _) c)
    | true =>
      rw [if_neg (by decide)]
      rw [if_pos ec] at H
      refine S217 (Or.inr rfl) s1 c vd hz xv mx hi hk' ec ?_
      intro h1 f1 mx1 m8 s2
      refine ⟨_, rfl, ?_⟩
      rw [nI_1]
      have f1' : FR h h1 PMt := FR_mono f1 (fun o j z => by unfold PG at z; unfold PMt; rcases z with z | z; exact Or.inl z; exact Or.inr (Or.inl z))
      exact ih (k + 1) h1 Q _ _ (by omega) s2 (MI_tr c f1' (fun o j z => z) m8) (XV_take (gE_g vd) (gE_ok vd) z8 xv (hK k hk') ec) mx1 (fun h' g c' => H h' (FR_trans f1' g) c')
theorem S214 {S : GS} {d : Nat} {v1 v2 : Int32} {h : ajH} {Q : Option Value → ajH → Prop} (hs : ajShp h) (c : MI S h) (vd : GVd S)
    (H : ∀ h', FR h h' PMt → MI S h' → Q (some (.int (aRun S v1 v2))) h') : ajEv (d + 40) 214 0 [.ref 320, .int v1, .int v2, ajU, ajU] [] h Q := by
  have z8 := vd.z8
  have j4 := vd.j4
  refine W214_0 hs ?_
  rintro _ rfl
  have c0 := MI_0 (x := 0) c
  have f0 := FR_t0 h 0
  have s0 : ajShp (ajSI h 320 0 0) := hs
  generalize ajSI h 320 0 0 = h0 at c0 f0 s0
  have H0 := H h0 f0 c0
  refine S213 s0 c0.2.2.1 ?_
  intro s1
  refine ⟨_, rfl, ?_⟩
  cases e1 : isp (gmj S) v1 with
  | false =>
    rw [if_pos (show flg false = 0 from rfl)]
    exact rn_n H0 (by unfold rnOK; rw [e1]; rfl)
  | true =>
    rw [if_neg (by decide), c0.2.1.1]
    obtain ⟨i, hi, rfl⟩ := isp_k (by omega) e1
    by_cases hz : 0 < gz S
    · rw [if_neg (nI_ne0 hz (by omega))]
      refine S145 (lo := 0) (hi := 1) s1 ?_
      intro s2
      refine ⟨_, rfl, ?_⟩
      have q2 := in_isp (n := 2) (v := v2) (by omega)
      rw [show nI 2 - 1 = (1 : Int32) from rfl] at q2
      rw [q2]
      cases e : isp 2 v2 with
      | false =>
        rw [if_neg (show ¬ ¬ flg false = 0 from fun z => z rfl)]
        exact rn_n H0 (by unfold rnOK; rw [e, Bool.and_false])
      | true =>
        rw [if_pos (by decide)]
        unfold aRun rnOK at H
        rw [decide_eq_true hz, e, e1, if_pos (show (true && true && true) = true from rfl), sr_N (by omega)] at H
        refine mFx s2 c0 ?_
        intro h1 f1 c1 mx1 s3
        refine ⟨rfl, ?_⟩
        exact S214_50 vd hz hi (gJn S i) 0 h1 Q (xFo S) 0 (by omega) s3 c1 (xFo_v vd hz) mx1 (fun h' g c' => H h' (FR_trans f0 (FR_trans f1 g)) c')
    · rw [show gz S = 0 by omega, if_pos (show nI 0 = 0 from rfl)]
      exact rn_n H0 (by unfold rnOK; rw [decide_eq_false hz, Bool.and_false]; rfl)
/-- performed from step k on -/
noncomputable def prF (i : Nat) : Nat → Nat → GS → Nat × GS
  | 0, k, S => (k, S)
  | f + 1, k, S => if hOK S (gJK S i k) (gJD S i k) = true then prF i f (k + 1) (gKeep S (xTake (gE S) (gJK S i k) (gJD S i k) (gX S))) else (k, S)
def pfOK (S : GS) (v : Int32) : Bool := isp (gmj S) v && decide (0 < gz S)
noncomputable def aPerf (S : GS) (v : Int32) : Int32 := if pfOK S v = true then nI (prF v.toNatClampNeg (gJn S v.toNatClampNeg) 0 S).1 else -1
noncomputable def gPerf (S : GS) (v : Int32) : GS := if pfOK S v = true then (prF v.toNatClampNeg (gJn S v.toNatClampNeg) 0 S).2 else S
theorem prF_v {i : Nat} : ∀ f k S, GVd S → i < gmj S → k + f ≤ gJn S i → GVd (prF i f k S).2 := by
  intro f
  induction f with
  | zero => intro k S vd _ _; exact vd
  | succ f ih =>
    intro k S vd hi hk
    unfold prF
    by_cases y : hOK S (gJK S i k) (gJD S i k) = true
    · rw [if_pos y]
      have g := GVd_hand (v := gJD S i k) vd ((vd.jn i hi).2 k (by omega))
      rw [gHand_y y] at g
      exact ih (k + 1) _ g hi (by show k + 1 + f ≤ gJn S i; omega)
    · rw [if_neg y]; exact vd
theorem GVd_perf {S : GS} {v : Int32} (vd : GVd S) : GVd (gPerf S v) := by
  have j4 := vd.j4
  unfold gPerf
  by_cases y : pfOK S v = true
  · rw [if_pos y]
    unfold pfOK at y
    rw [Bool.and_eq_true] at y
    obtain ⟨i, hi, rfl⟩ := isp_k (by omega) y.1
    rw [sr_N (by omega)]
    exact prF_v _ _ _ vd hi (by omega)
  · rw [if_neg y]; exact vd
theorem pf_n {S : GS} {v : Int32} {h' h : ajH} {P : Nat → Nat → Prop} {CC : GS → ajH → Prop} {Q : Option Value → ajH → Prop} (e : pfOK S v = false) (H : ∀ h', FR h h' P → CC (gPerf S v) h' → Q (some (.int (aPerf S v))) h') (f : FR h h' P) (c : CC S h') : Q (some (.int (-1))) h' := by
  have H2 := H h' f
  unfold gPerf aPerf at H2
  rw [e, if_neg (by decide), if_neg (by decide)] at H2
  exact H2 c
theorem S100_29 {d i : Nat} : ∀ (f k : Nat) (S : GS) (h : ajH) (Q : Option Value → ajH → Prop) (u1 : Value), k + f = gJn S i → i < gmj S → GVd S → ajShp h → CI S h →
    (∀ h', FR h h' PHd → CI (prF i f k S).2 h' → Q (some (.int (nI (prF i f k S).1))) h') → ajEv (d + 7) 100 29 [.ref 1, u1, .ref (22 + 7 * i), .int (nI k), .int (nI k)] [] h Q := by
  intro f
  induction f with
  | zero =>
    intro k S h Q u1 hk hi vd hs c H
    have j4 := vd.j4
    have n16 := (vd.jn i hi).1
    have kw : ajKw (22 + 7 * i) 4 := by
      have : i = 0 ∨ i = 1 ∨ i = 2 ∨ i = 3 := by omega
      rcases this with rfl | rfl | rfl | rfl <;> exact ajKc rfl
    have cj := c.2.2.1.2.2.2.2 i hi
    refine W100_29 hs kw ?_
    rw [cj.1, if_pos (by rw [sr_le (by omega) (by omega)]; omega)]
    exact H h (FR_refl _ _) c
  | succ f ih =>
    intro k S h Q u1 hk hi vd hs c H
    have j4 := vd.j4
    obtain ⟨n16, hK⟩ := vd.jn i hi
    have hk' : k < gJn S i := by omega
    have kw : ajKw (22 + 7 * i) 4 := by
      have : i = 0 ∨ i = 1 ∨ i = 2 ∨ i = 3 := by omega
      rcases this with rfl | rfl | rfl | rfl <;> exact ajKc rfl
    have cj := c.2.2.1.2.2.2.2 i hi
    have eJ := cj.2 k hk'
    have i16 : ajIn (nI k) 16 := by rw [sr_in (by omega)]; omega
    refine W100_29 hs kw ?_
    rw [cj.1, if_neg (by rw [sr_le (by omega) (by omega)]; omega), sr_N (by omega), eJ.1, eJ.2]
    refine ⟨i16, i16, ?_⟩
    refine S55 (hK k hk') hs c vd ?_
    intro h1 f1 c1 _ s1
    refine ⟨_, rfl, ?_⟩
    have es : prF i (f + 1) k S = if hOK S (gJK S i k) (gJD S i k) = true then prF i f (k + 1) (gKeep S (xTake (gE S) (gJK S i k) (gJD S i k) (gX S))) else (k, S) := rfl
    rw [es] at H
    have g := GVd_hand (v := gJD S i k) vd (hK k hk')
    cases ec : hOK S (gJK S i k) (gJD S i k) with
    | false =>
      rw [if_pos (show flg false = 0 from rfl)]
      rw [ec, if_neg (by decide)] at H
      rw [gHand_n ec] at c1
      exact H h1 f1 c1
    | true =>
      rw [if_neg (by decide), nI_1]
      rw [if_pos ec] at H
      rw [gHand_y ec] at c1 g
      exact ih (k + 1) (gKeep S (xTake (gE S) (gJK S i k) (gJD S i k) (gX S))) h1 Q _ (by show k + 1 + f = gJn S i; omega) hi g s1 c1 (fun h' g c' => H h' (FR_trans f1 g) c')
theorem S100 {S : GS} {d : Nat} {v : Int32} {h : ajH} {Q : Option Value → ajH → Prop} (hs : ajShp h) (c : CI S h) (vd : GVd S)
    (H : ∀ h', FR h h' PHd → CI (gPerf S v) h' → Q (some (.int (aPerf S v))) h') : ajEv (d + 7) 100 0 [.ref 1, .int v, ajU, ajU, ajU] [] h Q := by
  have z8 := vd.z8
  have j4 := vd.j4
  refine W100_0 hs ?_
  refine S98 hs c.2.2.1 ?_
  intro s1
  refine ⟨_, rfl, ?_⟩
  cases e1 : isp (gmj S) v with
  | false =>
    rw [if_pos (show flg false = 0 from rfl)]
    exact pf_n (by unfold pfOK; rw [e1]; rfl) H (FR_refl _ _) c
  | true =>
    rw [if_neg (by decide)]
    refine S56 s1 c.2.1 z8 ?_
    intro s2
    refine ⟨_, rfl, ?_⟩
    by_cases hz : 0 < gz S
    · rw [decide_eq_true hz, if_pos (by decide)]
      obtain ⟨i, hi, rfl⟩ := isp_k (by omega) e1
      have ey : pfOK S (nI i) = true := by unfold pfOK; rw [e1, decide_eq_true hz]; rfl
      unfold gPerf aPerf at H
      simp only [if_pos ey, sr_N (show i < 2147483648 by omega)] at H
      rw [sr_N (by omega)]
      refine ⟨by rw [sr_in (by omega)]; omega, ?_⟩
      exact S100_29 (gJn S i) 0 S h Q _ (by omega) hi vd s2 c H
    · rw [decide_eq_false hz, if_neg (show ¬ ¬ flg false = 0 from fun z => z rfl)]
      exact pf_n (by unfold pfOK; rw [decide_eq_false hz, Bool.and_false]) H (FR_refl _ _) c
theorem S218_24 {d i : Nat} : ∀ (f k : Nat) (S : GS) (h : ajH) (Q : Option Value → ajH → Prop) (u3 : Value), k + f = gJn S i → i < gmj S → 0 < gz S → GVd S → ajShp h → MI S h →
    (∀ h', FR h h' PMd → MI (prF i f k S).2 h' → Q (some (.int (nI (prF i f k S).1))) h') → ajEv (d + 40) 218 24 [.ref 320, .int (nI i), .int (nI k), u3] [] h Q := by
  intro f
  induction f with
  | zero =>
    intro k S h Q u3 hk hi hz vd hs c H
    have j4 := vd.j4
    have n16 := (vd.jn i hi).1
    refine W218_24 hs ?_
    refine ⟨by rw [sr_in (by omega)]; omega, ?_⟩
    rw [sr_N (by omega), (c.2.2.1.2.2.2 i hi).1, if_pos (by rw [sr_le (by omega) (by omega)]; omega)]
    exact H h (FR_refl _ _) c
  | succ f ih =>
    intro k S h Q u3 hk hi hz vd hs c H
    have j4 := vd.j4
    have z8 := vd.z8
    obtain ⟨n16, hK⟩ := vd.jn i hi
    have hk' : k < gJn S i := by omega
    have xv := vd.xv hz
    refine W218_24 hs ?_
    refine ⟨by rw [sr_in (by omega)]; omega, ?_⟩
    rw [sr_N (by omega), (c.2.2.1.2.2.2 i hi).1, if_neg (by rw [sr_le (by omega) (by omega)]; omega), sl_16, sr_mul, sr_add, sl_2, sr_mul]
    refine S216 (Or.inl rfl) hs vd c.2.1 c.2.2.1 (mX0 c.2.2.2.1).1 hi hk' ?_
    intro s1
    refine ⟨_, rfl, ?_⟩
    have es : prF i (f + 1) k S = if hOK S (gJK S i k) (gJD S i k) = true then prF i f (k + 1) (gKeep S (xTake (gE S) (gJK S i k) (gJD S i k) (gX S))) else (k, S) := rfl
    rw [es, hOK_1 hz] at H
    cases ec : caB (gz S) (gX S).1 (gJK S i k) (gJD S i k) with
    | false =>
      rw [if_pos (show flg false = 0 from rfl)]
      rw [ec, if_neg (by decide)] at H
      exact H h (FR_refl _ _) c
    | true =>
      rw [if_neg (by decide)]
      rw [if_pos ec] at H
      have eh : hOK S (gJK S i k) (gJD S i k) = true := (hOK_1 hz).trans ec
      have g := GVd_hand (v := gJD S i k) vd (hK k hk')
      rw [gHand_y eh] at g
      refine S187 s1 c.2.2.2.2.1 c.2.2.2.1 ?_
      intro h1 f1 ra1 s2
      refine ⟨rfl, ?_⟩
      have f1' : FR h h1 PMd := FR_mono f1 (fun o j z => by unfold PMd; exact Or.inr (Or.inr (Or.inl z)))
      have mx1 : mX h1 331 0 (gX S) := mX_FR c.2.2.2.1 f1 (fun j => by unfold PRm; omega)
      have m81 : MemoOK h1 (gm S) (gTB S) (gTL S) := MemoOK_FR c.2.2.2.2.2.2.2 f1 (fun j => by unfold PRm; omega)
      have c1 : MI (gKeep S (gX S)) h1 := MI_sX c f1' (fun o j z => z) mx1 ra1 m81
      have vd1 : GVd (gKeep S (gX S)) := GVd_keep vd hz xv
      refine S217 (S := gKeep S (gX S)) (i := i) (k := k) (Or.inl rfl) s2 c1 vd1 hz xv mx1 hi hk' ec ?_
      intro h2 f2 mx2 m82 s3
      refine ⟨_, rfl, ?_⟩
      rw [nI_1]
      have f2' : FR h1 h2 PMd := FR_mono f2 (fun o j z => by unfold PG at z; unfold PMd; rcases z with z | z; exact Or.inl z; exact Or.inr (Or.inl z))
      have ra2 : rA (pushN (gna S)) (pushX (gna S) (gAX S) (gX S)) h2 := rA_FR ra1 f2 (fun o j z => by unfold PG Pst PY at z; unfold d5; omega)
      have c2 : MI (gKeep S (xTake (gE S) (gJK S i k) (gJD S i k) (gX S))) h2 := MI_sX c (FR_trans f1' f2') (fun o j z => z) mx2 ra2 m82
      exact ih (k + 1) (gKeep S (xTake (gE S) (gJK S i k) (gJD S i k) (gX S))) h2 Q _ (by show k + 1 + f = gJn S i; omega) hi hz g s3 c2 (fun h' g c' => H h' (FR_trans (FR_trans f1' f2') g) c')
theorem S218 {S : GS} {d : Nat} {v : Int32} {h : ajH} {Q : Option Value → ajH → Prop} (hs : ajShp h) (c : MI S h) (vd : GVd S)
    (H : ∀ h', FR h h' PMd → MI (gPerf S v) h' → Q (some (.int (aPerf S v))) h') : ajEv (d + 40) 218 0 [.ref 320, .int v, ajU, ajU] [] h Q := by
  have z8 := vd.z8
  have j4 := vd.j4
  refine W218_0 hs ?_
  rintro _ rfl
  have c0 := MI_0 (x := 0) c
  have f0 := FR_0 h 0
  have s0 : ajShp (ajSI h 320 0 0) := hs
  generalize ajSI h 320 0 0 = h0 at c0 f0 s0
  refine S213 s0 c0.2.2.1 ?_
  intro s1
  refine ⟨_, rfl, ?_⟩
  cases e1 : isp (gmj S) v with
  | false =>
    rw [if_pos (show flg false = 0 from rfl)]
    exact pf_n (by unfold pfOK; rw [e1]; rfl) H f0 c0
  | true =>
    rw [if_neg (by decide), c0.2.1.1]
    by_cases hz : 0 < gz S
    · rw [if_pos (nI_ne0 hz (by omega))]
      obtain ⟨i, hi, rfl⟩ := isp_k (by omega) e1
      have ey : pfOK S (nI i) = true := by unfold pfOK; rw [e1, decide_eq_true hz]; rfl
      unfold gPerf aPerf at H
      simp only [if_pos ey, sr_N (show i < 2147483648 by omega)] at H
      exact S218_24 (gJn S i) 0 S h0 Q _ (by omega) hi hz vd s1 c0 (fun h' g c' => H h' (FR_trans f0 g) c')
    · rw [show gz S = 0 by omega, if_neg (show ¬ ¬ nI 0 = 0 from fun z => z rfl)]
      exact pf_n (by unfold pfOK; rw [decide_eq_false hz, Bool.and_false]) H f0 c0
