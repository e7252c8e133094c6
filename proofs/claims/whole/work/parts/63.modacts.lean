/-! The reference's acts by hand, as its caller sees them. -/
theorem hOK_0 {S : GS} {o : Nat} {v : Int32} (hz : ¬ 0 < gz S) : hOK S o v = false := by unfold hOK; rw [decide_eq_false hz]; rfl
theorem hOK_1 {S : GS} {o : Nat} {v : Int32} (hz : 0 < gz S) : hOK S o v = caB (gz S) (gX S).1 o v := by unfold hOK; rw [decide_eq_true hz, Bool.true_and]
theorem gHand_n {S : GS} {o : Nat} {v : Int32} (e : hOK S o v = false) : gHand S o v = S := by unfold gHand; rw [if_neg (by rw [e]; decide)]
theorem gHand_y {S : GS} {o : Nat} {v : Int32} (e : hOK S o v = true) : gHand S o v = gKeep S (xTake (gE S) o v (gX S)) := by unfold gHand; rw [if_pos e]
theorem flg_b (b : Bool) : flg b = 0 ∨ flg b = 1 := by cases b; exact Or.inl rfl; exact Or.inr rfl
theorem FR_0 (h : ajH) (x : Int32) : FR h (ajSI h 320 0 x) PMd := FR_SI h (by unfold PMd; omega)
/-- remembered, then gone -/
theorem S187g {S : GS} {d : Nat} {s : Bool} {X : XT} {h h1 : ajH} {Q : Option Value → ajH → Prop} (hs : ajShp h1) (c : MI S h) (vd : GVd S) (hz : 0 < gz S) (f : FR h h1 PMd) (m8 : MemoOK h1 (gm S) (gTB S) (gTL S)) (ra : rA (pushN (gna S)) (pushX (gna S) (gAX S) (gX S)) h1) (mx : mX h1 331 0 X) (xv : XV (gz S) X)
    (H : ∀ h', FR h h' PMd → MI (gKeep S (xTurn (gE S) s X)) h' → Q (some (.int (xDone (gE S) s X))) h') : ajEv (d + 38) 188 0 [.ref 320, .ref 331, .int (flg s), ajU, ajU] [] h1 (fun r h10 => ajShp h10 → ∃ x11, r = some (.int x11) ∧ Q (some (.int x11)) h10) := by
  have g : ∀ o j, PMd o j → ¬ d1 o j ∧ ¬ d2 o j ∧ ¬ d3 o j := fun o j y => by
    unfold PMd Pst PY PRm at y
    unfold d1 d2 d3
    omega
  have k3 := r3_FR c.2.2.1 f (fun o j z => (g o j z).2.2)
  have k2 := r2_FR c.2.1 f (fun o j z => (g o j z).2.1)
  have k1 := r1_FR c.1 f (fun o j z => (g o j z).1)
  refine S188n (E := gE S) (Or.inl rfl) hs (MI_ME k2 vd hz) (gE_ok vd) (MI_MV k3 k1 m8 vd) mx xv ?_
  intro h2 f2 mv2 mx2 _ _ s2
  have f02 : FR h h2 PMd := FR_trans f (FR_mono f2 (fun o j z => by unfold PG at z; unfold PMd; rcases z with z | z; exact Or.inl z; exact Or.inr (Or.inl z)))
  exact ⟨_, rfl, H h2 f02 (MI_sX c f02 (fun o j z => z) mx2 (rA_FR ra f2 (fun o j z => by unfold PG Pst PY at z; unfold d5; omega)) mv2.2.1)⟩
theorem S186 {S : GS} {d : Nat} {h : ajH} {Q : Option Value → ajH → Prop} (hs : ajShp h) (c : MI S h) (vd : GVd S)
    (H : ∀ h', FR h h' PMd → MI (gHand S 0 (-1)) h' → Q (some (.int (aTurn S 0))) h') : ajEv (d + 39) 186 0 [.ref 320] [] h Q := by
  have z8 := vd.z8
  refine W186_0 hs ?_
  rintro _ rfl
  have c0 := MI_0 (x := 0) c
  have f0 := FR_0 h 0
  have s0 : ajShp (ajSI h 320 0 0) := hs
  generalize ajSI h 320 0 0 = h0 at c0 f0 s0
  rw [c0.2.1.1]
  by_cases hz : 0 < gz S
  · rw [if_neg (nI_ne0 hz (by omega))]
    have xv := vd.xv hz
    obtain ⟨rw, _⟩ := mX0 c0.2.2.2.1
    have t1 := xv.1.2.2.2.1
    rw [rw 21 (by omega), t1.1]
    have eh : hOK S 0 (-1) = !decide (999 ≤ tN (gX S).1) := by
      rw [hOK_1 hz]
      show (!decide ((999 : Int32) ≤ (gX S).1 21)) = _
      congr 1
      refine decide_eq_decide.mpr ?_
      rw [t1.1, sl_999, sr_le (by omega) (by omega)]
    by_cases y : tN (gX S).1 = 999
    · rw [if_neg (by rw [sl_999, sr_eq (by omega) (by omega)]; exact fun z => z y)]
      have e : hOK S 0 (-1) = false := by rw [eh, y]; rfl
      have H2 := H h0 f0
      rw [gHand_n e] at H2
      unfold aTurn at H2
      rw [e, if_neg (by decide)] at H2
      exact H2 c0
    · rw [if_pos (by rw [sl_999, sr_eq (by omega) (by omega)]; exact y)]
      have e : hOK S 0 (-1) = true := by rw [eh, decide_eq_false (by omega)]; rfl
      have H2 := fun h' => H h'
      rw [gHand_y e] at H2
      unfold aTurn at H2
      rw [if_pos e] at H2
      have ra : rA (gna S) (gAX S) h0 := c0.2.2.2.2.1
      refine S187 s0 ra c0.2.2.2.1 ?_
      intro h1 f1 ra1 s1
      refine ⟨rfl, ?_⟩
      exact S187g (d := d) (s := false) s1 c vd hz (FR_trans f0 (FR_mono f1 (fun o j z => by unfold PMd; exact Or.inr (Or.inr (Or.inl z))))) (MemoOK_FR c0.2.2.2.2.2.2.2 f1 (fun j => by unfold PRm; omega)) ra1 (mX_FR c0.2.2.2.1 f1 (fun j => by unfold PRm; omega)) xv (fun h' f' c' => H2 h' f' c')
  · have e0 : gz S = 0 := by omega
    rw [if_pos (by rw [e0]; rfl)]
    have e := hOK_0 (o := 0) (v := -1) hz
    have H2 := H h0 f0
    rw [gHand_n e] at H2
    unfold aTurn at H2
    rw [e, if_neg (by decide)] at H2
    exact H2 c0
theorem S197 {S : GS} {d : Nat} {h : ajH} {Q : Option Value → ajH → Prop} (hs : ajShp h) (c : MI S h) (vd : GVd S)
    (H : ∀ h', FR h h' PMd → MI (gHand S 1 (-1)) h' → Q (some (.int (aTurn S 1))) h') : ajEv (d + 39) 197 0 [.ref 320] [] h Q := by
  have z8 := vd.z8
  refine W197_0 hs ?_
  rintro _ rfl
  have c0 := MI_0 (x := 0) c
  have f0 := FR_0 h 0
  have s0 : ajShp (ajSI h 320 0 0) := hs
  generalize ajSI h 320 0 0 = h0 at c0 f0 s0
  rw [c0.2.1.1]
  by_cases hz : 0 < gz S
  · rw [if_neg (nI_ne0 hz (by omega))]
    have xv := vd.xv hz
    obtain ⟨rw, _⟩ := mX0 c0.2.2.2.1
    refine S198 (n := gz S) (v := -1) (Or.inl rfl) s0 rw ?_
    intro s1
    refine ⟨_, rfl, ?_⟩
    cases e1 : caB (gz S) (gX S).1 1 (-1) with
    | false =>
      have e : hOK S 1 (-1) = false := (hOK_1 hz).trans e1
      rw [if_neg (show ¬ ¬ flg false = 0 from fun z => z rfl)]
      have H2 := H h0 f0
      rw [gHand_n e] at H2
      unfold aTurn at H2
      rw [e, if_neg (by decide)] at H2
      exact H2 c0
    | true =>
      have e : hOK S 1 (-1) = true := (hOK_1 hz).trans e1
      rw [if_pos (by decide)]
      have H2 := fun h' => H h'
      rw [gHand_y e] at H2
      unfold aTurn at H2
      rw [if_pos e] at H2
      have ra : rA (gna S) (gAX S) h0 := c0.2.2.2.2.1
      refine S187 s1 ra c0.2.2.2.1 ?_
      intro h1 f1 ra1 s2
      refine ⟨rfl, ?_⟩
      rintro _ rfl
      have mx1 : mX h1 331 0 (gX S) := mX_FR c0.2.2.2.1 f1 (fun j => by unfold PRm; omega)
      rw [(mX0 mx1).1 20 (by omega)]
      have mx2 := mX_up (x := (gX S).1 20 - 1) mx1 (show 20 < 22 by omega)
      have f2 : FR h1 (ajSI h1 331 20 ((gX S).1 20 - 1)) (fun o _ => o = 331) := FR_SI h1 rfl
      exact S187g (d := d) (s := true) s2 c vd hz (FR_trans (FR_trans f0 (FR_mono f1 (fun o j z => by unfold PMd; exact Or.inr (Or.inr (Or.inl z))))) (FR_mono f2 (fun o j z => by unfold PMd; exact Or.inr (Or.inl z)))) (MemoOK_FR (MemoOK_FR c0.2.2.2.2.2.2.2 f1 (fun j => by unfold PRm; omega)) f2 (fun j => by omega)) (rA_FR ra1 f2 (fun o j z => by unfold d5; omega)) mx2 (XV_20 _ xv z8) (fun h' f' c' => H2 h' f' c')
  · have e0 : gz S = 0 := by omega
    rw [if_pos (by rw [e0]; rfl)]
    have e := hOK_0 (o := 1) (v := -1) hz
    have H2 := H h0 f0
    rw [gHand_n e] at H2
    unfold aTurn at H2
    rw [e, if_neg (by decide)] at H2
    exact H2 c0
theorem ca_z {S : GS} {o : Nat} {v : Int32} (ho : o = 2 ∨ o = 3) (z8 : gz S ≤ 8) (c : caB (gz S) (gX S).1 o v = true) : ∃ k, k < gz S ∧ v = nI k := by
  have e : isp (gz S) v = true := by
    rcases ho with rfl | rfl
    all_goals
      unfold caB at c
      cases y : isp (gz S) v with
      | true => rfl
      | false => rw [y] at c; cases c
  exact isp_k z8 e
theorem hOK_23 {S : GS} {o : Nat} {v : Int32} (ho : o = 2 ∨ o = 3) (z8 : gz S ≤ 8) : hOK S o v = caB (gz S) (gX S).1 o v := by
  by_cases hz : 0 < gz S
  · exact hOK_1 hz
  · rw [hOK_0 hz]
    cases e : caB (gz S) (gX S).1 o v with
    | false => rfl
    | true => obtain ⟨k, hk, _⟩ := ca_z ho z8 e; omega
theorem S199 {S : GS} {d : Nat} {v : Int32} {h : ajH} {Q : Option Value → ajH → Prop} (hs : ajShp h) (c : MI S h) (vd : GVd S)
    (H : ∀ h', FR h h' PMd → MI (gHand S 2 v) h' → Q (some (.int (aAway S v))) h') : ajEv (d + 2) 199 0 [.ref 320, .int v] [] h Q := by
  have z8 := vd.z8
  refine W199_0 hs ?_
  rintro _ rfl
  have c0 := MI_0 (x := 0) c
  have f0 := FR_0 h 0
  have s0 : ajShp (ajSI h 320 0 0) := hs
  generalize ajSI h 320 0 0 = h0 at c0 f0 s0
  obtain ⟨rw, _⟩ := mX0 c0.2.2.2.1
  refine S200 (Or.inl rfl) s0 z8 c0.2.1 rw ?_
  intro s1
  refine ⟨_, rfl, ?_⟩
  have eh := hOK_23 (S := S) (v := v) (Or.inl rfl) z8
  cases e1 : caB (gz S) (gX S).1 2 v with
  | false =>
    have e := eh.trans e1
    rw [if_neg (show ¬ ¬ flg false = 0 from fun z => z rfl)]
    have H2 := H h0 f0
    rw [gHand_n e] at H2
    unfold aAway at H2
    rw [e, if_neg (by decide)] at H2
    exact H2 c0
  | true =>
    have e := eh.trans e1
    obtain ⟨k, hk, rfl⟩ := ca_z (Or.inl rfl) z8 e1
    rw [if_pos (by decide)]
    have H2 := fun h' => H h'
    rw [gHand_y e] at H2
    unfold aAway at H2
    rw [if_pos e, sr_N (by omega)] at H2
    have ra : rA (gna S) (gAX S) h0 := c0.2.2.2.2.1
    refine S187 s1 ra c0.2.2.2.1 ?_
    intro h1 f1 ra1 s2
    refine ⟨rfl, ?_⟩
    have mx1 : mX h1 331 0 (gX S) := mX_FR c0.2.2.2.1 f1 (fun j => by unfold PRm; omega)
    refine S201 (E := gE S) (Or.inl rfl) (by omega) s2 mx1 ?_
    intro h2 f2 mx2 s3
    refine ⟨rfl, ?_⟩
    refine S193 (Or.inl rfl) s3 (mX0 mx2).1 (by omega) ?_
    intro s4
    refine ⟨_, rfl, ?_⟩
    have f02 : FR h h2 PMd := FR_trans (FR_trans f0 (FR_mono f1 (fun o j z => by unfold PMd; exact Or.inr (Or.inr (Or.inl z))))) (FR_mono f2 (fun o j z => by unfold PMd; exact Or.inr (Or.inl z.1)))
    have c2 := MI_sX c f02 (fun o j z => z) mx2 (rA_FR ra1 f2 (fun o j z => by unfold d5; omega)) (MemoOK_FR (MemoOK_FR c0.2.2.2.2.2.2.2 f1 (fun j => by unfold PRm; omega)) f2 (fun j => by omega))
    have H3 := H2 h2 f02 c2
    cases e4 : onB (xTake (gE S) 2 (nI k) (gX S)).1 k with
    | false => rw [if_pos (show flg false = 0 from rfl)]; rw [e4] at H3; exact H3
    | true => rw [if_neg (by decide)]; rw [e4] at H3; exact H3
theorem S202 {S : GS} {d : Nat} {v : Int32} {h : ajH} {Q : Option Value → ajH → Prop} (hs : ajShp h) (c : MI S h) (vd : GVd S)
    (H : ∀ h', FR h h' PMd → MI (gHand S 3 v) h' → Q (some (.int (aMend S v))) h') : ajEv (d + 2) 202 0 [.ref 320, .int v] [] h Q := by
  have z8 := vd.z8
  refine W202_0 hs ?_
  rintro _ rfl
  have c0 := MI_0 (x := 0) c
  have f0 := FR_0 h 0
  have s0 : ajShp (ajSI h 320 0 0) := hs
  generalize ajSI h 320 0 0 = h0 at c0 f0 s0
  obtain ⟨rw, _⟩ := mX0 c0.2.2.2.1
  refine S203 (Or.inl rfl) s0 z8 c0.2.1 rw ?_
  intro s1
  refine ⟨_, rfl, ?_⟩
  have eh := hOK_23 (S := S) (v := v) (Or.inr rfl) z8
  cases e1 : caB (gz S) (gX S).1 3 v with
  | false =>
    have e := eh.trans e1
    rw [if_neg (show ¬ ¬ flg false = 0 from fun z => z rfl)]
    have H2 := H h0 f0
    rw [gHand_n e] at H2
    unfold aMend at H2
    rw [e, if_neg (by decide)] at H2
    exact H2 c0
  | true =>
    have e := eh.trans e1
    obtain ⟨k, hk, rfl⟩ := ca_z (Or.inr rfl) z8 e1
    rw [if_pos (by decide)]
    have H2 := fun h' => H h'
    rw [gHand_y e] at H2
    unfold aMend at H2
    rw [if_pos e] at H2
    have ra : rA (gna S) (gAX S) h0 := c0.2.2.2.2.1
    refine S187 s1 ra c0.2.2.2.1 ?_
    intro h1 f1 ra1 s2
    refine ⟨rfl, ?_⟩
    have mx1 : mX h1 331 0 (gX S) := mX_FR c0.2.2.2.1 f1 (fun j => by unfold PRm; omega)
    refine S204 (E := gE S) (Or.inl rfl) (by omega) s2 mx1 ?_
    intro h2 f2 mx2 s3
    refine ⟨rfl, ?_⟩
    have f02 : FR h h2 PMd := FR_trans (FR_trans f0 (FR_mono f1 (fun o j z => by unfold PMd; exact Or.inr (Or.inr (Or.inl z))))) (FR_mono f2 (fun o j z => by unfold PMd; exact Or.inr (Or.inl z.1)))
    have c2 := MI_sX c f02 (fun o j z => z) mx2 (rA_FR ra1 f2 (fun o j z => by unfold d5; omega)) (MemoOK_FR (MemoOK_FR c0.2.2.2.2.2.2.2 f1 (fun j => by unfold PRm; omega)) f2 (fun j => by omega))
    have me2 : ME h2 (gE S) := MI_ME (S := S) c2.2.1 vd (by omega)
    refine S181 (E := gE S) (Or.inl rfl) s3 me2 (mX0 mx2).1 ?_
    intro s4
    refine ⟨_, rfl, ?_⟩
    refine S258 s4 ?_
    intro s5
    exact ⟨_, rfl, H2 h2 f02 c2⟩
