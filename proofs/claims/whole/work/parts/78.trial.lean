/-! Forecasts: a trial on both sides. -/
def PTr (o _j : Nat) : Prop := 59 ≤ o ∧ o < 64 ∨ PLw o
theorem CI_tr {S : GS} {h h' : ajH} {P : Nat → Nat → Prop} (c : CI S h) (f : FR h h' P) (p : ∀ o j, P o j → PTr o j) : CI S h' := CI_FR c f (fun o j z => by have y := p o j z; unfold PTr PLw at y; unfold b1 b2 b3 b4 b5 b6 b7 PLw; omega)
theorem cFo {S : GS} {d : Nat} {h : ajH} {Q : Option Value → ajH → Prop} (hs : ajShp h) (c : CI S h) (vd : GVd S) (hz : 0 < gz S)
    (H : ∀ h', FR h h' PTr → CI S h' → CS h' 59 (gz S) (gX S).1 → Q none h') : ajEv d 62 0 [.ref 59, .ref 54] [] h Q := by
  have h18 := (vd.xv hz).1.2.2.2.2.1
  refine S62 (LG := fun _ _ => 0) sQ_59 sQ_54 (by omega) vd.z8 hs c.2.2.2.1.1 h18 ?_
  intro h1 f1 cx1
  have f2 : FR h h1 PTr := FR_mono f1 (fun o j z => by unfold PCc at z; unfold PTr; omega)
  exact H h1 f2 (CI_tr c f2 (fun o j z => z)) cx1.1
theorem cTr {S : GS} {d T : Nat} {h : ajH} {Q : Option Value → ajH → Prop} {R : Nat → Int32} {s : Bool} (hs : ajShp h) (c : CI S h) (vd : GVd S) (hz : 0 < gz S) (rv : RV (gz S) T R) (cs : CS h 59 (gz S) R)
    (H : ∀ h', FR h h' PTr → CI S h' → CS h' 59 (gz S) (iPl (gE S) (iTurn (gE S) s R)) → ajI h' 59 13 = bmO (gE S) (iTurn (gE S) s R) → ajI h' 59 14 = iDone (gE S) (iTurn (gE S) s R) → ajI h' 59 15 = iChg (gE S) (iTurn (gE S) s R) → Q none h') : ajEv (d + 4) 65 0 [.ref 59, .int (flg s), .ref 4, .ref (gV S)] [] h Q := by
  refine S65 (E := gE S) (T := T) sQ_59 wQ_4 rv (gE_ok vd) (gE_g vd) hs (CI_CE c.2.1 vd hz) (CI_CL c.2.2.1 vd) cs ?_
  intro h1 f1 cs1 e13 e14 e15
  have f2 : FR h h1 PTr := FR_mono f1 (fun o j z => by unfold PCp PLw at z; unfold PTr PLw; omega)
  exact H h1 f2 (CI_tr c f2 (fun o j z => z)) cs1 e13 e14 e15
def PMt (o j : Nat) : Prop := Pst 332 o j ∨ o = 332 ∨ o = 320 ∧ j = 0
theorem MI_tr {S : GS} {h h' : ajH} {P : Nat → Nat → Prop} (c : MI S h) (f : FR h h' P) (p : ∀ o j, P o j → PMt o j) (e8 : r8 S h') : MI S h' := MI_FR c f (fun o j z => by have y := p o j z; unfold PMt Pst PY at y; unfold d1 d2 d3 d4 d5 d6 d7; omega) e8
theorem mFo {S : GS} {d : Nat} {h : ajH} {Q : Option Value → ajH → Prop} (hs : ajShp h) (c : MI S h)
    (H : ∀ h', FR h h' PMt → MI S h' → RW h' 332 (gX S).1 → Q none h') : ajEv d 215 0 [.ref 331, .ref 332, ajU] [] h Q := by
  refine S215 (LG := fun _ _ => 0) (Or.inl rfl) (Or.inr rfl) (by omega) hs (mX0 c.2.2.2.1).1 ?_
  intro h1 f1 mx1
  have f2 : FR h h1 PMt := FR_mono f1 (fun o j z => by unfold PMt; omega)
  exact H h1 f2 (MI_tr c f2 (fun o j z => z) (r8_FR c.2.2.2.2.2.2.2 f1 (fun o j z => by omega))) (mX0 mx1).1
theorem mTr {S : GS} {d T : Nat} {h : ajH} {Q : Option Value → ajH → Prop} {R : Nat → Int32} {s : Bool} (hs : ajShp h) (c : MI S h) (vd : GVd S) (hz : 0 < gz S) (rv : RV (gz S) T R) (hT : T ≤ 2147483648) (mw : RW h 332 R)
    (H : ∀ h', FR h h' PMt → MI S h' → RW h' 332 (iPl (gE S) (iTurn (gE S) s R)) → ajI h' 320 36 = bmO (gE S) (iTurn (gE S) s R) → ajI h' 320 37 = iChg (gE S) (iTurn (gE S) s R) → Q (some (.int (iDone (gE S) (iTurn (gE S) s R)))) h') : ajEv (d + 37) 189 0 [.ref 320, .ref 332, .int (flg s)] [] h Q := by
  refine S189 (E := gE S) (T := T) (Or.inr rfl) hs (MI_ME c.2.1 vd hz) (gE_ok vd) (MI_MV c.2.2.1 c.1 c.2.2.2.2.2.2.2 vd) mw rv hT ?_
  intro h1 f1 mv1 rw1 e36 e37
  have f2 : FR h h1 PMt := FR_mono f1 (fun o j z => Or.inl z)
  exact H h1 f2 (MI_tr c f2 (fun o j z => z) mv1.2.1) rw1 e36 e37
/-- the row behind a turn -/
noncomputable def iNx (E : EV) (R : Nat → Int32) : Nat → Int32 := iPl E (iTurn E false R)
theorem RV_nx {E : EV} {T : Nat} {s : Bool} {R : Nat → Int32} (g : EVg E) (eo : EVok E) (n8 : eN E ≤ 8) (c : RV (eN E) T R) (hT : T < 2147483648) : RV (eN E) (T + 1) (iPl E (iTurn E s R)) := RV_pl g eo (RV_turn s c n8) n8 hT
theorem iNx_16 (E : EV) (n8 : eN E ≤ 8) (R : Nat → Int32) : iNx E R 16 = nI ((bN R + 1) % eN E) := by
  unfold iNx iPl
  rw [iEnd_e _ _ (by omega)]
  unfold iMid
  rw [iTalk_e _ _ (by omega), iFall_e _ _ (by omega)]
  unfold iTurn iGo
  rw [if_neg (by decide), upR_s]
theorem iNx_od (E : EV) (n8 : eN E ≤ 8) (R : Nat → Int32) {k : Nat} (hk : k < 8) : iNx E R (2 * k + 1) = iFall (bmO E (iGo (eN E) R)) R (2 * k + 1) := by
  unfold iNx iPl
  rw [iEnd_e _ _ (by omega)]
  unfold iMid
  rw [iTalk_e _ _ (by omega)]
  unfold iTurn
  rw [if_neg (by decide)]
  unfold iFall
  rw [show iGo (eN E) R (2 * k + 1) = R (2 * k + 1) from upR_n _ _ (by omega)]
