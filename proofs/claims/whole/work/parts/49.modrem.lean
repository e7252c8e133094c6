/-! The reference passes, goes with its log, remembers, copies, lays. -/
/-- one turn: the bottom moves on, or not -/
def iTurn (E : EV) (s : Bool) (R : Nat → Int32) : Nat → Int32 := if s = true then R else iGo (eN E) R
theorem RV_turn {E : EV} {T : Nat} {R : Nat → Int32} (s : Bool) (c : RV (eN E) T R) (n8 : eN E ≤ 8) : RV (eN E) T (iTurn E s R) := by
  unfold iTurn
  cases s with
  | true => exact c
  | false => exact (RV_go c n8).1
theorem S189 {E : EV} {d r m T : Nat} {TB : Nat → Nat → Nat} {TL : Nat → Nat} {R : Nat → Int32} {h : ajH} {Q : Option Value → ajH → Prop} {s : Bool} (hr : rB r) (hs : ajShp h) (me : ME h E) (eo : EVok E) (mv : MV h m TB TL E) (rw : RW h r R) (rv : RV (eN E) T R) (hT : T ≤ 2147483648)
    (H : ∀ h', FR h h' (Pst r) → MV h' m TB TL E → RW h' r (iPl E (iTurn E s R)) → ajI h' 320 36 = bmO E (iTurn E s R) → ajI h' 320 37 = iChg E (iTurn E s R) → Q (some (.int (iDone E (iTurn E s R)))) h') : ajEv (d + 37) 189 0 [.ref 320, .ref r, .int (flg s)] [] h Q := by
  have n8 := me.2.2.1
  have hb2 := rv.1.2
  refine W189_0 hs (rB_w hr) ?_
  cases s with
  | true =>
    rw [if_pos (by decide)]
    refine W189_19 hs (rB_i hr) ?_
    refine S190 hr hs me eo mv rw rv hT ?_
    intro h' f mv' rw' e1 e2 s1
    exact ⟨_, rfl, H h' f mv' rw' e1 e2⟩
  | false =>
    rw [if_neg (by decide), rB_l hr, me.1, rw 16 (by omega), rv.1.1, nI_1, sr_rem (by omega) (by omega) (by omega)]
    refine ⟨by decide, nI_ne0 (by omega) (by omega), by decide, ?_⟩
    rintro _ rfl
    refine W189_19 hs (rB_i hr) ?_
    have f1 : FR h (ajSI h r 16 (nI ((bN R + 1) % eN E))) (fun o j => o = r ∧ j < 22) := FR_SI h ⟨rfl, by omega⟩
    have rw1 : RW (ajSI h r 16 (nI ((bN R + 1) % eN E))) r (iTurn E false R) := RW_SI rw (fun k hk => rfl)
    refine S190 hr hs (ME_Y hr me (FR_mono f1 (fun o j z => by unfold Pst; omega))) eo (MV_Y hr mv (FR_mono f1 (fun o j z => by omega))) rw1 (RV_turn false rv n8) hT ?_
    intro h' f mv' rw' e1 e2 s1
    exact ⟨_, rfl, H h' (FR_trans (FR_mono f1 (fun o j z => by unfold Pst; omega)) f) mv' rw' e1 e2⟩
/-- the log of the reference: its count, its rows -/
def RLG (h : ajH) (r c : Nat) (G : Nat → Int32) : Prop := ajI h r 22 = nI c ∧ c ≤ 60 ∧ ∀ i, i < 3 * c → ajI h r (23 + i) = G i
theorem RLG_FR {h h' : ajH} {P : Nat → Nat → Prop} {r c : Nat} {G : Nat → Int32} (g : RLG h r c G) (f : FR h h' P) (p : ∀ j, 22 ≤ j → ¬ P r j) : RLG h' r c G := ⟨(FR_I f (p 22 (by omega))).trans g.1, g.2.1, fun i hi => (FR_I f (p _ (by omega))).trans (g.2.2 i hi)⟩
/-- one entry more; the oldest goes when there are 60 -/
def lgC (c : Nat) : Nat := if c = 60 then 60 else c + 1
def lgG (c : Nat) (G : Nat → Int32) (d b o : Int32) : Nat → Int32 := fun i => if i < 3 * (lgC c - 1) then (if c = 60 then G (i + 3) else G i) else if i = 3 * (lgC c - 1) then d else if i = 3 * (lgC c - 1) + 1 then b else o
theorem S188_57 {d r c : Nat} {h : ajH} {Q : Option Value → ajH → Prop} {R : Nat → Int32} {G : Nat → Int32} {x : Int32} {u2 u4 : Value} (hr : rB r) (hs : ajShp h) (rw : RW h r R) (hc : c < 60) (e22 : ajI h r 22 = nI c) (eg : ∀ i, i < 3 * c → ajI h r (23 + i) = G i)
    (H : ∀ h', FR h h' (fun o j => o = r ∧ 22 ≤ j) → RLG h' r (c + 1) (fun i => if i < 3 * c then G i else if i = 3 * c then x else if i = 3 * c + 1 then R 16 else ajI h 320 36) → Q (some (.int x)) h') : ajEv (d + 1) 188 57 [.ref 320, .ref r, u2, .int x, u4] [] h Q := by
  have hr' := hr
  unfold rB at hr'
  refine W188_57 hs (rB_w hr) ?_
  rw [e22, rB_l hr, sl_3, sl_23, sr_mul, sr_add, nI_1, sl_2, sr_add, sr_in (by omega), sr_N (by omega), sr_N (by omega), sr_N (by omega)]
  refine ⟨by decide, by omega, ?_⟩
  rintro _ rfl
  rw [rB_l hr, sr_in (by omega)]
  refine ⟨by decide, by omega, ?_⟩
  rintro _ rfl
  rw [rB_l hr, sr_in (by omega)]
  refine ⟨by omega, ?_⟩
  rintro _ rfl
  rw [rB_l hr]
  refine ⟨by decide, by decide, ?_⟩
  rintro _ rfl
  refine H _ (FR_trans (FR_trans (FR_trans (FR_SI h ⟨rfl, by omega⟩) (FR_SI _ ⟨rfl, by omega⟩)) (FR_SI _ ⟨rfl, by omega⟩)) (FR_SI _ ⟨rfl, by omega⟩)) ⟨?_, by omega, fun i hi => ?_⟩
  · simp only [ajI_SI]
    rw [if_pos ⟨trivial, trivial⟩, if_neg (by omega), if_neg (by omega), if_neg (by omega), e22, nI_1]
  · simp only [ajI_SI, true_and]
    rw [if_neg (by omega)]
    by_cases e1 : i < 3 * c
    · rw [if_neg (by omega), if_neg (by omega), if_neg (by omega), if_pos e1, eg i e1]
    · rw [if_neg e1]
      by_cases e2 : i = 3 * c
      · rw [if_neg (by omega), if_neg (by omega), if_pos (by omega), if_pos e2]
      · rw [if_neg e2]
        by_cases e3 : i = 3 * c + 1
        · rw [if_neg (by omega), if_pos (by omega), if_pos e3, if_neg (by omega), rw 16 (by omega)]
        · rw [if_pos (by omega), if_neg e3, if_neg (by omega), if_neg (by omega)]
theorem S188_19 {d r : Nat} {Q : Option Value → ajH → Prop} {R : Nat → Int32} {G : Nat → Int32} {x : Int32} (hr : rB r) : ∀ (f j : Nat) (h : ajH) (u2 : Value), j + f = 178 → 1 ≤ j → ajShp h → RW h r R → ajI h r 22 = nI 60 → (∀ i, i < 180 → ajI h r (23 + i) = if i + 1 < j then G (i + 3) else G i) →
    (∀ (h' : ajH) (u2 u4 : Value), ajShp h' → FR h h' (fun o j => o = r ∧ 22 ≤ j) → RW h' r R → ajI h' r 22 = nI 59 → (∀ i, i < 177 → ajI h' r (23 + i) = G (i + 3)) → ajEv (d + 1) 188 57 [.ref 320, .ref r, u2, .int x, u4] [] h' Q) → ajEv (d + 1) 188 19 [.ref 320, .ref r, u2, .int x, .int (nI j)] [] h Q := by
  have hr' := hr
  unfold rB at hr'
  intro f
  induction f with
  | zero =>
    intro j h u2 hj h1 hs rw e22 eg H
    refine W188_19 hs (rB_w hr) ?_
    rw [if_pos (by rw [sl_177, sr_lt (by omega) (by omega)]; omega), rB_l hr]
    refine ⟨by decide, by decide, ?_⟩
    rintro _ rfl
    rw [e22, sl_1, sr_sub (by omega)]
    have f1 : FR h (ajSI h r 22 (nI (60 - 1))) (fun o j => o = r ∧ j = 22) := FR_SI h ⟨rfl, rfl⟩
    refine H _ _ _ hs (FR_mono f1 (fun o j z => by omega)) (RW_FR rw f1 (fun j hj => by omega)) (by rw [ajI_SI, if_pos ⟨rfl, rfl⟩]) (fun i hi => ?_)
    rw [FR_I f1 (by omega), eg i (by omega), if_pos (by omega)]
  | succ f ih =>
    intro j h u2 hj h1 hs rw e22 eg H
    refine W188_19 hs (rB_w hr) ?_
    rw [if_neg (by rw [sl_177, sr_lt (by omega) (by omega)]; omega), rB_l hr, sl_22, sr_add, sl_3, sr_add, nI_1, sr_in (by omega), sr_in (by omega), sr_N (by omega), sr_N (by omega)]
    refine ⟨by omega, by omega, ?_⟩
    rintro _ rfl
    have f1 : FR h (ajSI h r (22 + j) (ajI h r (22 + j + 3))) (fun o k => o = r ∧ k = 22 + j) := FR_SI h ⟨rfl, rfl⟩
    refine ih (j + 1) _ _ (by omega) (by omega) hs (RW_FR rw f1 (fun j hj => by omega)) ((FR_I f1 (by omega)).trans e22) (fun i hi => ?_) (fun h' u2 u4 sh g => H h' _ _ sh (FR_trans (FR_mono f1 (fun o k z => by omega)) g))
    rw [ajI_SI]
    by_cases e : i + 1 = j
    · have e2 := eg (i + 3) (by omega)
      rw [if_pos ⟨rfl, by omega⟩, if_pos (by omega), show 22 + j + 3 = 23 + (i + 3) by omega, e2, if_neg (by omega)]
    · rw [if_neg (by omega), eg i hi]
      by_cases y : i + 1 < j
      · rw [if_pos y, if_pos (by omega)]
      · rw [if_neg y, if_neg (by omega)]
def PG (r : Nat) (o j : Nat) : Prop := Pst r o j ∨ o = r
theorem S188 {E : EV} {d r m T c : Nat} {TB : Nat → Nat → Nat} {TL : Nat → Nat} {R G : Nat → Int32} {h : ajH} {Q : Option Value → ajH → Prop} {s : Bool} (hr : rB r) (hs : ajShp h) (me : ME h E) (eo : EVok E) (mv : MV h m TB TL E) (rw : RW h r R) (rv : RV (eN E) T R) (hT : T ≤ 2147483648) (lg : RLG h r c G)
    (H : ∀ h', FR h h' (PG r) → MV h' m TB TL E → RW h' r (iPl E (iTurn E s R)) → ajI h' 320 36 = bmO E (iTurn E s R) → ajI h' 320 37 = iChg E (iTurn E s R) → RLG h' r (lgC c) (lgG c G (iDone E (iTurn E s R)) (iPl E (iTurn E s R) 16) (bmO E (iTurn E s R))) → Q (some (.int (iDone E (iTurn E s R)))) h') : ajEv (d + 38) 188 0 [.ref 320, .ref r, .int (flg s), ajU, ajU] [] h Q := by
  have hr' := hr
  unfold rB at hr'
  refine W188_0 hs (rB_i hr) ?_
  refine S189 hr hs me eo mv rw rv hT ?_
  intro h1 f1 mv1 rw1 e36 e37 s1
  refine ⟨_, rfl, ?_⟩
  have lg1 := RLG_FR lg f1 (fun j hj => by unfold Pst PY; omega)
  have c60 := lg.2.1
  rw [rB_l hr, lg1.1]
  refine ⟨by decide, ?_⟩
  by_cases e : c = 60
  · subst e
    rw [if_neg (by rw [sl_60]; exact fun z => z rfl), sl_1]
    refine S188_19 (G := G) hr 177 1 h1 _ (by omega) (by omega) s1 rw1 lg1.1 (fun i hi => by rw [if_neg (by omega)]; exact lg1.2.2 i (by omega)) ?_
    intro h2 u2 u4 s2 f2 rw2 e22 eg
    refine S188_57 hr s2 rw2 (by omega) e22 (G := fun i => G (i + 3)) eg ?_
    intro h3 f3 lg3
    have f23 : FR h1 h3 (fun o j => o = r ∧ 22 ≤ j) := FR_trans f2 f3
    have e36' := (FR_I f2 (o := 320) (j := 36) (by omega)).trans e36
    refine H h3 (FR_trans (FR_mono f1 (fun o j z => Or.inl z)) (FR_mono f23 (fun o j z => Or.inr z.1))) (MV_Y hr mv1 (FR_mono f23 (fun o j z => by omega))) (RW_FR rw1 f23 (fun j hj => by omega)) ((FR_I f23 (by omega)).trans e36) ((FR_I f23 (by omega)).trans e37) ?_
    rw [e36'] at lg3
    exact lg3
  · rw [if_pos (by rw [sl_60, sr_eq (by omega) (by omega)]; exact e)]
    refine S188_57 hr s1 rw1 (by omega) lg1.1 (G := G) lg1.2.2 ?_
    intro h3 f3 lg3
    refine H h3 (FR_trans (FR_mono f1 (fun o j z => Or.inl z)) (FR_mono f3 (fun o j z => Or.inr z.1))) (MV_Y hr mv1 (FR_mono f3 (fun o j z => by omega))) (RW_FR rw1 f3 (fun j hj => by omega)) ((FR_I f3 (by omega)).trans e36) ((FR_I f3 (by omega)).trans e37) ?_
    rw [e36] at lg3
    refine ⟨?_, ?_, fun i hi => ?_⟩
    · unfold lgC; rw [if_neg e]; exact lg3.1
    · unfold lgC; rw [if_neg e]; omega
    · unfold lgC at hi
      rw [if_neg e] at hi
      rw [lg3.2.2 i hi]
      unfold lgG lgC
      rw [if_neg e, show c + 1 - 1 = c by omega]
      simp only [if_neg e]
