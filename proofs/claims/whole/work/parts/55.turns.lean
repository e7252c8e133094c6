/-! A turn with its log, on both sides. -/
/-- one turn of a state with its log -/
noncomputable def xTurn (E : EV) (s : Bool) (X : XT) : XT := (iPl E (iTurn E s X.1), X.2.1 + 1, fun e => if e = X.2.1 then (fun i => if i = 0 then iDone E (iTurn E s X.1) else if i = 1 then iPl E (iTurn E s X.1) 16 else bmO E (iTurn E s X.1)) else X.2.2 e)
noncomputable def xDone (E : EV) (s : Bool) (X : XT) : Int32 := iDone E (iTurn E s X.1)
theorem iDone_b (E : EV) (R : Nat → Int32) : iDone E R = 0 ∨ iDone E R = 1 := dnF_b _ _
theorem iEnd_21 (d : Int32) (R : Nat → Int32) : iEnd d R 21 = R 21 + 1 := upR_s _ _ _
theorem iPl_21 {E : EV} {T : Nat} {s : Bool} {R : Nat → Int32} (n8 : eN E ≤ 8) (c : RV (eN E) T R) (hT : T < 2147483648) : tN (iPl E (iTurn E s R)) = tN R + 1 := by
  have t := c.2.2.2.1
  unfold tN iPl
  rw [iEnd_21]
  have e : iMid E (iTurn E s R) 21 = R 21 := by
    unfold iMid
    rw [iTalk_e _ _ (by omega), iFall_e _ _ (by omega)]
    unfold iTurn iGo
    split
    · rfl
    · rw [upR_n _ _ (by omega)]
  rw [e, t.1, nI_1, sr_N (by have := t.2; omega), sr_N (by have := t.2; omega)]
theorem RV_up {n T T' : Nat} {R : Nat → Int32} (c : RV n T R) (h : T ≤ T') : RV n T' R := ⟨c.1, c.2.1, c.2.2.1, ⟨c.2.2.2.1.1, by have := c.2.2.2.1.2; omega⟩, c.2.2.2.2.1, c.2.2.2.2.2⟩
theorem RV_t {n T T' : Nat} {R : Nat → Int32} (c : RV n T R) (h : tN R < T') : RV n T' R := ⟨c.1, c.2.1, c.2.2.1, ⟨c.2.2.2.1.1, h⟩, c.2.2.2.2.1, c.2.2.2.2.2⟩
def en3 (a b c : Int32) : Nat → Int32 := fun i => if i = 0 then a else if i = 1 then b else c
theorem en3_0 (a b c : Int32) : en3 a b c 0 = a := rfl
theorem en3_1 (a b c : Int32) : en3 a b c 1 = b := rfl
theorem en3_2 (a b c : Int32) : en3 a b c 2 = c := rfl
theorem mk_st : ∀ n < 8, ∀ m < 2 ^ n, nI m ||| bt n = nI (m + 2 ^ n) := by decide +kernel
theorem mk_lt (p : Nat → Bool) : ∀ n, n ≤ 8 → ∃ m, m < 2 ^ n ∧ mk p n = nI m := by
  intro n
  induction n with
  | zero => exact fun _ => ⟨0, by decide, rfl⟩
  | succ n ih =>
    intro hn
    obtain ⟨m, hm, e⟩ := ih (by omega)
    have es : mk p (n + 1) = mk p n ||| (if p n = true then bt n else 0) := rfl
    have e2 : 2 ^ (n + 1) = 2 ^ n * 2 := Nat.pow_succ 2 n
    rw [es, e]
    by_cases y : p n = true
    · rw [if_pos y, mk_st n (by omega) m hm]
      exact ⟨m + 2 ^ n, by omega, rfl⟩
    · rw [if_neg y, Int32.or_zero]
      exact ⟨m, by omega, rfl⟩
theorem XV_turn {E : EV} {s : Bool} {X : XT} (g : EVg E) (eo : EVok E) (n8 : eN E ≤ 8) (c : XV (eN E) X) (ht : tN X.1 < 999) : XV (eN E) (xTurn E s X) := by
  have e := iPl_21 (s := s) n8 c.1 (by omega)
  have rp := RV_pl g eo (RV_turn s c.1 n8) n8 (by omega)
  refine ⟨RV_t rp ?_, ?_, ?_⟩
  · show tN (iPl E (iTurn E s X.1)) < 1000
    omega
  · show X.2.1 + 1 ≤ tN (iPl E (iTurn E s X.1))
    have := c.2.1
    omega
  · intro e he
    have he : e < X.2.1 + 1 := he
    by_cases y : e = X.2.1
    · have ee : (xTurn E s X).2.2 e = en3 (iDone E (iTurn E s X.1)) (iPl E (iTurn E s X.1) 16) (bmO E (iTurn E s X.1)) := by
        show (if e = X.2.1 then _ else _) = _
        rw [if_pos y]; rfl
      rw [ee, en3_0, en3_1, en3_2]
      refine ⟨iDone_b _ _, ⟨_, ?_, rp.1.1⟩, ?_⟩
      · have := rp.1.2; omega
      · obtain ⟨m, hm, em⟩ := mk_lt (fun k => hb (onM (eN E) (iTurn E s X.1)) k && decide (eS E k < br E (onM (eN E) (iTurn E s X.1)) (bN (iTurn E s X.1)) k)) (eN E) n8
        refine ⟨m, by have : 2 ^ eN E ≤ 2 ^ 8 := Nat.pow_le_pow_right (by omega) n8; omega, ?_⟩
        unfold bmO ov
        exact em
    · have ee : (xTurn E s X).2.2 e = X.2.2 e := by
        show (if e = X.2.1 then _ else _) = _
        rw [if_neg y]
      rw [ee]
      exact c.2.2 e (by omega)
theorem S81 {d : Nat} {h : ajH} {Q : Option Value → ajH → Prop} {x : Int32} (hs : ajShp h) (hx : x = 0 ∨ x = 1) (H : Q (some (.int x)) h) : ajEv d 81 0 [.int x] [] h Q := by
  refine W81_0 hs ?_
  rcases hx with rfl | rfl
  · rw [if_pos rfl]; exact H
  · rw [if_neg (by decide)]; exact H
/-- the class's pass and note in a row, on the state at q -/
theorem S80 {d q n ct : Nat} {h : ajH} {Q : Option Value → ajH → Prop} {R : Nat → Int32} {LG : Nat → Nat → Int32} {x bm : Int32} (hq : sQ q) (hs : ajShp h) (hx : x = 0 ∨ x = 1) (hc : ct < 100000) (cs : CS h q n R) (e10 : ajI h q 10 = nI ct) (e13 : ajI h q 13 = bm) (e14 : ajI h q 14 = x) (rg : ∀ e, e < ct → ct ≤ e + 60 → ajI h (q + 2) (e % 60) = pkL (LG e))
    (H : ∀ h', FR h h' (fun o j => o = q ∧ j = 10 ∨ o = q + 2) → cX h' q n (R, ct + 1, fun e => if e = ct then (fun i => if i = 0 then x else if i = 1 then R 16 else bm) else LG e) → Q none h') : ajEv (d + 1) 80 0 [.ref q] [] h Q := by
  have hlt := Nat.mod_lt ct (show 0 < 60 by omega)
  refine W80_0 hs hq.1 ?_
  rw [e14, e10, e13, cs.1.2.2.1]
  refine S81 hs hx ?_
  intro s1
  refine ⟨_, rfl, ?_⟩
  rw [sl_60, sr_rem (by omega) (by omega) (by omega), sr_in (by omega), sr_N (by omega)]
  refine ⟨hlt, ?_⟩
  rintro _ rfl _ rfl
  generalize hv : ((bm <<< (4 &&& 31)) ||| (R 16 <<< (1 &&& 31))) ||| x = v
  have f1 : FR h (ajSI h (q + 2) (ct % 60) v) (fun o j => o = q ∧ j = 10 ∨ o = q + 2) := FR_SI h (Or.inr rfl)
  have e10' : ajI (ajSI h (q + 2) (ct % 60) v) q 10 = nI ct := by rw [ajI_SI, if_neg (by omega)]; exact e10
  rw [e10', nI_1]
  have f2 : FR h (ajSI (ajSI h (q + 2) (ct % 60) v) q 10 (nI (ct + 1))) (fun o j => o = q ∧ j = 10 ∨ o = q + 2) := FR_trans f1 (FR_SI _ (Or.inl ⟨rfl, rfl⟩))
  refine H _ f2 ⟨CS_FR cs f2 (fun j hj => by omega) (fun j => by omega), by rw [ajI_SI, if_pos ⟨rfl, rfl⟩], fun e h1 h2 => ?_⟩
  dsimp only at h1 h2 ⊢
  rw [ajI_SI, if_neg (by omega), ajI_SI]
  by_cases y : e = ct
  · rw [if_pos ⟨rfl, by rw [y]⟩, if_pos y, ← hv]
    rfl
  · rw [if_neg (by omega), if_neg y]
    exact rg e (by omega) (by omega)
/-- pass and note -/
theorem S65n {E : EV} {d q v v2 m : Nat} {TB : Nat → Nat → Nat} {TL : Nat → Nat} {X : XT} {h : ajH} {Q : Option Value → ajH → Prop} {s : Bool} (hq : sQ q) (hv : wQ v) (xv : XV (eN E) X) (eo : EVok E) (g : EVg E) (hs : ajShp h) (ce : CE h v E) (cl : CLv h v2 m TB TL E) (cx : cX h q (eN E) X)
    (H : ∀ h', FR h h' (fun o j => PCp q o j ∨ o = q ∨ o = q + 2) → cX h' q (eN E) (xTurn E s X) → ajI h' q 14 = xDone E s X → ajI h' q 15 = iChg E (iTurn E s X.1) → Q none h') : ajEv (d + 4) 65 0 [.ref q, .int (flg s), .ref v, .ref v2] [] h (fun r h4 => ajShp h4 → r = none ∧ ajEv (d + 4) 80 0 [.ref q] [] h4 (fun r h6 => ajShp h6 → r = none ∧ Q none h6)) := by
  have hq2 := hq.2
  have ct := xv.2.1
  have t1 := xv.1.2.2.2.1.2
  refine S65 hq hv xv.1 eo g hs ce cl cx.1 ?_
  intro h1 f1 cs1 e13 e14 e15 s1
  refine ⟨rfl, ?_⟩
  refine S80 (d := d + 3) (ct := X.2.1) (LG := X.2.2) hq s1 (iDone_b _ _) (by omega) cs1 ((FR_I f1 (by unfold PCp PLw; omega)).trans cx.2.1) e13 e14 (fun e h1' h2 => (FR_I f1 (by unfold PCp PLw; omega)).trans (cx.2.2 e h1' h2)) ?_
  intro h2 f2 cx2 s2
  refine ⟨rfl, ?_⟩
  refine H h2 (FR_trans (FR_mono f1 (fun o j z => Or.inl z)) (FR_mono f2 (fun o j z => Or.inr (by omega)))) cx2 ((FR_I f2 (by omega)).trans e14) ((FR_I f2 (by omega)).trans e15)
/-! the reference -/
theorem mX0 {h : ajH} {r : Nat} {X : XT} (c : mX h r 0 X) : RW h r X.1 ∧ RLG h r (lgc X) (fun i => X.2.2 (X.2.1 - lgc X + i / 3) (i % 3)) := by
  refine ⟨fun k hk => ?_, ?_, lgc_60 X, fun i hi => ?_⟩
  · have e := c.1 k hk; rw [Nat.zero_add] at e; exact e
  · have e := c.2.1; rw [Nat.zero_add] at e; exact e
  · have e := c.2.2 i hi; rw [Nat.zero_add] at e; exact e
theorem mX_of {h : ajH} {r : Nat} {X : XT} (c : RW h r X.1) (g : RLG h r (lgc X) (fun i => X.2.2 (X.2.1 - lgc X + i / 3) (i % 3))) : mX h r 0 X := by
  refine ⟨fun k hk => ?_, ?_, fun i hi => ?_⟩
  · rw [Nat.zero_add]; exact c k hk
  · rw [Nat.zero_add]; exact g.1
  · rw [Nat.zero_add]; exact g.2.2 i hi
theorem S188n {E : EV} {d r m : Nat} {TB : Nat → Nat → Nat} {TL : Nat → Nat} {X : XT} {h : ajH} {Q : Option Value → ajH → Prop} {s : Bool} (hr : rB r) (hs : ajShp h) (me : ME h E) (eo : EVok E) (mv : MV h m TB TL E) (mx : mX h r 0 X) (xv : XV (eN E) X)
    (H : ∀ h', FR h h' (PG r) → MV h' m TB TL E → mX h' r 0 (xTurn E s X) → ajI h' 320 36 = bmO E (iTurn E s X.1) → ajI h' 320 37 = iChg E (iTurn E s X.1) → Q (some (.int (xDone E s X))) h') : ajEv (d + 38) 188 0 [.ref 320, .ref r, .int (flg s), ajU, ajU] [] h Q := by
  obtain ⟨rw, lg⟩ := mX0 mx
  refine S188 hr hs me eo mv rw xv.1 (by omega) lg ?_
  intro h1 f1 mv1 rw1 e36 e37 lg1
  refine H h1 f1 mv1 (mX_of rw1 ?_) e36 e37
  have ec : lgc (xTurn E s X) = lgC (lgc X) := by
    unfold lgc lgC
    show (if X.2.1 + 1 < 60 then X.2.1 + 1 else 60) = _
    by_cases y : X.2.1 < 60
    · rw [if_pos y]
      by_cases y2 : X.2.1 + 1 < 60
      · rw [if_pos y2, if_neg (by omega)]
      · rw [if_neg y2, if_neg (by omega)]; omega
    · rw [if_neg y, if_pos rfl, if_neg (by omega)]
  rw [ec]
  refine ⟨lg1.1, lg1.2.1, fun i hi => ?_⟩
  rw [lg1.2.2 i hi]
  unfold lgG
  show _ = (if X.2.1 + 1 - lgC (lgc X) + i / 3 = X.2.1 then (fun i => if i = 0 then iDone E (iTurn E s X.1) else if i = 1 then iPl E (iTurn E s X.1) 16 else bmO E (iTurn E s X.1)) else X.2.2 (X.2.1 + 1 - lgC (lgc X) + i / 3)) (i % 3)
  have l60 : lgc X ≤ X.2.1 := by unfold lgc; split <;> omega
  have c60 : lgc X = 60 ∨ lgc X = X.2.1 ∧ X.2.1 < 60 := by unfold lgc; split <;> omega
  unfold lgC at hi ⊢
  by_cases y : lgc X = 60
  · simp only [if_pos y] at hi ⊢
    by_cases y1 : i < 3 * (60 - 1)
    · rw [if_pos y1, if_neg (by omega), y, show (i + 3) % 3 = i % 3 by omega, show X.2.1 - 60 + (i + 3) / 3 = X.2.1 + 1 - 60 + i / 3 by omega]
    · have eR : X.2.1 + 1 - 60 + i / 3 = X.2.1 := by omega
      rw [if_neg y1, eR, if_pos (show X.2.1 = X.2.1 from rfl)]
      by_cases y2 : i = 3 * (60 - 1)
      · rw [if_pos y2, if_pos (show i % 3 = 0 by omega)]
      · by_cases y3 : i = 3 * (60 - 1) + 1
        · rw [if_neg y2, if_pos y3, if_neg (show ¬ i % 3 = 0 by omega), if_pos (show i % 3 = 1 by omega)]
        · rw [if_neg y2, if_neg y3, if_neg (show ¬ i % 3 = 0 by omega), if_neg (show ¬ i % 3 = 1 by omega)]
  · simp only [if_neg y] at hi ⊢
    have c := c60.resolve_left y
    by_cases y1 : i < 3 * (lgc X + 1 - 1)
    · rw [if_pos y1, if_neg (by omega), show X.2.1 - lgc X + i / 3 = X.2.1 + 1 - (lgc X + 1) + i / 3 by omega]
    · have eR : X.2.1 + 1 - (lgc X + 1) + i / 3 = X.2.1 := by omega
      rw [if_neg y1, eR, if_pos (show X.2.1 = X.2.1 from rfl)]
      by_cases y2 : i = 3 * (lgc X + 1 - 1)
      · rw [if_pos y2, if_pos (show i % 3 = 0 by omega)]
      · by_cases y3 : i = 3 * (lgc X + 1 - 1) + 1
        · rw [if_neg y2, if_pos y3, if_neg (show ¬ i % 3 = 0 by omega), if_pos (show i % 3 = 1 by omega)]
        · rw [if_neg y2, if_neg y3, if_neg (show ¬ i % 3 = 0 by omega), if_neg (show ¬ i % 3 = 1 by omega)]
