/-! The reference takes a place, passes, goes. -/
def Pst (r : Nat) (o j : Nat) : Prop := PY o j ∨ o = r ∧ j < 22 ∨ o = 333 ∨ o = 336 ∨ o = 320 ∧ (j = 36 ∨ j = 37)
theorem Pst_Y {r : Nat} : ∀ o j, PY o j → Pst r o j := fun o j z => Or.inl z
theorem MV_Y {h h' : ajH} {m : Nat} {TB : Nat → Nat → Nat} {TL : Nat → Nat} {E : EV} {r : Nat} (hr : rB r) (c : MV h m TB TL E) (f : FR h h' (fun o j => o = r ∨ o = 333 ∨ o = 336 ∨ o = 320 ∧ (j = 36 ∨ j = 37))) : MV h' m TB TL E := by
  unfold rB at hr
  exact MV_FR c f (by omega) (fun j => by omega) (fun o j z => by omega)
theorem ME_Y {h h' : ajH} {E : EV} {r : Nat} (hr : rB r) (c : ME h E) (f : FR h h' (Pst r)) : ME h' E := by
  unfold rB at hr
  exact ME_FR c f (by unfold Pst PY; omega) (fun j => by unfold Pst PY; omega)
theorem RW_SI {h : ajH} {r j : Nat} {x : Int32} {R R' : Nat → Int32} (c : RW h r R) (e : ∀ k, k < 22 → R' k = if k = j then x else R k) : RW (ajSI h r j x) r R' := by
  intro k hk
  rw [ajI_SI, e k hk]
  by_cases z : k = j
  · rw [if_pos ⟨rfl, z⟩, if_pos z]
  · rw [if_neg (fun y => z y.2), if_neg z]; exact c k hk
theorem RW_FR {h h' : ajH} {P : Nat → Nat → Prop} {r : Nat} {R : Nat → Int32} (c : RW h r R) (f : FR h h' P) (p : ∀ j, j < 22 → ¬ P r j) : RW h' r R := fun k hk => (FR_I f (p k hk)).trans (c k hk)
theorem ov_lt {E : EV} (n8 : eN E ≤ 8) {m : Int32} {b k : Nat} (hk : k < 32) (e : hb (ov E m b) k = true) : k < eN E := by
  unfold ov at e
  rw [hb_mk _ _ (by omega) k hk] at e
  by_cases z : k < eN E
  · exact z
  · rw [decide_eq_false z] at e; cases e
/-- the falls, down to place j -/
def iFallN (bm : Int32) (j0 : Nat) (R : Nat → Int32) : Nat → Int32 := fun j => if j % 2 = 1 ∧ j / 2 < j0 ∧ hb bm (j / 2) = true then 2 else R j
theorem S190_20 {E : EV} {d r : Nat} {bm : Int32} {R : Nat → Int32} (hr : rB r) : ∀ (f j : Nat) (h : ajH) (Q : Option Value → ajH → Prop) (u3 u4 : Value), j + f = eN E → ajShp h → ME h E → ajI h 320 36 = bm → RW h r (iFallN bm j R) →
    (∀ (h' : ajH) (u3 u4 : Value), ajShp h' → FR h h' (fun o j => o = r ∧ j < 22) → RW h' r (iFallN bm (eN E) R) → ajEv (d + 1) 190 20 [.ref 320, .ref r, .int (nI (eN E)), u3, u4] [] h' Q) → ajEv (d + 1) 190 20 [.ref 320, .ref r, .int (nI j), u3, u4] [] h Q := by
  intro f
  induction f with
  | zero =>
    intro j h Q u3 u4 hj hs me ebm rw H
    have e : j = eN E := by omega
    subst e
    exact H h _ _ hs (FR_refl _ _) rw
  | succ f ih =>
    intro j h Q u3 u4 hj hs me ebm rw H
    have n8 := me.2.2.1
    have hr' := hr
    unfold rB at hr'
    refine W190_20 hs (rB_w hr) ?_
    rw [me.1, if_neg (by rw [sr_le (by omega) (by omega)]; omega), ebm, nI_1]
    refine S154 hs (by omega) ?_
    intro s1
    refine ⟨_, rfl, ?_⟩
    cases e : hb bm j with
    | false =>
      rw [if_pos (show flg false = 0 from rfl)]
      refine ih (j + 1) h Q _ _ (by omega) hs me ebm (fun k hk => ?_) H
      rw [rw k hk]
      unfold iFallN
      by_cases z : k % 2 = 1 ∧ k / 2 < j ∧ hb bm (k / 2) = true
      · rw [if_pos z, if_pos ⟨z.1, by omega, z.2.2⟩]
      · rw [if_neg z, if_neg]
        rintro ⟨z1, z2, z3⟩
        by_cases y : k / 2 = j
        · rw [y, e] at z3; cases z3
        · exact z ⟨z1, by omega, z3⟩
    | true =>
      rw [if_neg (by decide), rB_l hr, sl_2, sr_mul, sl_1, sr_add, sr_in (by omega), sr_N (by omega)]
      refine ⟨by omega, ?_⟩
      rintro _ rfl
      have f1 : FR h (ajSI h r (2 * j + 1) (nI 2)) (fun o j => o = r ∧ j < 22) := FR_SI h ⟨rfl, by omega⟩
      refine ih (j + 1) _ Q _ _ (by omega) s1 (ME_FR me f1 (by omega) (fun j => by omega)) ((FR_I f1 (by omega)).trans ebm) (RW_SI rw (fun k hk => ?_)) (fun h' u3 u4 sh f2 rw2 => H h' _ _ sh (FR_trans f1 f2) rw2)
      unfold iFallN
      by_cases y : k = 2 * j + 1
      · rw [if_pos y, if_pos ⟨by omega, by omega, by rw [show k / 2 = j by omega]; exact e⟩]; rfl
      · rw [if_neg y]
        by_cases z : k % 2 = 1 ∧ k / 2 < j ∧ hb bm (k / 2) = true
        · rw [if_pos z, if_pos ⟨z.1, by omega, z.2.2⟩]
        · rw [if_neg z, if_neg]
          rintro ⟨z1, z2, z3⟩
          exact z ⟨z1, by omega, z3⟩
theorem S190_73 {E : EV} {d r m T : Nat} {v2 : Int32} {TB : Nat → Nat → Nat} {TL : Nat → Nat} {R : Nat → Int32} (hr : rB r) (eo : EVok E) (rv : RV (eN E) T R) (hT : T ≤ 2147483648) : ∀ (f j : Nat) (h : ajH) (Q : Option Value → ajH → Prop) (u4 : Value), j + f = eN E → ajShp h → ME h E → MV h m TB TL E → RW h r R → (∀ i, i < j → ajI h 336 i = iNv E R i) →
    (∀ (h' : ajH) (u4 : Value), ajShp h' → FR h h' (fun o j => PY o j ∨ o = 336) → MV h' m TB TL E → (∀ i, i < eN E → ajI h' 336 i = iNv E R i) → ajEv (d + 36) 190 127 [.ref 320, .ref r, .int v2, .int 0, u4] [] h' Q) → ajEv (d + 36) 190 73 [.ref 320, .ref r, .int v2, .int (nI j), u4] [] h Q := by
  intro f
  induction f with
  | zero =>
    intro j h Q u4 hj hs me mv rw fr H
    have n8 := me.2.2.1
    refine W190_73 hs (rB_i hr) ?_
    rw [me.1, if_pos (by rw [sr_le (by omega) (by omega)]; omega)]
    exact H h _ hs (FR_refl _ _) mv (fun i hi => fr i (by omega))
  | succ f ih =>
    intro j h Q u4 hj hs me mv rw fr H
    have n8 := me.2.2.1
    have hr' := hr
    unfold rB at hr'
    have old : ∀ u4 : Value, iNv E R j = R (2 * j) → ajEv (d + 36) 190 111 [.ref 320, .ref r, .int v2, .int (nI j), u4] [.int (nI j), .ref 336] h Q := by
      intro u4 e
      refine W190_111 hs (rB_i hr) ?_
      rw [rB_l hr, sl_2, sr_mul, Int32.add_zero, sr_in (by omega), sr_in (by omega), sr_N (by omega), sr_N (by omega), rw (2 * j) (by omega), nI_1]
      refine ⟨by omega, by omega, ?_⟩
      rintro _ rfl
      have f1 : FR h (ajSI h 336 j (R (2 * j))) (fun o j => o = r ∧ 22 ≤ j ∨ o = 333 ∨ o = 336 ∨ o = 320 ∧ (j = 36 ∨ j = 37)) := FR_SI h (Or.inr (Or.inr (Or.inl rfl)))
      have f2 : FR h (ajSI h 336 j (R (2 * j))) (fun o j => PY o j ∨ o = 336) := FR_SI h (Or.inr rfl)
      refine ih (j + 1) _ Q _ (by omega) hs (ME_FR me f1 (by omega) (fun j => by omega)) (MV_Y hr mv (FR_mono f1 (fun o j z => by omega))) (RW_FR rw f1 (fun k hk => by omega)) (fun i hi => ?_) (fun h' u4 sh g mv' fr' => H h' _ sh (FR_trans f2 g) mv' fr')
      rw [ajI_SI]
      by_cases y : i = j
      · rw [if_pos ⟨rfl, y⟩, y, e]
      · rw [if_neg (by omega)]; exact fr i (by omega)
    refine W190_73 hs (rB_i hr) ?_
    rw [me.1, if_neg (by rw [sr_le (by omega) (by omega)]; omega)]
    refine S193 hr hs rw (by omega) ?_
    intro s1
    refine ⟨_, rfl, ?_⟩
    cases e : onB R j with
    | false =>
      rw [if_pos (show flg false = 0 from rfl)]
      exact old _ (by unfold iNv; rw [if_neg (fun z => by rw [e] at z; cases z.1)])
    | true =>
      rw [if_neg (by decide), rB_l hr, rw 16 (by omega), rv.1.1]
      refine ⟨by decide, ?_⟩
      have hb2 := rv.1.2
      by_cases eb : j = bN R
      · rw [if_pos (by rw [sr_eq (by omega) (by omega)]; exact eb)]
        exact old _ (by unfold iNv; rw [if_neg (fun z => z.2 eb)])
      · rw [if_neg (by rw [sr_eq (by omega) (by omega)]; exact eb)]
        refine S194 hr hs me eo mv rw rv hT (by omega) ?_
        intro h1 f1 mv1 s1
        refine ⟨_, rfl, ?_⟩
        rw [sr_in (by omega), sr_N (by omega), nI_1]
        refine ⟨by omega, ?_⟩
        rintro _ rfl
        have f2 : FR h1 (ajSI h1 336 j (iV E R j)) (fun o j => o = r ∧ 22 ≤ j ∨ o = 333 ∨ o = 336 ∨ o = 320 ∧ (j = 36 ∨ j = 37)) := FR_SI h1 (Or.inr (Or.inr (Or.inl rfl)))
        have f3 : FR h (ajSI h1 336 j (iV E R j)) (fun o j => PY o j ∨ o = 336) := FR_trans (FR_mono f1 (fun o j z => Or.inl z)) (FR_SI h1 (Or.inr rfl))
        refine ih (j + 1) _ Q _ (by omega) s1 (ME_FR me f3 (by unfold PY; omega) (fun j => by unfold PY; omega)) (MV_Y hr mv1 (FR_mono f2 (fun o j z => by omega))) (RW_FR rw f3 (fun k hk => by unfold PY; omega)) (fun i hi => ?_) (fun h' u4 sh g mv' fr' => H h' _ sh (FR_trans f3 g) mv' fr')
        rw [ajI_SI]
        by_cases y : i = j
        · rw [if_pos ⟨rfl, y⟩, y]
          unfold iNv
          rw [if_pos ⟨e, eb⟩]
        · rw [if_neg (by omega), FR_I f1 (by unfold PY; omega)]; exact fr i (by omega)
/-- the talk, down to place j -/
def iTalkN (E : EV) (j0 : Nat) (R : Nat → Int32) : Nat → Int32 := fun j => if j % 2 = 0 ∧ j < 2 * j0 then iNv E R (j / 2) else R j
theorem S190_127 {E : EV} {d r : Nat} {v2 : Int32} {R : Nat → Int32} (hr : rB r) : ∀ (f j : Nat) (h : ajH) (Q : Option Value → ajH → Prop) (u4 : Value), j + f = eN E → ajShp h → ME h E → RW h r (iTalkN E j R) → (∀ i, i < eN E → ajI h 336 i = iNv E R i) → ajI h 320 37 = chF E R j →
    (∀ (h' : ajH) (u3 u4 : Value), ajShp h' → FR h h' (fun o j => o = r ∧ j < 22 ∨ o = 320 ∧ j = 37) → RW h' r (iTalkN E (eN E) R) → ajI h' 320 37 = chF E R (eN E) → ajEv (d + 1) 190 186 [.ref 320, .ref r, .int v2, u3, u4] [] h' Q) → ajEv (d + 1) 190 127 [.ref 320, .ref r, .int v2, .int (nI j), u4] [] h Q := by
  intro f
  induction f with
  | zero =>
    intro j h Q u4 hj hs me rw fr ch H
    have n8 := me.2.2.1
    refine W190_127 hs (rB_i hr) ?_
    rw [me.1, if_pos (by rw [sr_le (by omega) (by omega)]; omega)]
    have e : j = eN E := by omega
    subst e
    exact H h _ _ hs (FR_refl _ _) rw ch
  | succ f ih =>
    intro j h Q u4 hj hs me rw fr ch H
    have n8 := me.2.2.1
    have hr' := hr
    unfold rB at hr'
    have on : ∀ (u4 : Value) (x : Int32), (x = 0 ∨ x = 1) → x = chF E R (j + 1) → ajEv (d + 1) 190 164 [.ref 320, .ref r, .int v2, .int (nI j), u4] [.int x, .ref 320] h Q := by
      intro u4 x hx ex
      refine W190_164 hs (rB_w hr) ?_
      refine ⟨hx, ?_⟩
      rintro _ rfl
      rw [rB_l hr, sl_2, sr_mul, Int32.add_zero, sr_in (by omega), sr_in (by omega), sr_N (by omega), sr_N (by omega), nI_1]
      refine ⟨by omega, by omega, ?_⟩
      rintro _ rfl
      have f1 : FR h (ajSI h 320 37 x) (fun o j => o = r ∧ j < 22 ∨ o = 320 ∧ j = 37) := FR_SI h (Or.inr ⟨rfl, rfl⟩)
      have f2 : FR h (ajSI (ajSI h 320 37 x) r (2 * j) (ajI (ajSI h 320 37 x) 336 j)) (fun o j => o = r ∧ j < 22 ∨ o = 320 ∧ j = 37) := FR_trans f1 (FR_SI _ (Or.inl ⟨rfl, by omega⟩))
      have e36 : ajI (ajSI h 320 37 x) 336 j = iNv E R j := (FR_I f1 (by omega)).trans (fr j (by omega))
      refine ih (j + 1) _ Q _ (by omega) hs (ME_FR me f2 (by omega) (fun j => by omega)) (RW_SI (RW_FR rw (FR_SI (P := fun o j => o = 320) h rfl) (fun k hk => by omega)) (fun k hk => ?_)) (fun i hi => (FR_I f2 (by omega)).trans (fr i hi)) ?_ (fun h' u3 u4 sh g rw' ch' => H h' _ _ sh (FR_trans f2 g) rw' ch')
      · rw [e36]
        unfold iTalkN
        by_cases y : k = 2 * j
        · rw [if_pos y, if_pos (by omega), show k / 2 = j by omega]
        · rw [if_neg y]
          by_cases z : k % 2 = 0 ∧ k < 2 * j
          · rw [if_pos z, if_pos (by omega)]
          · rw [if_neg z, if_neg (by omega)]
      · rw [ajI_SI, if_neg (by omega), ajI_SI, if_pos ⟨rfl, rfl⟩]; exact ex
    refine W190_127 hs (rB_i hr) ?_
    have es : chF E R (j + 1) = if ¬ chF E R j = 0 then 1 else if iNv E R j = R (2 * j) then 0 else 1 := rfl
    rw [me.1, if_neg (by rw [sr_le (by omega) (by omega)]; omega), ch]
    by_cases e : chF E R j = 0
    · rw [if_neg (fun z => z e), rB_l hr, sl_2, sr_mul, Int32.add_zero, sr_in (by omega), sr_in (by omega), sr_N (by omega), sr_N (by omega), fr j (by omega), rw (2 * j) (by omega)]
      refine ⟨by omega, by omega, ?_⟩
      rw [if_neg (fun z => z e)] at es
      have er : iTalkN E j R (2 * j) = R (2 * j) := by
        unfold iTalkN
        rw [if_neg (by omega)]
      rw [er]
      by_cases y : iNv E R j = R (2 * j)
      · rw [if_pos y] at es
        rw [if_pos y]
        exact on _ 0 (Or.inl rfl) es.symm
      · rw [if_neg y] at es
        rw [if_neg y]
        exact on _ 1 (Or.inr rfl) es.symm
    · rw [if_pos e]
      rw [if_pos e] at es
      exact on _ 1 (Or.inr rfl) es.symm
theorem S190_277 {d r : Nat} {h : ajH} {Q : Option Value → ajH → Prop} {R : Nat → Int32} {x : Int32} {u0 u2 u3 : Value} (hr : rB r) (hx : x = 0 ∨ x = 1) (hs : ajShp h) (rw : RW h r R)
    (H : ∀ h', FR h h' (fun o j => o = r ∧ j < 22) → RW h' r (upR R 21 (R 21 + 1)) → Q (some (.int x)) h') : ajEv (d + 1) 190 277 [u0, .ref r, u2, u3, .int x] [] h Q := by
  refine W190_277 hs (rB_w hr) ?_
  rw [rB_l hr]
  refine ⟨by decide, by decide, ?_⟩
  rintro _ rfl
  have H2 := H _ (FR_SI h (v := ajI h r 21 + 1) (k := 21) ⟨rfl, by omega⟩) (RW_SI rw (fun k hk => by rw [rw 21 (by omega)]; rfl))
  rcases hx with rfl | rfl
  · rw [if_pos rfl]; exact H2
  · rw [if_neg (by decide)]; exact H2
theorem S190_246 {d r : Nat} {h : ajH} {Q : Option Value → ajH → Prop} {R : Nat → Int32} {x : Int32} {u0 u2 u3 u4 : Value} (hr : rB r) (hx : x = 0 ∨ x = 1) (hs : ajShp h) (rw : RW h r R)
    (H : ∀ h', FR h h' (fun o j => o = r ∧ j < 22) → RW h' r (iEnd x R) → Q (some (.int x)) h') : ajEv (d + 1) 190 246 [u0, .ref r, u2, u3, u4] [.int x] h Q := by
  refine W190_246 hs (rB_w hr) ?_
  by_cases e : x = 0
  · rw [if_pos e]
    refine S190_277 hr hx hs rw (fun h' f rw' => H h' f ?_)
    unfold iEnd; rw [if_pos e]; exact rw'
  · rw [if_neg e, rB_l hr]
    refine ⟨by decide, by decide, ?_⟩
    rintro _ rfl
    have f1 : FR h (ajSI h r 19 (ajI h r 19 + 1)) (fun o j => o = r ∧ j < 22) := FR_SI h ⟨rfl, by omega⟩
    have rw1 : RW (ajSI h r 19 (ajI h r 19 + 1)) r (upR R 19 (R 19 + 1)) := RW_SI rw (fun k hk => by rw [rw 19 (by omega)]; rfl)
    rw [rB_l hr]
    refine ⟨by decide, by decide, ?_⟩
    rintro _ rfl
    refine S190_277 (R := upR (upR R 19 (R 19 + 1)) 20 (if (R 20 + 1) < 999 then (R 20 + 1) else 999)) hr hx hs (RW_SI rw1 (fun k hk => by rw [rw1 20 (by omega)]; rfl)) (fun h' f rw' => H h' (FR_trans (FR_trans f1 (FR_SI _ ⟨rfl, by omega⟩)) f) ?_)
    unfold iEnd; rw [if_neg e]; exact rw'
theorem thM_0 (n : Nat) (R : Nat → Int32) : thM n R 0 = onM n R := rfl
theorem S190_186 {E : EV} {d r T : Nat} {h : ajH} {Q : Option Value → ajH → Prop} {R : Nat → Int32} {u3 u4 : Value} (hr : rB r) (hs : ajShp h) (me : ME h E) (rw : RW h r R) (rv : RV (eN E) T R)
    (H : ∀ h', FR h h' (fun o j => o = r ∧ j < 22) → RW h' r (iEnd (dnF (eN E) R) R) → Q (some (.int (dnF (eN E) R))) h') : ajEv (d + 2) 190 186 [.ref 320, .ref r, .int (flg (onB R (bN R))), u3, u4] [] h Q := by
  have n8 := me.2.2.1
  have hb2 := rv.1.2
  refine W190_186 hs (rB_i hr) ?_
  refine S181 hr hs me rw ?_
  intro s1
  refine ⟨_, rfl, ?_⟩
  rw [thM_0]
  refine S258 s1 ?_
  intro s2
  refine ⟨_, rfl, ?_⟩
  rw [rB_l hr, rw 18 (by omega), rw 16 (by omega), rv.1.1]
  refine ⟨by decide, ?_⟩
  unfold dnF at H
  by_cases e : R 18 = 1
  · rw [if_neg (fun z => z e)]
    simp only [if_pos e] at H
    refine S196 hr s2 me rw ?_
    intro s3
    refine ⟨_, rfl, ?_⟩
    by_cases y : (2 : Int32) * fI R (eN E) ≤ bcF (onM (eN E) R)
    · simp only [if_pos y] at H
      rw [if_pos y]
      exact S190_246 hr (Or.inl rfl) s3 rw H
    · simp only [if_neg y] at H
      rw [if_neg y]
      exact S190_246 hr (Or.inr rfl) s3 rw H
  · rw [if_pos e]
    simp only [if_neg e] at H
    cases eo : onB R (bN R) with
    | false =>
      simp only [eo] at H
      rw [if_pos (show flg false = 0 from rfl)]
      exact S190_246 hr (Or.inl rfl) s2 rw H
    | true =>
      simp only [eo, if_true] at H
      rw [if_neg (by decide), sl_2, sr_mul, Int32.add_zero, sr_in (by omega), sr_N (by omega), rw (2 * bN R) (by omega)]
      refine ⟨by decide, by omega, ?_⟩
      by_cases y : R (2 * bN R) < 5
      · simp only [if_pos y] at H
        rw [if_pos y]
        exact S190_246 hr (Or.inl rfl) s2 rw H
      · simp only [if_neg y] at H
        rw [if_neg y]
        exact S190_246 hr (Or.inr rfl) s2 rw H
theorem S190 {E : EV} {d r m T : Nat} {TB : Nat → Nat → Nat} {TL : Nat → Nat} {R : Nat → Int32} {h : ajH} {Q : Option Value → ajH → Prop} (hr : rB r) (hs : ajShp h) (me : ME h E) (eo : EVok E) (mv : MV h m TB TL E) (rw : RW h r R) (rv : RV (eN E) T R) (hT : T ≤ 2147483648)
    (H : ∀ h', FR h h' (Pst r) → MV h' m TB TL E → RW h' r (iPl E R) → ajI h' 320 36 = bmO E R → ajI h' 320 37 = iChg E R → Q (some (.int (iDone E R))) h') : ajEv (d + 36) 190 0 [.ref 320, .ref r, ajU, ajU, ajU] [] h Q := by
  have n8 := me.2.2.1
  have hb2 := rv.1.2
  have hr' := hr
  unfold rB at hr'
  refine W190_0 hs (rB_i hr) ?_
  refine S181 hr hs me rw ?_
  intro s1
  refine ⟨_, rfl, ?_⟩
  rw [thM_0, rB_l hr, rw 16 (by omega), rv.1.1]
  refine ⟨by decide, ?_⟩
  refine S191 s1 me hb2 ?_
  intro h1 f1 _ s1
  refine ⟨_, rfl, ?_⟩
  rintro _ rfl
  generalize hbm : ov E (onM (eN E) R) (bN R) = bm
  have ebm : bmO E R = bm := hbm
  generalize eh2 : ajSI h1 320 36 bm = h2
  have f2 : FR h h2 (Pst r) := by
    subst eh2
    exact FR_trans (FR_mono f1 (fun o j z => by unfold Pst; omega)) (FR_SI h1 (by unfold Pst; omega))
  have f2' : FR h h2 (fun o j => o = r ∧ 22 ≤ j ∨ o = 333 ∨ o = 336 ∨ o = 320 ∧ (j = 36 ∨ j = 37)) := by
    subst eh2
    exact FR_trans (FR_mono f1 (fun o j z => by omega)) (FR_SI h1 (by omega))
  have mv2 := MV_Y hr mv (FR_mono f2' (fun o j z => by omega))
  have me2 := ME_Y hr me f2
  have rw2 := RW_FR rw f2' (fun j hj => by omega)
  have e36 : ajI h2 320 36 = bm := by subst eh2; rw [ajI_SI, if_pos ⟨rfl, rfl⟩]
  have s2 : ajShp h2 := by subst eh2; exact s1
  clear eh2
  have rw20 : RW h2 r (iFallN bm 0 R) := fun k hk => by
    rw [rw2 k hk]; unfold iFallN; rw [if_neg (by omega)]
  refine S190_20 hr (eN E) 0 h2 Q _ _ (by omega) s2 me2 e36 rw20 ?_
  intro h3 u3 u4 s3 f3 rw3
  have me3 := ME_Y hr me2 (FR_mono f3 (fun o j z => by unfold Pst; omega))
  have mv3 := MV_Y hr mv2 (FR_mono f3 (fun o j z => by omega))
  have rwF : RW h3 r (iFall bm R) := fun k hk => by
    rw [rw3 k hk]
    unfold iFallN iFall
    by_cases z : k % 2 = 1 ∧ k / 2 < eN E ∧ hb bm (k / 2) = true
    · rw [if_pos z, if_pos ⟨z.1, by omega, z.2.2⟩]
    · rw [if_neg z, if_neg]
      rintro ⟨z1, z2, z3⟩
      exact z ⟨z1, by rw [← hbm] at z3; exact ov_lt n8 (by omega) z3, z3⟩
  have rvF := RV_fall bm rv n8
  have ebF : bN (iFall bm R) = bN R := iFall_b bm R
  generalize eF : iFall bm R = RF at rwF rvF ebF
  refine W190_20 s3 (rB_w hr) ?_
  rw [me3.1, if_pos (by rw [sr_le (by omega) (by omega)]; omega)]
  rintro _ rfl
  have f4 : FR h3 (ajSI h3 320 37 0) (fun o j => o = 320 ∧ j = 37) := FR_SI h3 ⟨rfl, rfl⟩
  have e37 : ajI (ajSI h3 320 37 0) 320 37 = 0 := by rw [ajI_SI, if_pos ⟨rfl, rfl⟩]
  have s4 : ajShp (ajSI h3 320 37 0) := s3
  generalize ajSI h3 320 37 0 = h4 at f4 e37 s4
  have me4 := ME_FR me3 f4 (by omega) (fun j => by omega)
  have mv4 := MV_Y hr mv3 (FR_mono f4 (fun o j z => by omega))
  have rw4 := RW_FR rwF f4 (fun j hj => by omega)
  have f04 : FR h h4 (Pst r) := FR_trans (FR_trans f2 (FR_mono f3 (fun o j z => by unfold Pst; omega))) (FR_mono f4 (fun o j z => by unfold Pst; omega))
  have e364 : ajI h4 320 36 = bm := (FR_I f4 (by omega)).trans ((FR_I f3 (by omega)).trans e36)
  have eM : iMid E R = iTalk E RF := by unfold iMid; rw [ebm, eF]
  have eD : iDone E R = dnF (eN E) (iTalk E RF) := by unfold iDone; rw [eM]
  have eP : iPl E R = iEnd (dnF (eN E) (iTalk E RF)) (iTalk E RF) := by unfold iPl; rw [eD, eM]
  have eC : iChg E R = chg E RF := by unfold iChg; rw [ebm, eF]
  rw [rB_l hr, rw4 16 (by omega), rvF.1.1]
  refine ⟨by decide, ?_⟩
  refine S193 hr s4 rw4 (by omega) ?_
  intro s4
  refine ⟨_, rfl, ?_⟩
  have eT : bN (iTalk E RF) = bN RF := iTalk_b E RF n8
  have oT : onB (iTalk E RF) (bN (iTalk E RF)) = onB RF (bN RF) := by
    rw [eT]; unfold onB; rw [iTalk_e _ _ (by omega)]
  cases eo1 : onB RF (bN RF) with
  | false =>
    rw [if_pos (show flg false = 0 from rfl)]
    have eTT : iTalk E RF = RF := by unfold iTalk; rw [eo1]; rfl
    have h5 := S190_186 (d := d + 34) (Q := Q) (u3 := ajU) (u4 := ajU) hr s4 me4 rw4 rvF (fun h' f rw' => by
      have e2 := H h' (FR_trans f04 (FR_mono f (fun o j z => by unfold Pst; omega))) (MV_Y hr mv4 (FR_mono f (fun o j z => by omega))) (by rw [eP, eTT]; exact rw') (by rw [ebm]; exact (FR_I f (by omega)).trans e364) (by
        rw [eC]; unfold chg; rw [eo1]; exact (FR_I f (by omega)).trans e37)
      rw [eD, eTT] at e2
      exact e2)
    rw [eo1] at h5
    exact h5
  | true =>
    rw [if_neg (by decide)]
    have rwT : RW h4 r (iTalkN E 0 RF) := fun k hk => by
      rw [rw4 k hk]; unfold iTalkN; rw [if_neg (by omega)]
    refine S190_73 hr eo rvF hT (eN E) 0 h4 Q _ (by omega) s4 me4 mv4 rw4 (fun i hi => absurd hi (by omega)) ?_
    intro h5 u4 s5 f5 mv5 fr5
    have f5' : FR h4 h5 (Pst r) := FR_mono f5 (fun o j z => by unfold PY at z; unfold Pst PY; omega)
    refine S190_127 (d := d + 35) hr (eN E) 0 h5 Q _ (by omega) s5 (ME_Y hr me4 f5') (RW_FR rwT f5 (fun j hj => by unfold PY; omega)) fr5 ((FR_I f5 (by unfold PY; omega)).trans e37) ?_
    intro h6 u3 u4 s6 f6 rw6 ch6
    have f6' : FR h5 h6 (Pst r) := FR_mono f6 (fun o j z => by unfold Pst; omega)
    have me6 := ME_Y hr (ME_Y hr me4 f5') f6'
    have mv6 := MV_Y hr mv5 (FR_mono f6 (fun o j z => by omega))
    have eTT : iTalkN E (eN E) RF = iTalk E RF := by unfold iTalk; rw [eo1]; rfl
    rw [eTT] at rw6
    have rvT := RV_talk (MV_g mv) eo rvF n8
    have h7 := S190_186 (d := d + 34) (Q := Q) (u3 := u3) (u4 := u4) hr s6 me6 rw6 rvT (fun h' f rw' => by
      have e2 := H h' (FR_trans (FR_trans (FR_trans f04 f5') f6') (FR_mono f (fun o j z => by unfold Pst; omega))) (MV_Y hr mv6 (FR_mono f (fun o j z => by omega))) (by rw [eP]; exact rw') (by rw [ebm]; exact (FR_I f (by omega)).trans ((FR_I f6 (by omega)).trans ((FR_I f5 (by unfold PY; omega)).trans e364))) (by
        rw [eC]; unfold chg; rw [eo1]; exact (FR_I f (by omega)).trans ch6)
      rw [eD] at e2
      exact e2)
    rw [oT, eo1] at h7
    exact h7
