/-! The class's step. -/
def sQ (q : Nat) : Prop := ajKw q 6 ∧ 54 ≤ q ∧ q + 4 < 320
def wQ (v : Nat) : Prop := ajKw v 2 ∧ v + 5 < 18
/-- a state object of the class holds the row R -/
def CS (h : ajH) (q n : Nat) (R : Nat → Int32) : Prop := (ajI h q 0 = mk (onB R) n ∧ ajI h q 1 = mk (brB R) n ∧ ajI h q 2 = R 16 ∧ ajI h q 3 = R 17 ∧ ajI h q 4 = R 20 ∧ ajI h q 5 = R 21 ∧ ajI h q 6 = R 19 ∧ ajI h q 7 = R 18) ∧ ∀ k, k < n → ajI h (q + 1) k = R (2 * k)
theorem CS_FR {h h' : ajH} {P : Nat → Nat → Prop} {q n : Nat} {R : Nat → Int32} (c : CS h q n R) (f : FR h h' P) (p0 : ∀ j, j < 8 → ¬ P q j) (p : ∀ j, ¬ P (q + 1) j) : CS h' q n R := by
  obtain ⟨⟨c0, c1, c2, c3, c4, c5, c6, c7⟩, c8⟩ := c
  refine ⟨⟨(FR_I f (p0 _ (by omega))).trans c0, (FR_I f (p0 _ (by omega))).trans c1, (FR_I f (p0 _ (by omega))).trans c2, (FR_I f (p0 _ (by omega))).trans c3, (FR_I f (p0 _ (by omega))).trans c4, (FR_I f (p0 _ (by omega))).trans c5, (FR_I f (p0 _ (by omega))).trans c6, (FR_I f (p0 _ (by omega))).trans c7⟩, fun k hk => (FR_I f (p k)).trans (c8 k hk)⟩
def PLw (o : Nat) : Prop := o = 20 ∨ o = 21 ∨ o = 27 ∨ o = 28 ∨ o = 34 ∨ o = 35 ∨ o = 41 ∨ o = 42
/-- the laws of the class, and which one holds -/
def CLv (h : ajH) (v2 m : Nat) (TB : Nat → Nat → Nat) (TL : Nat → Nat) (E : EV) : Prop := LawsC h m TB TL ∧ m ≤ 4 ∧ ((v2 = 0 ∧ ∀ v d o f w t, eV E v d o f w t = dfl v d o) ∨ ∃ i, i < m ∧ v2 = 18 + 7 * i ∧ ∀ v d o f w t, eV E v d o f w t = lw TB TL i v d o f w t)
theorem LawC_FR {B : Nat → Nat} {L q : Nat} {h h' : ajH} {P : Nat → Nat → Prop} (c : LawC B L h q) (f : FR h h' P) (p0 : ¬ P q 3) (p : ∀ j, ¬ P (q + 1) j) : LawC B L h' q := ⟨c.1, (FR_I f p0).trans c.2.1, c.2.2.1, fun i hi => (FR_I f (p i)).trans (c.2.2.2 i hi)⟩
theorem CLv_FR {h h' : ajH} {P : Nat → Nat → Prop} {v2 m : Nat} {TB : Nat → Nat → Nat} {TL : Nat → Nat} {E : EV} (c : CLv h v2 m TB TL E) (f : FR h h' P) (p : ∀ o j, P o j → PLw o ∨ 46 ≤ o) : CLv h' v2 m TB TL E :=
  ⟨fun i hi => LawC_FR (c.1 i hi) f (fun z => by have y := p _ _ z; have x := c.2.1; unfold PLw at y; omega) (fun j z => by have y := p _ _ z; have x := c.2.1; unfold PLw at y; omega), c.2.1, c.2.2⟩
theorem S72 {d q k : Nat} {h : ajH} {Q : Option Value → ajH → Prop} (hq : ajKw q 6) (hs : ajShp h) (hk : k < 8) (H : Q (some (.int (flg (hb (ajI h q 0) k)))) h) : ajEv d 72 0 [.ref q, .int (nI k)] [] h Q := by
  refine W72_0 hs hq ?_
  rw [if_neg (by rw [sr_lt0 (by omega)]; exact fun z => z), if_neg (by rw [sl_8, sr_le (by omega) (by omega)]; omega)]
  cases e : hb (ajI h q 0) k with
  | false => rw [if_pos (by rw [hb_sh0 _ (by omega)]; exact e)]; rw [e] at H; exact H
  | true => rw [if_neg (by rw [hb_sh0 _ (by omega), e]; exact fun z => by cases z)]; rw [e] at H; exact H
theorem on_k {R : Nat → Int32} {n k : Nat} (n8 : n ≤ 8) (hk : k < n) : hb (mk (onB R) n) k = onB R k := by
  rw [hb_mk _ _ (by omega) k (by omega), decide_eq_true hk]; rfl
theorem S72c {d q n k : Nat} {h : ajH} {Q : Option Value → ajH → Prop} {R : Nat → Int32} (hq : ajKw q 6) (hs : ajShp h) (c : CS h q n R) (n8 : n ≤ 8) (hk : k < n) (H : Q (some (.int (flg (onB R k)))) h) : ajEv d 72 0 [.ref q, .int (nI k)] [] h Q := by
  refine S72 hq hs (by omega) ?_
  rw [c.1.1, on_k n8 hk]; exact H
theorem m1_eq (x : Int32) : x - 1 = x + -1 := by rw [Int32.sub_eq_add_neg]
theorem lw_cl (TB : Nat → Nat → Nat) (TL : Nat → Nat) (i : Nat) (v d o f w t : Int32) : (if 0 < (if pVa (pLaw (TB i) (TL i) 240 0 0) (vx6 v d o f w t) < 9 then pVa (pLaw (TB i) (TL i) 240 0 0) (vx6 v d o f w t) else 9) then (if pVa (pLaw (TB i) (TL i) 240 0 0) (vx6 v d o f w t) < 9 then pVa (pLaw (TB i) (TL i) 240 0 0) (vx6 v d o f w t) else 9) else 0) = lw TB TL i v d o f w t := rfl
theorem S73_13 {E : EV} {d q v v2 m T : Nat} {TB : Nat → Nat → Nat} {TL : Nat → Nat} {R : Nat → Int32} (hq : sQ q) (hv : wQ v) (rv : RV (eN E) T R) : ∀ (f j : Nat) (h : ajH) (Q : Option Value → ajH → Prop) (u5 u6 u7 : Value), j + f = eN E → ajShp h → CE h v E → CLv h v2 m TB TL E → CS h q (eN E) R → (∀ i, i < j → ajI h (q + 4) i = iNv E R i) →
    (∀ (h' : ajH) (u3 u5 u6 u7 : Value), ajShp h' → FR h h' (fun o _ => o = q + 4 ∨ PLw o) → (∀ i, i < eN E → ajI h' (q + 4) i = iNv E R i) → ajEv (d + 3) 73 179 [.ref q, .ref v, .ref v2, u3, .int 0, u5, u6, u7] [] h' Q) → ajEv (d + 3) 73 13 [.ref q, .ref v, .ref v2, .int (R (2 * bN R)), .int (nI j), u5, u6, u7] [] h Q := by
  intro f
  induction f with
  | zero =>
    intro j h Q u5 u6 u7 hj hs ce cl cs fr H
    have n8 := ce.2.2.1
    refine W73_13 hs hq.1 hv.1 ?_
    rw [ce.1, if_pos (by rw [sr_le (by omega) (by omega)]; omega)]
    exact H h _ _ _ _ hs (FR_refl _ _) (fun i hi => fr i (by omega))
  | succ f ih =>
    intro j h Q u5 u6 u7 hj hs ce cl cs fr H
    have n8 := ce.2.2.1
    have hq2 := hq.2
    have hv2 := hv.2
    have hb2 := rv.1.2
    refine W73_13 hs hq.1 hv.1 ?_
    rw [ce.1, if_neg (by rw [sr_le (by omega) (by omega)]; omega), if_neg (by rw [sl_8, sr_le (by omega) (by omega)]; omega), sr_in (by omega), sr_N (by omega), (ce.2.2.2.2 j (by omega)).2, cs.2 j (by omega), nI_1]
    refine ⟨by omega, by omega, by omega, ?_⟩
    rintro _ rfl
    have f1 : FR h (ajSI h (q + 4) j (R (2 * j))) (fun o _ => o = q + 4 ∨ PLw o) := FR_SI h (Or.inl rfl)
    have e1 : ajI (ajSI h (q + 4) j (R (2 * j))) (q + 4) j = R (2 * j) := by rw [ajI_SI, if_pos ⟨rfl, rfl⟩]
    have o1 : ∀ i, i < j → ajI (ajSI h (q + 4) j (R (2 * j))) (q + 4) i = iNv E R i := fun i hi => by rw [ajI_SI, if_neg (by omega)]; exact fr i hi
    have s1 : ajShp (ajSI h (q + 4) j (R (2 * j))) := hs
    generalize ajSI h (q + 4) j (R (2 * j)) = h1 at f1 e1 o1 s1
    have ce1 := CE_FR ce f1 (by unfold PLw; omega) (fun j => by unfold PLw; omega)
    have cl1 := CLv_FR cl f1 (fun o j z => by rcases z with z | z; exact Or.inr (by omega); exact Or.inl z)
    have cs1 := CS_FR cs f1 (fun j hj => by unfold PLw; omega) (fun j => by unfold PLw; omega)
    have next : ∀ (h2 : ajH) (u5 u6 u7 : Value), ajShp h2 → FR h1 h2 (fun o k => o = q + 4 ∧ k = j ∨ PLw o) → ajI h2 (q + 4) j = iNv E R j → ajEv (d + 3) 73 13 [.ref q, .ref v, .ref v2, .int (R (2 * bN R)), .int (nI (j + 1)), u5, u6, u7] [] h2 Q := by
      intro h2 u5 u6 u7 s2 f2 e2
      have f2' : FR h1 h2 (fun o _ => o = q + 4 ∨ PLw o) := FR_mono f2 (fun o k z => by unfold PLw at *; omega)
      refine ih (j + 1) h2 Q _ _ _ (by omega) s2 (CE_FR ce1 f2' (by unfold PLw; omega) (fun j => by unfold PLw; omega)) (CLv_FR cl1 f2' (fun o j z => by rcases z with z | z; exact Or.inr (by omega); exact Or.inl z)) (CS_FR cs1 f2' (fun j hj => by unfold PLw; omega) (fun j => by unfold PLw; omega)) (fun i hi => ?_) (fun h' u3 u5 u6 u7 sh g fr' => H h' _ _ _ _ sh (FR_trans (FR_trans f1 f2') g) fr')
      by_cases y : i = j
      · rw [y]; exact e2
      · rw [FR_I f2 (by unfold PLw; omega)]; exact o1 i (by omega)
    rw [cs1.1.2.2.1, rv.1.1]
    by_cases eb : j = bN R
    · rw [if_pos (by rw [sr_eq (by omega) (by omega)]; exact eb)]
      refine next h1 _ _ _ s1 (FR_refl _ _) ?_
      rw [e1]; unfold iNv; rw [if_neg (fun z => z.2 eb)]
    · rw [if_neg (by rw [sr_eq (by omega) (by omega)]; exact eb)]
      refine S72c hq.1 s1 cs1 n8 (by omega) ?_
      intro s1
      refine ⟨_, rfl, ?_⟩
      cases eo : onB R j with
      | false =>
        rw [if_neg (show ¬ ¬ flg false = 0 from fun z => z rfl)]
        refine next h1 _ _ _ s1 (FR_refl _ _) ?_
        rw [e1]; unfold iNv; rw [if_neg (fun z => by rw [eo] at z; cases z.1)]
      | true =>
        rw [if_pos (by decide)]
        have ei : iNv E R j = iV E R j := by unfold iNv; rw [if_pos ⟨eo, eb⟩]
        have sd : ∀ x, iV E R j = x → ∀ (u5 u6 u7 : Value), ajEv (d + 3) 73 13 [.ref q, .ref v, .ref v2, .int (R (2 * bN R)), .int (nI (j + 1)), u5, u6, u7] [] (ajSI h1 (q + 4) j x) Q := fun x ex u5 u6 u7 => by
          refine next _ _ _ _ s1 (FR_SI h1 (Or.inl ⟨rfl, rfl⟩)) ?_
          rw [ajI_SI, if_pos ⟨rfl, rfl⟩, ei, ex]
        rcases cl1.2.2 with ⟨rfl, ev⟩ | ⟨i, hi, rfl, ev⟩
        · rw [if_pos rfl]
          have ex : iV E R j = dfl (R (2 * j)) (R (2 * bN R)) (eO E j) := by unfold iV; rw [ev]
          unfold dfl at ex
          by_cases y1 : (if 0 ≤ (R (2 * j) - R (2 * bN R)) then (R (2 * j) - R (2 * bN R)) else 0 - (R (2 * j) - R (2 * bN R))) ≤ eO E j
          · rw [if_pos y1]
            rw [if_pos y1] at ex
            refine next h1 _ _ _ s1 (FR_refl _ _) ?_
            rw [e1, ei, ex]
          · rw [if_neg y1]
            rw [if_neg y1] at ex
            by_cases y2 : R (2 * bN R) ≤ R (2 * j)
            · rw [if_pos y2]
              rw [if_pos y2, ← m1_eq] at ex
              refine ⟨by omega, ?_⟩
              rintro _ rfl
              exact sd _ ex _ _ _
            · rw [if_neg y2]
              rw [if_neg y2] at ex
              refine ⟨by omega, ?_⟩
              rintro _ rfl
              exact sd _ ex _ _ _
        · rw [if_neg (by omega)]
          have m4 := cl1.2.1
          refine ⟨by omega, ?_⟩
          refine W74_0 s1 hv.1 ?_
          intro s2
          refine ⟨_, rfl, ?_⟩
          have hkl : ajKw (18 + 7 * i) 3 := by
            have : i = 0 ∨ i = 1 ∨ i = 2 ∨ i = 3 := by omega
            rcases this with rfl | rfl | rfl | rfl <;> exact ⟨by decide, rfl⟩
          refine ⟨ajOKw s2 (ajKwi hkl), ?_⟩
          refine S75 s2 hkl (cl1.1 i hi) ?_
          intro h2 f2 s2
          refine ⟨_, rfl, ?_⟩
          refine ⟨by omega, ?_⟩
          rintro _ rfl
          have f2' : FR h1 h2 (fun o k => o = q + 4 ∧ k = j ∨ PLw o) := FR_mono f2 (fun o k z => by unfold PLw; omega)
          refine next _ _ _ _ s2 (FR_trans f2' (FR_SI h2 (Or.inl ⟨rfl, rfl⟩))) ?_
          rw [ajI_SI, if_pos ⟨rfl, rfl⟩, ei]
          unfold iV
          rw [ev, ce1.1, cs1.1.2.2.1, cs1.1.2.2.2.1, cs1.1.2.2.2.2.2.1, lw_cl, rv.1.1]
          rfl
