/-! The reference's worth of a law, with what it remembers. -/
noncomputable def lw (TB : Nat → Nat → Nat) (TL : Nat → Nat) (i : Nat) (v d o f w t : Int32) : Int32 := (if 0 < (if pVa (pLaw (TB i) (TL i) 240 0 0) (vx6 v d o f w t) < 9 then pVa (pLaw (TB i) (TL i) 240 0 0) (vx6 v d o f w t) else 9) then (if pVa (pLaw (TB i) (TL i) 240 0 0) (vx6 v d o f w t) < 9 then pVa (pLaw (TB i) (TL i) 240 0 0) (vx6 v d o f w t) else 9) else 0)
/-- the laws' texts in the reference -/
def LawsM (h : ajH) (m : Nat) (TB : Nat → Nat → Nat) (TL : Nat → Nat) : Prop := m ≤ 4 ∧ ∀ i, i < m → ajI h 323 i = nI (TL i) ∧ TL i ≤ 240 ∧ (∀ k, TB i k < 256) ∧ (∀ k, k < TL i → ajI h 322 (240 * i + k) = (nI (TB i k)).toInt8.toInt32) ∧ pOk (pLaw (TB i) (TL i) 240 0 0) = true
/-- the laws' orders in the class -/
def LawsC (h : ajH) (m : Nat) (TB : Nat → Nat → Nat) (TL : Nat → Nat) : Prop := ∀ i, i < m → LawC (TB i) (TL i) h (18 + 7 * i)
def kyN (i v d o f w t : Nat) : Nat := 100 * (10 * (5 * (10 * (10 * (10 * (1 + i) + v) + d) + o) + f) + w) + t
def bd6 (v d o f w t : Nat) : Prop := v < 10 ∧ d < 10 ∧ o < 10 ∧ f < 5 ∧ w < 10 ∧ t < 100
def MemoOK (h : ajH) (m : Nat) (TB : Nat → Nat → Nat) (TL : Nat → Nat) : Prop := ∀ s, s < 8191 → ajL h 334 s = 0 ∨ ∃ i v d o f w t, i < m ∧ bd6 v d o f w t ∧ ajL h 334 s = lN (kyN i v d o f w t) ∧ ajI h 335 s = lw TB TL i (nI v) (nI d) (nI o) (nI f) (nI w) (nI t)
theorem kyN_lt {i v d o f w t : Nat} (hi : i < 4) (hb : bd6 v d o f w t) : kyN i v d o f w t < 25000000 ∧ 0 < kyN i v d o f w t := by
  unfold kyN; unfold bd6 at hb; omega
theorem kyN_inj {i v d o f w t i' v' d' o' f' w' t' : Nat} (hb : bd6 v d o f w t) (hb' : bd6 v' d' o' f' w' t') (e : kyN i v d o f w t = kyN i' v' d' o' f' w' t') : i = i' ∧ v = v' ∧ d = d' ∧ o = o' ∧ f = f' ∧ w = w' ∧ t = t' := by
  unfold kyN at e; unfold bd6 at hb hb'; omega
def PY (o j : Nat) : Prop := o = 324 ∨ o = 334 ∨ o = 335 ∨ o = 320 ∧ (j = 5 ∨ j = 8 ∨ j = 9 ∨ j = 10 ∨ j = 11 ∨ j = 12 ∨ j = 13 ∨ j = 14 ∨ j = 17)
theorem Pg_Y : ∀ o j, Pg o j → PY o j := by unfold Pg PY; omega
theorem LawsM_FR {h h' : ajH} {P : Nat → Nat → Prop} {m : Nat} {TB : Nat → Nat → Nat} {TL : Nat → Nat} (c : LawsM h m TB TL) (f : FR h h' P) (p : ∀ j, ¬ P 322 j ∧ ¬ P 323 j) : LawsM h' m TB TL :=
  ⟨c.1, fun i hi => ⟨(FR_I f (p i).2).trans (c.2 i hi).1, (c.2 i hi).2.1, (c.2 i hi).2.2.1, fun k hk => (FR_I f (p _).1).trans ((c.2 i hi).2.2.2.1 k hk), (c.2 i hi).2.2.2.2⟩⟩
theorem MemoOK_FR {h h' : ajH} {P : Nat → Nat → Prop} {m : Nat} {TB : Nat → Nat → Nat} {TL : Nat → Nat} (c : MemoOK h m TB TL) (f : FR h h' P) (p : ∀ j, ¬ P 334 j ∧ ¬ P 335 j) : MemoOK h' m TB TL := by
  intro s hs
  rw [FR_L f (p s).1, FR_I f (p s).2]
  exact c s hs
theorem S195 {TB : Nat → Nat → Nat} {TL : Nat → Nat} {m i v dd o f w t d : Nat} {h : ajH} {Q : Option Value → ajH → Prop} (hs : ajShp h) (sc : SC h) (lm : LawsM h m TB TL) (mm : MemoOK h m TB TL) (hi : i < m) (hlaw : ajI h 320 30 = nI i) (hb : bd6 v dd o f w t)
    (H : ∀ h', FR h h' PY → MemoOK h' m TB TL → Q (some (.int (lw TB TL i (nI v) (nI dd) (nI o) (nI f) (nI w) (nI t)))) h') : ajEv (d + 34) 195 0 [.ref 320, .int (nI v), .int (nI dd), .int (nI o), .int (nI f), .int (nI w), .int (nI t), ajU, ajU, ajU] [] h Q := by
  have m4 := lm.1
  have hk := kyN_lt (show i < 4 by omega) hb
  have hb' := hb
  unfold bd6 at hb'
  have ek : ((100 : Int64) * (((10 : Int64) * (((5 : Int64) * (((10 : Int64) * (((10 : Int64) * (((10 : Int64) * ((1 : Int64) + (ajI h 320 30).toInt64)) + (nI v).toInt64)) + (nI dd).toInt64)) + (nI o).toInt64)) + (nI f).toInt64)) + (nI w).toInt64)) + (nI t).toInt64 = lN (kyN i v dd o f w t) := by
    rw [hlaw, nI_l (by omega), nI_l (by omega), nI_l (by omega), nI_l (by omega), nI_l (by omega), nI_l (by omega), nI_l (by omega)]
    rw [show (1 : Int64) = lN 1 from rfl, show (10 : Int64) = lN 10 from rfl, show (5 : Int64) = lN 5 from rfl, show (100 : Int64) = lN 100 from rfl]
    simp only [lN_add, lN_mul]
    rfl
  refine W195_0 hs ?_
  simp only [ek]
  have er : (lN (kyN i v dd o f w t) - lN (kyN i v dd o f w t) / (8191 : Int64) * (8191 : Int64)).toInt32 = nI (kyN i v dd o f w t % 8191) := by
    rw [show (8191 : Int64) = lN 8191 from rfl, pk_lRem (by omega) (by omega) (by omega), lN_i]
  have hlt := Nat.mod_lt (kyN i v dd o f w t) (show 0 < 8191 by omega)
  simp only [er]
  generalize hsp : kyN i v dd o f w t % 8191 = s at *
  rw [sr_in (by omega), sr_N (by omega)]
  refine ⟨hlt, ?_⟩
  by_cases hhit : ajL h 334 s = lN (kyN i v dd o f w t)
  · rw [if_neg (fun z => z ((lg_cmp_eq _ _).mpr hhit))]
    refine ⟨hlt, ?_⟩
    have e : ajI h 335 s = lw TB TL i (nI v) (nI dd) (nI o) (nI f) (nI w) (nI t) := by
      rcases mm s hlt with z | ⟨i', v', d', o', f', w', t', hi', hb2, z1, z2⟩
      · rw [hhit] at z
        have z2 := (pk_lEQ (b := 0) (show kyN i v dd o f w t < 2 ^ 63 by omega) (by omega)).mp z
        omega
      · rw [hhit] at z1
        have hk' := kyN_lt (show i' < 4 by omega) hb2
        have z3 := (pk_lEQ (show kyN i v dd o f w t < 2 ^ 63 by omega) (by omega)).mp z1
        obtain ⟨rfl, rfl, rfl, rfl, rfl, rfl, rfl⟩ := kyN_inj hb hb2 z3
        exact z2
    rw [e]
    exact H h (FR_refl _ _) mm
  · rw [if_pos (fun z => hhit ((lg_cmp_eq _ _).mp z))]
    rintro _ rfl _ rfl _ rfl _ rfl _ rfl _ rfl
    generalize hh : ajSI (ajSI (ajSI (ajSI (ajSI (ajSI h 324 118 (nI v)) 324 100 (nI dd)) 324 111 (nI o)) 324 104 (nI f)) 324 119 (nI w)) 324 116 (nI t) = h6
    have f6 : FR h h6 (fun o _ => o = 324) := by
      subst hh
      exact FR_trans (FR_trans (FR_trans (FR_trans (FR_trans (FR_SI h rfl) (FR_SI _ rfl)) (FR_SI _ rfl)) (FR_SI _ rfl)) (FR_SI _ rfl)) (FR_SI _ rfl)
    have s6 : ajShp h6 := by subst hh; exact hs
    have lt6 : LT (vx6 (nI v) (nI dd) (nI o) (nI f) (nI w) (nI t)) h6 := by
      subst hh
      refine ⟨?_, ?_, ?_, ?_, ?_, ?_⟩ <;> rfl
    clear hh
    have lm6 := LawsM_FR lm f6 (fun j => by omega)
    have hl6 := lm6.2 i hi
    rw [FR_I f6 (show ¬ 320 = 324 by omega), hlaw, sr_in (by omega), sr_N (by omega), hl6.1, show (240 : Int32) * nI i = nI (240 * i) by rw [sl_240, sr_mul]]
    refine ⟨by omega, ?_⟩
    refine S160 (B := TB i) (L := TL i) (t := 322) (b := 240 * i) (by omega) s6 hl6.2.1 (Or.inr ⟨rfl, by omega⟩) hl6.2.2.1 hl6.2.2.2.1 (SC_FR sc f6 (fun o j ho => by omega)) lt6 ?_
    intro h7 f7 hok _ s7
    refine ⟨rfl, ?_⟩
    have e14 := (hok hl6.2.2.2.2).2
    refine ⟨hlt, ?_⟩
    rintro _ rfl
    refine ⟨hlt, ?_⟩
    rintro _ rfl
    refine ⟨hlt, ?_⟩
    rw [ajI_SI, if_pos ⟨rfl, rfl⟩, show ajI (ajSL h7 334 s (lN (kyN i v dd o f w t))) 320 14 = ajI h7 320 14 from rfl, e14]
    have f8 : FR h h7 PY := FR_trans (FR_mono f6 (fun o j z => Or.inl z)) (FR_mono f7 Pg_Y)
    have mm7 : MemoOK h7 m TB TL := MemoOK_FR (MemoOK_FR mm f6 (fun j => by omega)) f7 (fun j => by unfold Pg; omega)
    refine H _ (FR_trans (FR_trans f8 (FR_SL _ (Or.inr (Or.inl rfl)))) (FR_SI _ (Or.inr (Or.inr (Or.inl rfl))))) ?_
    intro s' hs'
    rw [ajL_SI, ajL_SL, ajI_SI, ajI_SL]
    by_cases e : s' = s
    · rw [if_pos ⟨rfl, e⟩, if_pos ⟨rfl, e⟩]
      exact Or.inr ⟨i, v, dd, o, f, w, t, hi, hb, rfl, rfl⟩
    · rw [if_neg (by omega), if_neg (by omega)]
      exact mm7 s' hs'
