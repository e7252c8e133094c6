/-! The reference's side of the same. -/
def d1 (o j : Nat) : Prop := o = 320 ∧ j = 6 ∨ o = 321 ∨ 1000 ≤ o
def d2 (o j : Nat) : Prop := o = 320 ∧ j = 24 ∨ o = 325 ∨ o = 327
def d3 (o j : Nat) : Prop := o = 320 ∧ (j = 7 ∨ j = 26 ∨ j = 30 ∨ j = 31 ∨ j = 48) ∨ o = 322 ∨ o = 323 ∨ o = 329 ∧ j < 128 ∨ o = 330 ∧ j < 4
def d4 (o _j : Nat) : Prop := o = 331
def d5 (o j : Nat) : Prop := o = 320 ∧ j = 39 ∨ o = 337
def d6 (o _j : Nat) : Prop := o = 341
def d7 (o j : Nat) : Prop := o = 320 ∧ j = 45 ∨ o = 339
def r1 (S : GS) (h : ajH) : Prop := TM (gT S) h ∧ SC h
def r2 (S : GS) (h : ajH) : Prop := ajI h 320 24 = nI (gz S) ∧ (∀ j, j < 4 → 0 < gz S ∨ j = 0 → ajI h 325 j = nI (gRU S j)) ∧ ∀ k, k < gz S → ∀ j, j < 3 → ajI h 327 (3 * k + j) = nI (gFO S k j)
def r3 (S : GS) (h : ajH) : Prop := (ajI h 320 7 = nI (gm S) ∧ ajI h 320 30 = gh S ∧ ajI h 320 31 = gs S ∧ ajI h 320 26 = nI (gmj S) ∧ ajI h 320 48 = flg (gio S)) ∧ gmj S ≤ 4 ∧ LawsM h (gm S) (gTB S) (gTL S) ∧ ∀ i, i < gmj S → ajI h 330 i = nI (gJn S i) ∧ gJn S i ≤ 16 ∧ ∀ k, k < gJn S i → ajI h 329 (32 * i + 2 * k) = nI (gJK S i k) ∧ ajI h 329 (32 * i + 2 * k + 1) = gJD S i k
def r4 (S : GS) (h : ajH) : Prop := mX h 331 0 (gX S)
def r5 (S : GS) (h : ajH) : Prop := ajI h 320 39 = nI (gna S) ∧ gna S ≤ 40 ∧ ∀ i, i < gna S → mX h 337 (203 * i) (gAX S i)
def r6 (S : GS) (h : ajH) : Prop := gio S = true → mX h 341 0 (gIX S)
def r7 (S : GS) (h : ajH) : Prop := ajI h 320 45 = nI (gns S) ∧ gns S ≤ 10 ∧ ∀ i, i < gns S → ajI h 339 (2 * i) = nI (gst S i) ∧ ajI h 339 (2 * i + 1) = flg (gsb S i)
def r8 (S : GS) (h : ajH) : Prop := MemoOK h (gm S) (gTB S) (gTL S)
def MI (S : GS) (h : ajH) : Prop := r1 S h ∧ r2 S h ∧ r3 S h ∧ r4 S h ∧ r5 S h ∧ r6 S h ∧ r7 S h ∧ r8 S h
theorem mX_FR {h h' : ajH} {P : Nat → Nat → Prop} {r b : Nat} {X : XT} (c : mX h r b X) (f : FR h h' P) (p : ∀ j, ¬ P r j) : mX h' r b X := ⟨fun k hk => (FR_I f (p _)).trans (c.1 k hk), (FR_I f (p _)).trans c.2.1, fun i hi => (FR_I f (p _)).trans (c.2.2 i hi)⟩
/-- a row copied -/
theorem lgc_60 (X : XT) : lgc X ≤ 60 := by unfold lgc; split <;> omega
theorem mX_cp {h h' : ajH} {r b r' b' : Nat} {X : XT} (c : mX h r b X) (e : ∀ k, k < 203 → ajI h' r' (b' + k) = ajI h r (b + k)) : mX h' r' b' X := by
  have l := lgc_60 X
  exact ⟨fun k hk => (e k (by omega)).trans (c.1 k hk), (e 22 (by omega)).trans c.2.1, fun i hi => (e _ (by omega)).trans (c.2.2 i hi)⟩
theorem TM_FR' {h h' : ajH} {P : Nat → Nat → Prop} {T : TP} (c : TM T h) (f : FR h h' P) (p : ¬ P 320 6) (p3 : ∀ j, ¬ P 321 j) : TM T h' := ⟨(FR_I f p).trans c.1, c.2.1, c.2.2.1, fun k hk => (FR_I f (p3 k)).trans (c.2.2.2 k hk)⟩
theorem r1_FR {h h' : ajH} {P : Nat → Nat → Prop} {S : GS} (c : r1 S h) (f : FR h h' P) (p : ∀ o j, P o j → ¬ d1 o j) : r1 S h' :=
  ⟨TM_FR' c.1 f (fun z => p _ _ z (by unfold d1; omega)) (fun j z => p _ _ z (by unfold d1; omega)), SC_FR c.2 f (fun o j ho z => p _ _ z (by unfold d1; omega))⟩
theorem r2_FR {h h' : ajH} {P : Nat → Nat → Prop} {S : GS} (c : r2 S h) (f : FR h h' P) (p : ∀ o j, P o j → ¬ d2 o j) : r2 S h' :=
  ⟨(FR_I f (fun z => p _ _ z (by unfold d2; omega))).trans c.1, fun j hj h0 => (FR_I f (fun z => p _ _ z (by unfold d2; omega))).trans (c.2.1 j hj h0), fun k hk j hj => (FR_I f (fun z => p _ _ z (by unfold d2; omega))).trans (c.2.2 k hk j hj)⟩
theorem r3_FR {h h' : ajH} {P : Nat → Nat → Prop} {S : GS} (c : r3 S h) (f : FR h h' P) (p : ∀ o j, P o j → ¬ d3 o j) : r3 S h' := by
  obtain ⟨⟨e1, e2, e3, e4, e5⟩, j4, lm, cj⟩ := c
  refine ⟨⟨(FR_I f (fun z => p _ _ z (by unfold d3; omega))).trans e1, (FR_I f (fun z => p _ _ z (by unfold d3; omega))).trans e2, (FR_I f (fun z => p _ _ z (by unfold d3; omega))).trans e3, (FR_I f (fun z => p _ _ z (by unfold d3; omega))).trans e4, (FR_I f (fun z => p _ _ z (by unfold d3; omega))).trans e5⟩, j4, LawsM_FR lm f (fun j => ⟨fun z => p _ _ z (by unfold d3; omega), fun z => p _ _ z (by unfold d3; omega)⟩), fun i hi => ⟨(FR_I f (fun z => p _ _ z (by unfold d3; omega))).trans (cj i hi).1, (cj i hi).2.1, fun k hk => ?_⟩⟩
  have n16 := (cj i hi).2.1
  exact ⟨(FR_I f (fun z => p _ _ z (by unfold d3; omega))).trans ((cj i hi).2.2 k hk).1, (FR_I f (fun z => p _ _ z (by unfold d3; omega))).trans ((cj i hi).2.2 k hk).2⟩
theorem r4_FR {h h' : ajH} {P : Nat → Nat → Prop} {S : GS} (c : r4 S h) (f : FR h h' P) (p : ∀ o j, P o j → ¬ d4 o j) : r4 S h' := mX_FR c f (fun j z => p _ _ z (by unfold d4; omega))
theorem r5_FR {h h' : ajH} {P : Nat → Nat → Prop} {S : GS} (c : r5 S h) (f : FR h h' P) (p : ∀ o j, P o j → ¬ d5 o j) : r5 S h' :=
  ⟨(FR_I f (fun z => p _ _ z (by unfold d5; omega))).trans c.1, c.2.1, fun i hi => mX_FR (c.2.2 i hi) f (fun j z => p _ _ z (by unfold d5; omega))⟩
theorem r6_FR {h h' : ajH} {P : Nat → Nat → Prop} {S : GS} (c : r6 S h) (f : FR h h' P) (p : ∀ o j, P o j → ¬ d6 o j) : r6 S h' := fun e => mX_FR (c e) f (fun j z => p _ _ z (by unfold d6; omega))
theorem r7_FR {h h' : ajH} {P : Nat → Nat → Prop} {S : GS} (c : r7 S h) (f : FR h h' P) (p : ∀ o j, P o j → ¬ d7 o j) : r7 S h' :=
  ⟨(FR_I f (fun z => p _ _ z (by unfold d7; omega))).trans c.1, c.2.1, fun i hi => ⟨(FR_I f (fun z => p _ _ z (by unfold d7; omega))).trans (c.2.2 i hi).1, (FR_I f (fun z => p _ _ z (by unfold d7; omega))).trans (c.2.2 i hi).2⟩⟩
theorem r8_FR {h h' : ajH} {P : Nat → Nat → Prop} {S : GS} (c : r8 S h) (f : FR h h' P) (p : ∀ o j, P o j → ¬ (o = 334 ∨ o = 335)) : r8 S h' := MemoOK_FR c f (fun j => ⟨fun z => p _ _ z (by omega), fun z => p _ _ z (by omega)⟩)
/-- all but the memo -/
theorem MI_FR {h h' : ajH} {P : Nat → Nat → Prop} {S : GS} (c : MI S h) (f : FR h h' P) (p : ∀ o j, P o j → ¬ d1 o j ∧ ¬ d2 o j ∧ ¬ d3 o j ∧ ¬ d4 o j ∧ ¬ d5 o j ∧ ¬ d6 o j ∧ ¬ d7 o j) (e8 : r8 S h') : MI S h' :=
  ⟨r1_FR c.1 f (fun o j z => (p o j z).1), r2_FR c.2.1 f (fun o j z => (p o j z).2.1), r3_FR c.2.2.1 f (fun o j z => (p o j z).2.2.1), r4_FR c.2.2.2.1 f (fun o j z => (p o j z).2.2.2.1), r5_FR c.2.2.2.2.1 f (fun o j z => (p o j z).2.2.2.2.1), r6_FR c.2.2.2.2.2.1 f (fun o j z => (p o j z).2.2.2.2.2.1), r7_FR c.2.2.2.2.2.2.1 f (fun o j z => (p o j z).2.2.2.2.2.2), e8⟩
theorem MI_FR8 {h h' : ajH} {P : Nat → Nat → Prop} {S : GS} (c : MI S h) (f : FR h h' P) (p : ∀ o j, P o j → ¬ d1 o j ∧ ¬ d2 o j ∧ ¬ d3 o j ∧ ¬ d4 o j ∧ ¬ d5 o j ∧ ¬ d6 o j ∧ ¬ d7 o j ∧ ¬ (o = 334 ∨ o = 335)) : MI S h' :=
  MI_FR c f (fun o j z => by have y := p o j z; exact ⟨y.1, y.2.1, y.2.2.1, y.2.2.2.1, y.2.2.2.2.1, y.2.2.2.2.2.1, y.2.2.2.2.2.2.1⟩) (r8_FR c.2.2.2.2.2.2.2 f (fun o j z => (p o j z).2.2.2.2.2.2.2))
/-! what the steps want -/
theorem gE_n (S : GS) : eN (gE S) = gz S := rfl
theorem gE_ok {S : GS} (v : GVd S) : EVok (gE S) := fun k hk => ⟨gFO S k 2, (v.fo k hk).2.1, rfl⟩
theorem CI_CE {S : GS} {h : ajH} (c : c2 S h) (v : GVd S) (hz : 0 < gz S) : CE h 4 (gE S) :=
  ⟨c.1, hz, v.z8, c.2.1 0 (by omega), fun k hk => ⟨(c.2.2 k hk).1, (c.2.2 k hk).2.2⟩⟩
theorem MI_ME {S : GS} {h : ajH} (c : r2 S h) (v : GVd S) (hz : 0 < gz S) : ME h (gE S) :=
  ⟨c.1, hz, v.z8, c.2.1 0 (by omega) (Or.inr rfl), fun k hk => ⟨c.2.2 k hk 0 (by omega), c.2.2 k hk 2 (by omega)⟩⟩
theorem gE_law {S : GS} (v : GVd S) : (gh S = -1 ∧ gV S = 0 ∧ ∀ v d o f w t, eV (gE S) v d o f w t = dfl v d o) ∨ ∃ i, i < gm S ∧ gh S = nI i ∧ gV S = 18 + 7 * i ∧ ∀ v d o f w t, eV (gE S) v d o f w t = lw (gTB S) (gTL S) i v d o f w t := by
  have m4 := v.m4
  rcases v.hl with e | ⟨i, hi, e⟩
  · refine Or.inl ⟨e, by unfold gV; rw [if_pos e], fun v d o f w t => ?_⟩
    show (if gh S = -1 then (fun v d o _ _ _ => dfl v d o) else lw (gTB S) (gTL S) (gh S).toNatClampNeg) v d o f w t = _
    rw [if_pos e]
  · have ne : ¬ gh S = -1 := by rw [e, sr_neg1 (by omega)]; exact fun z => z
    have e2 : (gh S).toNatClampNeg = i := by rw [e, sr_N (by omega)]
    refine Or.inr ⟨i, hi, e, by unfold gV; rw [if_neg ne, e2], fun v d o f w t => ?_⟩
    show (if gh S = -1 then (fun v d o _ _ _ => dfl v d o) else lw (gTB S) (gTL S) (gh S).toNatClampNeg) v d o f w t = _
    rw [if_neg ne, e2]
theorem CI_CL {S : GS} {h : ajH} (c : c3 S h) (v : GVd S) : CLv h (gV S) (gm S) (gTB S) (gTL S) (gE S) := by
  refine ⟨c.2.2.2.1, v.m4, ?_⟩
  rcases gE_law v with ⟨_, e2, e3⟩ | ⟨i, hi, _, e2, e3⟩
  · exact Or.inl ⟨e2, e3⟩
  · exact Or.inr ⟨i, hi, e2, e3⟩
theorem MI_MV {S : GS} {h : ajH} (c : r3 S h) (c1 : r1 S h) (c8 : r8 S h) (v : GVd S) : MV h (gm S) (gTB S) (gTL S) (gE S) := by
  refine ⟨c.2.2.1, c8, c1.2, ?_⟩
  rw [c.1.2.1]
  rcases gE_law v with ⟨e1, _, e3⟩ | ⟨i, hi, e1, _, e3⟩
  · exact Or.inl ⟨e1, e3⟩
  · exact Or.inr ⟨i, hi, e1, e3⟩
theorem gE_g {S : GS} (v : GVd S) : EVg (gE S) := by
  intro x d o f w t hx hd ho
  rcases gE_law v with ⟨_, _, e⟩ | ⟨i, _, _, _, e⟩
  · rw [e]; exact dfl_g x hx d hd o ho
  · rw [e]; exact cl_g _
theorem S64 {S : GS} {d : Nat} {h : ajH} {Q : Option Value → ajH → Prop} (hs : ajShp h) (c : c3 S h) (v : GVd S) (H : Q (some (.ref (gV S))) h) : ajEv d 64 0 [.ref 1] [] h Q := by
  have m4 := v.m4
  refine W64_0 hs ?_
  rw [c.1.1, c.1.2.1]
  rcases gE_law v with ⟨e1, e2, _⟩ | ⟨i, hi, e1, e2, _⟩
  · rw [e1, if_pos (by decide)]; rw [e2] at H; exact H
  · rw [e1, if_neg (by rw [sr_lt0 (by omega)]; exact fun z => z), if_neg (by rw [sr_le (by omega) (by omega)]; omega), sr_in (by omega), sr_N (by omega)]
    rw [e2] at H
    exact ⟨by omega, H⟩
