/-! The constructors that call constructors; the law before its loop (printed by wip/gen/ctor2.py). -/
/-- the same, with where D can be -/
def Sk (b h : ajH) (q k w : Nat) (D : Nat → Nat → Prop) : Prop := Sg b h q k w D ∧ ∀ o j, D o j → o < k
theorem sk_0 {h : ajH} {q : Nat} (f : Frh h q) : Sk h h q (q + 1) (ajW h) (fun _ _ => False) := ⟨sg_0 f, fun _ _ z => z.elim⟩
theorem sk_al {b h h1 : ajH} {q k w n : Nat} {D : Nat → Nat → Prop} (g : Sk b h q k w D) (z : Zr b k) (k9 : q ≤ k ∧ k < 1000) (e : h1 = ajAl h n) : Sk b h1 q (k + 1) (w + n) D :=
  ⟨sg_al g.1 z k9 e (fun o j d => ⟨d, g.2 o j d⟩), fun o j d => Nat.lt_succ_of_lt (g.2 o j d)⟩
theorem sk_sr {b h h1 : ajH} {q k w a f v : Nat} {D : Nat → Nat → Prop} (g : Sk b h q k w D) (e : h1 = ajSR h a f v) (a1 : q ≤ a) (a2 : a < k) (hv : v = ajRf a f) : Sk b h1 q k w (fun o j => D o j ∨ o = a ∧ j = f) :=
  ⟨sg_sr g.1 e a1 a2 (fun o j d => d) hv, fun o j d => by
    rcases d with d | d
    · exact g.2 o j d
    · rw [d.1]; exact a2⟩
theorem sk_sx {b h h1 : ajH} {q k w a f v : Nat} {D : Nat → Nat → Prop} (g : Sk b h q k w D) (e : h1 = ajSR h a f v) (a1 : q ≤ a) (a2 : a < k) (hv : ajRf a f = 0) : Sk b h1 q k w D := ⟨sg_sx g.1 e a1 a2 hv, g.2⟩
theorem sk_si {b h h1 : ajH} {q k w a f : Nat} {v : Int32} {D : Nat → Nat → Prop} (g : Sk b h q k w D) (e : h1 = ajSI h a f v) : Sk (ajSI b a f v) h1 q k w D := ⟨sg_si g.1 e, g.2⟩
theorem sk_bk {b h h1 : ajH} {q0 q k w w' : Nat} {D : Nat → Nat → Prop} (g : Sk b h q0 (q + 1) w D) (c : Sg h h1 q k (ajW h + w') (fun o _ => q ≤ o ∧ o < k)) (hq : q0 ≤ q ∧ q < k) : Sk b h1 q0 k (w + w') (fun o j => D o j ∨ q ≤ o ∧ o < k) :=
  ⟨sg_bk g.1 c hq (fun o j d => d), fun o j d => by
    rcases d with d | d
    · have := g.2 o j d; omega
    · exact d.2⟩
theorem zr_si {b : ajH} {k a f : Nat} {v : Int32} (z : Zr b k) (h : a < k) : Zr (ajSI b a f v) k := by
  intro o j h1 h2
  refine ⟨?_, (z o j h1 h2).2⟩
  rw [ajI_SI, if_neg (by omega)]
  exact (z o j h1 h2).1
theorem sh_act : ∀ k < 40, ajSh (71 + 5 * k) = (6, 16) ∧ ajSh (71 + 5 * k + 1) = (100, 8) ∧ ajSh (71 + 5 * k + 2) = (100, 60) ∧ ajSh (71 + 5 * k + 3) = (100, 8) ∧ ajSh (71 + 5 * k + 4) = (100, 8) := by decide +kernel
theorem sh_pln : ∀ k < 9, ajSh (275 + 5 * k) = (6, 16) ∧ ajSh (275 + 5 * k + 1) = (100, 8) ∧ ajSh (275 + 5 * k + 2) = (100, 60) ∧ ajSh (275 + 5 * k + 3) = (100, 8) ∧ ajSh (275 + 5 * k + 4) = (100, 8) := by decide +kernel
theorem sh_law : ∀ k < 4, (ajSh (18 + 7 * k) = (3, 4) ∧ ajSh (18 + 7 * k + 1) = (100, 256) ∧ ajSh (18 + 7 * k + 2) = (100, 64) ∧ ajSh (18 + 7 * k + 3) = (100, 6)) ∧ ajSh (22 + 7 * k) = (4, 3) ∧ ajSh (22 + 7 * k + 1) = (100, 16) ∧ ajSh (22 + 7 * k + 2) = (100, 16) := by decide +kernel
theorem rf_act (k : Nat) : 71 + 5 * k = ajRf 70 k := by
  unfold ajRf
  rw [show (ajSh 70).1 = 103 from rfl]
  split <;> first | omega | rfl | (rw [if_pos rfl]) | exact absurd (rfl : (103 : Nat) = 103) (by assumption)
theorem rf_pln (k : Nat) : 275 + 5 * k = ajRf 274 k := by
  unfold ajRf
  rw [show (ajSh 274).1 = 103 from rfl]
  split <;> first | omega | rfl | (rw [if_neg (by omega)]) | exact absurd (rfl : (103 : Nat) = 103) (by assumption)
theorem rf_laws (k : Nat) : 18 + 7 * k = ajRf 16 k := by
  unfold ajRf
  rw [show (ajSh 16).1 = 104 from rfl]
  split <;> first | omega | rfl | exact absurd (rfl : (104 : Nat) = 104) (by assumption)
theorem rf_jour (k : Nat) : 22 + 7 * k = ajRf 17 k := by
  unfold ajRf
  rw [show (ajSh 17).1 = 105 from rfl]
  split <;> first | omega | rfl | exact absurd (rfl : (105 : Nat) = 105) (by assumption)
theorem B5 {d : Nat} {h : ajH} {Q : Option Value → ajH → Prop} (f : Frh h 46) (H : ∀ h', Sg h h' 46 51 (ajW h + 330) (fun o _ => 46 ≤ o ∧ o < 51) → Q none h') : ajEv (d + 3) 5 0 [.ref 46, .ref 2] [] h Q := by
  have z0 := f.2.2.1
  have hr := f.2.2.2.1
  have hi := f.2.2.2.2
  have g0 := sg_0 f
  refine C5_0 ?_
  refine ⟨ajOne_of (by omega) (by omega), ?_⟩
  refine ⟨⟨by rw [sg_N g0]; omega, rfl⟩, ?_⟩
  intro h1 e1
  have g1 := sg_sr (D' := (fun o j => o = 46 ∧ j = 0)) g0 e1 (by omega) (by omega) (fun o j z => by omega) rfl
  refine ⟨47, ⟨sg_X g1, sg_N g1, by omega, rfl⟩, ?_⟩
  intro h2 e2
  have g2 := sg_al (n := 4) (D' := (fun o j => o = 46 ∧ j = 0)) g1 (zr_mono z0 (by omega)) (by omega) e2 (fun o j z => by omega)
  refine ⟨⟨Or.inl (by rw [sg_N g2]; omega), rfl⟩, ?_⟩
  refine B3 (sg_fr g2 (by omega) (zr_mono z0 (by omega)) hr hi) (by omega) (by omega) ⟨rfl, rfl, rfl, rfl⟩ ?_
  intro h3 c3
  refine ⟨rfl, ?_⟩
  have g3 := sg_bk (D' := (fun o j => o = 46 ∧ j = 0 ∨ 47 ≤ o ∧ o < 47 + 4)) g2 c3 (by omega) (fun o j z => by omega)
  refine ⟨⟨by rw [sg_N g3]; omega, rfl⟩, ?_⟩
  intro h4 e4
  have g4 := sg_sr (D' := (fun o j => o = 46 ∧ j = 0 ∨ 47 ≤ o ∧ o < 47 + 4 ∨ o = 46 ∧ j = 1)) g3 e4 (by omega) (by omega) (fun o j z => by omega) rfl
  refine H _ (sg_fin g4 (fun o j h1 h2 h3 h4 => ?_))
  by_cases e : o = 46
  · subst e
    have h3 : j < 2 := h3
    omega
  · omega
theorem rf7 {q j : Nat} (k : (ajSh q).1 = 7) (h : ajRf q j ≠ 0) : j = 0 := by
  unfold ajRf at h
  rw [k] at h
  split at h <;> omega
theorem B7l {d : Nat} {b : ajH} (z0 : Zr b 70) (hr : ajR b 1010 1 = 1030) (hi : ajI b 1010 0 = 0) {w0 : Nat} : ∀ (n i : Nat) (h : ajH) (Q : Option Value → ajH → Prop) (k w : Nat), i + n = 40 → k = 71 + 5 * i → w = w0 + 100 * i → Sg b h 69 k w (fun o j => o = 69 ∧ j = 0 ∨ o = 70 ∧ j < i ∨ 71 ≤ o ∧ o < k) →
    (∀ h', Sg b h' 69 271 (w0 + 4000) (fun o j => o = 69 ∧ j = 0 ∨ o = 70 ∧ j < 40 ∨ 71 ≤ o ∧ o < 271) → Q none h') → ajEv (d + 1) 7 15 [.ref 69, .int (nI i)] [] h Q := by
  intro n
  induction n with
  | zero =>
    intro i h Q k w hi' hk hw g0 H
    refine C7_15 ?_
    rw [if_pos (by rw [show (40 : Int32) = nI 40 from rfl, sr_le (by omega) (by omega)]; omega)]
    subst hk hw
    obtain rfl : i = 40 := by omega
    exact H h g0
  | succ n ih =>
    intro i h Q k w hi' hk hw g0 H
    have sh := sh_act i (by omega)
    refine C7_15 ?_
    rw [if_neg (by rw [show (40 : Int32) = nI 40 from rfl, sr_le (by omega) (by omega)]; omega)]
    refine ⟨70, ⟨⟨Or.inl (by rw [sg_N g0]; omega), rfl⟩, g0.2.2.2.1 69 0 (by omega) (by decide) (by decide)⟩, ?_⟩
    subst hk
    refine ⟨71 + 5 * i, ⟨sg_X g0, sg_N g0, by omega, sh.1⟩, ?_⟩
    intro h1 e1
    have g1 := sg_al (n := 16) (D' := (fun o j => o = 69 ∧ j = 0 ∨ o = 70 ∧ j < i ∨ 71 ≤ o ∧ o < 71 + 5 * i)) g0 (zr_mono z0 (by omega)) (by omega) e1 (fun o j z => by omega)
    refine ⟨⟨Or.inl (by rw [sg_N g1]; omega), by rw [sh.1]⟩, ?_⟩
    refine B6 (sg_fr g1 (by omega) (zr_mono z0 (by omega)) hr hi) (by omega) (by omega) ⟨sh.1, sh.2.1, sh.2.2.1, sh.2.2.2.1, sh.2.2.2.2⟩ ?_
    intro h2 c2
    refine ⟨rfl, ?_⟩
    have g2 := sg_bk (D' := (fun o j => o = 69 ∧ j = 0 ∨ o = 70 ∧ j < i ∨ 71 ≤ o ∧ o < 71 + 5 * i ∨ 71 + 5 * i ≤ o ∧ o < 71 + 5 * i + 5)) g1 c2 (by omega) (fun o j z => by omega)
    refine ⟨⟨⟨by rw [sg_N g2]; omega, by decide, by decide⟩, by rw [ajLenC (n := 40) rfl, sr_in (by omega)]; omega, ⟨by rw [sg_N g2]; omega, by rw [sh.1]; rfl⟩⟩, ?_⟩
    intro h3 e3
    rw [sr_N (by omega)] at e3
    have g3 := sg_sr (D' := (fun o j => o = 69 ∧ j = 0 ∨ o = 70 ∧ j < i + 1 ∨ 71 ≤ o ∧ o < 71 + 5 * i + 5)) g2 e3 (by omega) (by omega) (fun o j z => by omega) (rf_act i)
    rw [nI_1]
    exact ih (i + 1) _ Q _ _ (by omega) (by omega) (by omega) g3 H
theorem B7 {d : Nat} {h : ajH} {Q : Option Value → ajH → Prop} (f : Frh h 69) (H : ∀ h', Sg h h' 69 271 (ajW h + 4040) (fun o _ => 69 ≤ o ∧ o < 271) → Q none h') : ajEv (d + 1) 7 0 [.ref 69, ajU] [] h Q := by
  have z0 := f.2.2.1
  have hr := f.2.2.2.1
  have hi := f.2.2.2.2
  have g0 := sg_0 f
  refine C7_0 ?_
  refine ⟨ajOne_of (by omega) (by omega), ?_⟩
  refine ⟨70, ⟨sg_X g0, sg_N g0, by omega, rfl⟩, ?_⟩
  intro h1 e1
  have g1 := sg_al (n := 40) (D' := (fun o j => False)) g0 (zr_mono z0 (by omega)) (by omega) e1 (fun o j z => (show False from z).elim)
  refine ⟨⟨by rw [sg_N g1]; omega, rfl⟩, ?_⟩
  intro h2 e2
  have g2 := sg_sr (D' := (fun o j => o = 69 ∧ j = 0)) g1 e2 (by omega) (by omega) (fun o j z => by omega) rfl
  have gz : Sg h _ 69 71 _ (fun o j => o = 69 ∧ j = 0 ∨ o = 70 ∧ j < 0 ∨ 71 ≤ o ∧ o < 71) := ⟨g2.1, g2.2.1, g2.2.2.1, fun o j z => g2.2.2.2.1 o j (by omega), g2.2.2.2.2⟩
  refine B7l (w0 := ajW h + 40) z0 hr hi 40 0 _ Q 71 _ (by omega) (by omega) (by omega) gz ?_
  intro h' g
  refine H _ (sg_fin g (fun o j h1 h2 h3 h4 => ?_))
  by_cases e : o = 69
  · subst e
    have : j = 0 := rf7 rfl h4
    omega
  by_cases e2 : o = 70
  · subst e2
    have h3 : j < 40 := h3
    omega
  · omega
theorem rf9 {q j : Nat} (k : (ajSh q).1 = 9) (h : ajRf q j ≠ 0) : j = 0 ∨ j = 1 := by
  unfold ajRf at h
  rw [k] at h
  split at h <;> omega
theorem B9l {d : Nat} {b : ajH} (z0 : Zr b 274) (hr : ajR b 1010 1 = 1030) (hi : ajI b 1010 0 = 0) {w0 : Nat} : ∀ (n i : Nat) (h : ajH) (Q : Option Value → ajH → Prop) (k w : Nat) (u1 : Value), i + n = 9 → k = 275 + 5 * i → w = w0 + 100 * i → Sg b h 273 k w (fun o j => o = 273 ∧ (j = 0 ∨ j = 1) ∨ o = 274 ∧ j < i ∨ 275 ≤ o ∧ o < k) →
    (∀ h', Sg b h' 273 320 (w0 + 900) (fun o j => o = 273 ∧ (j = 0 ∨ j = 1) ∨ o = 274 ∧ j < 9 ∨ 275 ≤ o ∧ o < 320) → Q none h') → ajEv (d + 1) 9 20 [.ref 273, u1, .int (nI i)] [] h Q := by
  intro n
  induction n with
  | zero =>
    intro i h Q k w u1 hi' hk hw g0 H
    refine C9_20 ?_
    rw [if_pos (by rw [show (8 : Int32) = nI 8 from rfl, sr_lt (by omega) (by omega)]; omega)]
    subst hk hw
    obtain rfl : i = 9 := by omega
    exact H h g0
  | succ n ih =>
    intro i h Q k w u1 hi' hk hw g0 H
    have sh := sh_pln i (by omega)
    refine C9_20 ?_
    rw [if_neg (by rw [show (8 : Int32) = nI 8 from rfl, sr_lt (by omega) (by omega)]; omega)]
    refine ⟨274, ⟨⟨Or.inl (by rw [sg_N g0]; omega), rfl⟩, g0.2.2.2.1 273 0 (by omega) (by decide) (by decide)⟩, ?_⟩
    subst hk
    refine ⟨275 + 5 * i, ⟨sg_X g0, sg_N g0, by omega, sh.1⟩, ?_⟩
    intro h1 e1
    have g1 := sg_al (n := 16) (D' := (fun o j => o = 273 ∧ (j = 0 ∨ j = 1) ∨ o = 274 ∧ j < i ∨ 275 ≤ o ∧ o < 275 + 5 * i)) g0 (zr_mono z0 (by omega)) (by omega) e1 (fun o j z => by omega)
    refine ⟨⟨Or.inl (by rw [sg_N g1]; omega), by rw [sh.1]⟩, ?_⟩
    refine B6 (sg_fr g1 (by omega) (zr_mono z0 (by omega)) hr hi) (by omega) (by omega) ⟨sh.1, sh.2.1, sh.2.2.1, sh.2.2.2.1, sh.2.2.2.2⟩ ?_
    intro h2 c2
    refine ⟨rfl, ?_⟩
    have g2 := sg_bk (D' := (fun o j => o = 273 ∧ (j = 0 ∨ j = 1) ∨ o = 274 ∧ j < i ∨ 275 ≤ o ∧ o < 275 + 5 * i ∨ 275 + 5 * i ≤ o ∧ o < 275 + 5 * i + 5)) g1 c2 (by omega) (fun o j z => by omega)
    refine ⟨⟨⟨by rw [sg_N g2]; omega, by decide, by decide⟩, by rw [ajLenC (n := 9) rfl, sr_in (by omega)]; omega, ⟨by rw [sg_N g2]; omega, by rw [sh.1]; rfl⟩⟩, ?_⟩
    intro h3 e3
    rw [sr_N (by omega)] at e3
    have g3 := sg_sr (D' := (fun o j => o = 273 ∧ (j = 0 ∨ j = 1) ∨ o = 274 ∧ j < i + 1 ∨ 275 ≤ o ∧ o < 275 + 5 * i + 5)) g2 e3 (by omega) (by omega) (fun o j z => by omega) (rf_pln i)
    rw [nI_1]
    exact ih (i + 1) _ Q _ _ _ (by omega) (by omega) (by omega) g3 H
theorem B9 {d : Nat} {h : ajH} {Q : Option Value → ajH → Prop} (f : Frh h 273) (H : ∀ h', Sg h h' 273 320 (ajW h + 909) (fun o _ => 273 ≤ o ∧ o < 320) → Q none h') : ajEv (d + 1) 9 0 [.ref 273, .ref 4, ajU] [] h Q := by
  have z0 := f.2.2.1
  have hr := f.2.2.2.1
  have hi := f.2.2.2.2
  have g0 := sg_0 f
  refine C9_0 ?_
  refine ⟨ajOne_of (by omega) (by omega), ?_⟩
  refine ⟨⟨by rw [sg_N g0]; omega, rfl⟩, ?_⟩
  intro h1 e1
  have g1 := sg_sr (D' := (fun o j => o = 273 ∧ j = 1)) g0 e1 (by omega) (by omega) (fun o j z => by omega) rfl
  refine ⟨274, ⟨sg_X g1, sg_N g1, by omega, rfl⟩, ?_⟩
  intro h2 e2
  have g2 := sg_al (n := 9) (D' := (fun o j => o = 273 ∧ j = 1)) g1 (zr_mono z0 (by omega)) (by omega) e2 (fun o j z => by omega)
  refine ⟨⟨by rw [sg_N g2]; omega, rfl⟩, ?_⟩
  intro h3 e3
  have g3 := sg_sr (D' := (fun o j => o = 273 ∧ j = 1 ∨ o = 273 ∧ j = 0)) g2 e3 (by omega) (by omega) (fun o j z => by omega) rfl
  have gz : Sg h _ 273 275 _ (fun o j => o = 273 ∧ (j = 0 ∨ j = 1) ∨ o = 274 ∧ j < 0 ∨ 275 ≤ o ∧ o < 275) := ⟨g3.1, g3.2.1, g3.2.2.1, fun o j z => g3.2.2.2.1 o j (by omega), g3.2.2.2.2⟩
  refine B9l (w0 := ajW h + 9) z0 hr hi 9 0 _ Q 275 _ _ (by omega) (by omega) (by omega) gz ?_
  intro h' g
  refine H _ (sg_fin g (fun o j h1 h2 h3 h4 => ?_))
  by_cases e : o = 273
  · subst e
    have : j = 0 ∨ j = 1 := rf9 rfl h4
    omega
  by_cases e2 : o = 274
  · subst e2
    have h3 : j < 9 := h3
    omega
  · omega
theorem B0l {d : Nat} {b : ajH} (z0 : Zr b 2) (hr : ajR b 1010 1 = 1030) (hi : ajI b 1010 0 = 0) {w0 : Nat} : ∀ (n i : Nat) (h : ajH) (Q : Option Value → ajH → Prop) (k w : Nat), i + n = 4 → k = 18 + 7 * i → w = w0 + 365 * i → Sg b h 1 k w (fun o j => o = 1 ∧ (j = 0 ∨ j = 1 ∨ j = 2 ∨ j = 3 ∨ j = 7) ∨ o = 16 ∧ j < i ∨ o = 17 ∧ j < i ∨ 2 ≤ o ∧ o < 16 ∨ 18 ≤ o ∧ o < k) →
    (∀ h', Sg b h' 1 46 (w0 + 1460) (fun o j => o = 1 ∧ (j = 0 ∨ j = 1 ∨ j = 2 ∨ j = 3 ∨ j = 7) ∨ o = 16 ∧ j < 4 ∨ o = 17 ∧ j < 4 ∨ 2 ≤ o ∧ o < 16 ∨ 18 ≤ o ∧ o < 46) → ajEv (d + 4) 0 55 [.ref 1, .int (nI 4)] [] h' Q) → ajEv (d + 4) 0 55 [.ref 1, .int (nI i)] [] h Q := by
  intro n
  induction n with
  | zero =>
    intro i h Q k w hi' hk hw g0 H
    subst hk hw
    obtain rfl : i = 4 := by omega
    exact H h g0
  | succ n ih =>
    intro i h Q k w hi' hk hw g0 H
    have sh := sh_law i (by omega)
    refine C0_55 ?_
    rw [if_neg (by rw [show (4 : Int32) = nI 4 from rfl, sr_le (by omega) (by omega)]; omega)]
    refine ⟨16, ⟨⟨Or.inl (by rw [sg_N g0]; omega), rfl⟩, g0.2.2.2.1 1 3 (by omega) (by decide) (by decide)⟩, ?_⟩
    subst hk
    refine ⟨18 + 7 * i, ⟨sg_X g0, sg_N g0, by omega, sh.1.1⟩, ?_⟩
    intro h1 e1
    have g1 := sg_al (n := 4) (D' := (fun o j => o = 1 ∧ (j = 0 ∨ j = 1 ∨ j = 2 ∨ j = 3 ∨ j = 7) ∨ o = 16 ∧ j < i ∨ o = 17 ∧ j < i ∨ 2 ≤ o ∧ o < 16 ∨ 18 ≤ o ∧ o < 18 + 7 * i)) g0 (zr_mono z0 (by omega)) (by omega) e1 (fun o j z => by omega)
    refine ⟨⟨Or.inl (by rw [sg_N g1]; omega), by rw [sh.1.1]⟩, ?_⟩
    refine B3 (sg_fr g1 (by omega) (zr_mono z0 (by omega)) hr hi) (by omega) (by omega) ⟨sh.1.1, sh.1.2.1, sh.1.2.2.1, sh.1.2.2.2⟩ ?_
    intro h2 c2
    refine ⟨rfl, ?_⟩
    have g2 := sg_bk (D' := (fun o j => o = 1 ∧ (j = 0 ∨ j = 1 ∨ j = 2 ∨ j = 3 ∨ j = 7) ∨ o = 16 ∧ j < i ∨ o = 17 ∧ j < i ∨ 2 ≤ o ∧ o < 16 ∨ 18 ≤ o ∧ o < 18 + 7 * i ∨ 18 + 7 * i ≤ o ∧ o < 18 + 7 * i + 4)) g1 c2 (by omega) (fun o j z => by omega)
    refine ⟨⟨⟨by rw [sg_N g2]; omega, by decide, by decide⟩, by rw [ajLenC (n := 4) rfl, sr_in (by omega)]; omega, ⟨by rw [sg_N g2]; omega, by rw [sh.1.1]; rfl⟩⟩, ?_⟩
    intro h3 e3
    rw [sr_N (by omega)] at e3
    have g3 := sg_sr (D' := (fun o j => o = 1 ∧ (j = 0 ∨ j = 1 ∨ j = 2 ∨ j = 3 ∨ j = 7) ∨ o = 16 ∧ j < i + 1 ∨ o = 17 ∧ j < i ∨ 2 ≤ o ∧ o < 16 ∨ 18 ≤ o ∧ o < 18 + 7 * i + 4)) g2 e3 (by omega) (by omega) (fun o j z => by omega) (rf_laws i)
    refine ⟨17, ⟨⟨Or.inl (by rw [sg_N g3]; omega), rfl⟩, g3.2.2.2.1 1 7 (by omega) (by decide) (by decide)⟩, ?_⟩
    have gy : Sg b _ 1 (22 + 7 * i) _ _ := (show 18 + 7 * i + 4 = 22 + 7 * i by omega) ▸ g3
    refine ⟨22 + 7 * i, ⟨sg_X gy, sg_N gy, by omega, sh.2.1⟩, ?_⟩
    intro h4 e4
    have g4 := sg_al (n := 3) (D' := (fun o j => o = 1 ∧ (j = 0 ∨ j = 1 ∨ j = 2 ∨ j = 3 ∨ j = 7) ∨ o = 16 ∧ j < i + 1 ∨ o = 17 ∧ j < i ∨ 2 ≤ o ∧ o < 16 ∨ 18 ≤ o ∧ o < 22 + 7 * i)) gy (zr_mono z0 (by omega)) (by omega) e4 (fun o j z => by omega)
    refine ⟨⟨Or.inl (by rw [sg_N g4]; omega), by rw [sh.2.1]⟩, ?_⟩
    refine B4 (sg_fr g4 (by omega) (zr_mono z0 (by omega)) hr hi) (by omega) (by omega) ⟨sh.2.1, sh.2.2.1, sh.2.2.2⟩ ?_
    intro h5 c5
    refine ⟨rfl, ?_⟩
    have g5 := sg_bk (D' := (fun o j => o = 1 ∧ (j = 0 ∨ j = 1 ∨ j = 2 ∨ j = 3 ∨ j = 7) ∨ o = 16 ∧ j < i + 1 ∨ o = 17 ∧ j < i ∨ 2 ≤ o ∧ o < 16 ∨ 18 ≤ o ∧ o < 22 + 7 * i ∨ 22 + 7 * i ≤ o ∧ o < 22 + 7 * i + 3)) g4 c5 (by omega) (fun o j z => by omega)
    refine ⟨⟨⟨by rw [sg_N g5]; omega, by decide, by decide⟩, by rw [ajLenC (n := 4) rfl, sr_in (by omega)]; omega, ⟨by rw [sg_N g5]; omega, by rw [sh.2.1]; rfl⟩⟩, ?_⟩
    intro h6 e6
    rw [sr_N (by omega)] at e6
    have g6 := sg_sr (D' := (fun o j => o = 1 ∧ (j = 0 ∨ j = 1 ∨ j = 2 ∨ j = 3 ∨ j = 7) ∨ o = 16 ∧ j < i + 1 ∨ o = 17 ∧ j < i + 1 ∨ 2 ≤ o ∧ o < 16 ∨ 18 ≤ o ∧ o < 22 + 7 * i + 3)) g5 e6 (by omega) (by omega) (fun o j z => by omega) (rf_jour i)
    rw [nI_1]
    exact ih (i + 1) _ Q _ _ (by omega) (by omega) (by omega) g6 H
theorem rf0 {q j : Nat} (k : (ajSh q).1 = 0) (h : ajRf q j ≠ 0) : j = 0 ∨ j = 1 ∨ j = 2 ∨ j = 3 ∨ j = 4 ∨ j = 7 ∨ j = 8 ∨ j = 11 ∨ j = 12 ∨ j = 13 ∨ j = 15 ∨ j = 16 ∨ j = 17 := by
  unfold ajRf at h
  rw [k] at h
  split at h <;> omega
/-- the class as it begins -/
def bS (b : ajH) : ajH := ajSI (ajSI b 1 6 (-1)) 1 10 3
set_option maxRecDepth 100000 in
theorem B0 {d : Nat} {h : ajH} {Q : Option Value → ajH → Prop} (f : Frh h 1) (H : ∀ h', Sg (bS h) h' 1 320 (ajW h + 7438) (fun o _ => 1 ≤ o ∧ o < 320) → Q none h') : ajEv (d + 4) 0 0 [.ref 1, ajU] [] h Q := by
  have z0 := f.2.2.1
  have hr := f.2.2.2.1
  have hi := f.2.2.2.2
  have g0 := sk_0 f
  refine C0_0 ?_
  refine ⟨ajOne_of (by omega) (by omega), ?_⟩
  refine ⟨2, ⟨sg_X g0.1, sg_N g0.1, by omega, rfl⟩, ?_⟩
  intro h1 e1
  have g1 := sk_al (n := 4) g0 (zr_mono z0 (by omega)) (by omega) e1
  refine ⟨⟨Or.inl (by rw [sg_N g1.1]; omega), rfl⟩, ?_⟩
  refine B1 (sg_fr g1.1 (by omega) (zr_mono z0 (by omega)) hr hi) (by omega) (by omega) ⟨rfl, rfl⟩ ?_
  intro h2 c2
  refine ⟨rfl, ?_⟩
  have g2 := sk_bk g1 c2 (by omega)
  refine ⟨⟨by rw [sg_N g2.1]; omega, rfl⟩, ?_⟩
  intro h3 e3
  have g3 := sk_sr g2 e3 (by omega) (by omega) rfl
  refine ⟨4, ⟨sg_X g3.1, sg_N g3.1, by omega, rfl⟩, ?_⟩
  intro h4 e4
  have g4 := sk_al (n := 6) g3 (zr_mono z0 (by omega)) (by omega) e4
  refine ⟨⟨Or.inl (by rw [sg_N g4.1]; omega), rfl⟩, ?_⟩
  refine B2 (sg_fr g4.1 (by omega) (zr_mono z0 (by omega)) hr hi) (by omega) (by omega) ⟨rfl, rfl, rfl, rfl, rfl, rfl⟩ ?_
  intro h5 c5
  refine ⟨rfl, ?_⟩
  have g5 := sk_bk g4 c5 (by omega)
  refine ⟨⟨by rw [sg_N g5.1]; omega, rfl⟩, ?_⟩
  intro h6 e6
  have g6 := sk_sr g5 e6 (by omega) (by omega) rfl
  refine ⟨10, ⟨sg_X g6.1, sg_N g6.1, by omega, rfl⟩, ?_⟩
  intro h7 e7
  have g7 := sk_al (n := 6) g6 (zr_mono z0 (by omega)) (by omega) e7
  refine ⟨⟨Or.inl (by rw [sg_N g7.1]; omega), rfl⟩, ?_⟩
  refine B2 (sg_fr g7.1 (by omega) (zr_mono z0 (by omega)) hr hi) (by omega) (by omega) ⟨rfl, rfl, rfl, rfl, rfl, rfl⟩ ?_
  intro h8 c8
  refine ⟨rfl, ?_⟩
  have g8 := sk_bk g7 c8 (by omega)
  refine ⟨⟨by rw [sg_N g8.1]; omega, rfl⟩, ?_⟩
  intro h9 e9
  have g9 := sk_sr g8 e9 (by omega) (by omega) rfl
  refine ⟨16, ⟨sg_X g9.1, sg_N g9.1, by omega, rfl⟩, ?_⟩
  intro h10 e10
  have g10 := sk_al (n := 4) g9 (zr_mono z0 (by omega)) (by omega) e10
  refine ⟨⟨by rw [sg_N g10.1]; omega, rfl⟩, ?_⟩
  intro h11 e11
  have g11 := sk_sr g10 e11 (by omega) (by omega) rfl
  refine ⟨17, ⟨sg_X g11.1, sg_N g11.1, by omega, rfl⟩, ?_⟩
  intro h12 e12
  have g12 := sk_al (n := 4) g11 (zr_mono z0 (by omega)) (by omega) e12
  refine ⟨⟨by rw [sg_N g12.1]; omega, rfl⟩, ?_⟩
  intro h13 e13
  have g13 := sk_sr g12 e13 (by omega) (by omega) rfl
  have gz : Sg h h13 1 18 (ajW h + 326) (fun o j => o = 1 ∧ (j = 0 ∨ j = 1 ∨ j = 2 ∨ j = 3 ∨ j = 7) ∨ o = 16 ∧ j < 0 ∨ o = 17 ∧ j < 0 ∨ 2 ≤ o ∧ o < 16 ∨ 18 ≤ o ∧ o < 18) := by
    refine ⟨g13.1.1, g13.1.2.1, g13.1.2.2.1, fun o j z => ?_, g13.1.2.2.2.2⟩
    rcases z with ⟨rfl, z⟩ | ⟨_, z⟩ | ⟨_, z⟩ | z | z
    · rcases z with rfl | rfl | rfl | rfl | rfl <;> exact g13.1.2.2.2.1 _ _ (by repeat (first | exact Or.inr ⟨rfl, rfl⟩ | apply Or.inl))
    · exact absurd z (Nat.not_lt_zero _)
    · exact absurd z (Nat.not_lt_zero _)
    · have z : (2 ≤ o ∧ o < 2 + 2) ∨ (4 ≤ o ∧ o < 4 + 6) ∨ (10 ≤ o ∧ o < 10 + 6) := by omega
      rcases z with z | z | z <;> exact g13.1.2.2.2.1 _ _ (by repeat (first | exact Or.inr z | apply Or.inl))
    · exfalso; omega
  refine B0l (w0 := ajW h + 326) z0 hr hi 4 0 _ Q 18 _ (by omega) (by omega) (by omega) gz ?_
  intro h14 gl14
  have g14 : Sk _ _ _ _ _ _ := ⟨gl14, fun o j z => by omega⟩
  refine C0_55 ?_
  rw [if_pos (by decide)]
  refine ⟨46, ⟨sg_X g14.1, sg_N g14.1, by omega, rfl⟩, ?_⟩
  intro h15 e15
  have g15 := sk_al (n := 2) g14 (zr_mono z0 (by omega)) (by omega) e15
  refine ⟨2, ⟨⟨Or.inl (by rw [sg_N g15.1]; omega), rfl⟩, g15.1.2.2.2.1 1 0 (Or.inl ⟨rfl, Or.inl rfl⟩) (by decide) (by decide)⟩, ?_⟩
  refine ⟨⟨Or.inl (by rw [sg_N g15.1]; omega), rfl⟩, ?_⟩
  refine B5 (sg_fr g15.1 (by omega) (zr_mono z0 (by omega)) hr hi) ?_
  intro h16 c16
  refine ⟨rfl, ?_⟩
  have g16 := sk_bk g15 c16 (by omega)
  refine ⟨⟨by rw [sg_N g16.1]; omega, rfl⟩, ?_⟩
  intro h17 e17
  have g17 := sk_sr g16 e17 (by omega) (by omega) rfl
  refine ⟨51, ⟨sg_X g17.1, sg_N g17.1, by omega, rfl⟩, ?_⟩
  intro h18 e18
  have g18 := sk_al (n := 3) g17 (zr_mono z0 (by omega)) (by omega) e18
  refine ⟨⟨Or.inl (by rw [sg_N g18.1]; omega), rfl⟩, ?_⟩
  refine B4 (sg_fr g18.1 (by omega) (zr_mono z0 (by omega)) hr hi) (by omega) (by omega) ⟨rfl, rfl, rfl⟩ ?_
  intro h19 c19
  refine ⟨rfl, ?_⟩
  have g19 := sk_bk g18 c19 (by omega)
  refine ⟨⟨by rw [sg_N g19.1]; omega, rfl⟩, ?_⟩
  intro h20 e20
  have g20 := sk_sr g19 e20 (by omega) (by omega) rfl
  refine ⟨⟨by rw [sg_N g20.1]; omega, rfl⟩, ?_⟩
  intro h21 e21
  have g21 := sk_si g20 e21
  have z21 := zr_si (f := 6) (v := (-1)) z0 (by omega : 1 < _)
  have hi21 : ajI (ajSI _ 1 6 (-1)) 1010 0 = 0 := (show _ from hi)
  refine ⟨⟨by rw [sg_N g21.1]; omega, rfl⟩, ?_⟩
  intro h22 e22
  have g22 := sk_si g21 e22
  have z22 := zr_si (f := 10) (v := (3)) z21 (by omega : 1 < _)
  have hi22 : ajI (ajSI _ 1 10 (3)) 1010 0 = 0 := (show _ from hi21)
  refine ⟨54, ⟨sg_X g22.1, sg_N g22.1, by omega, rfl⟩, ?_⟩
  intro h23 e23
  have g23 := sk_al (n := 16) g22 (zr_mono z22 (by omega)) (by omega) e23
  refine ⟨⟨Or.inl (by rw [sg_N g23.1]; omega), rfl⟩, ?_⟩
  refine B6 (sg_fr g23.1 (by omega) (zr_mono z22 (by omega)) hr hi22) (by omega) (by omega) ⟨rfl, rfl, rfl, rfl, rfl⟩ ?_
  intro h24 c24
  refine ⟨rfl, ?_⟩
  have g24 := sk_bk g23 c24 (by omega)
  refine ⟨⟨by rw [sg_N g24.1]; omega, rfl⟩, ?_⟩
  intro h25 e25
  have g25 := sk_sr g24 e25 (by omega) (by omega) rfl
  refine ⟨59, ⟨sg_X g25.1, sg_N g25.1, by omega, rfl⟩, ?_⟩
  intro h26 e26
  have g26 := sk_al (n := 16) g25 (zr_mono z22 (by omega)) (by omega) e26
  refine ⟨⟨Or.inl (by rw [sg_N g26.1]; omega), rfl⟩, ?_⟩
  refine B6 (sg_fr g26.1 (by omega) (zr_mono z22 (by omega)) hr hi22) (by omega) (by omega) ⟨rfl, rfl, rfl, rfl, rfl⟩ ?_
  intro h27 c27
  refine ⟨rfl, ?_⟩
  have g27 := sk_bk g26 c27 (by omega)
  refine ⟨⟨by rw [sg_N g27.1]; omega, rfl⟩, ?_⟩
  intro h28 e28
  have g28 := sk_sr g27 e28 (by omega) (by omega) rfl
  refine ⟨64, ⟨sg_X g28.1, sg_N g28.1, by omega, rfl⟩, ?_⟩
  intro h29 e29
  have g29 := sk_al (n := 16) g28 (zr_mono z22 (by omega)) (by omega) e29
  refine ⟨⟨Or.inl (by rw [sg_N g29.1]; omega), rfl⟩, ?_⟩
  refine B6 (sg_fr g29.1 (by omega) (zr_mono z22 (by omega)) hr hi22) (by omega) (by omega) ⟨rfl, rfl, rfl, rfl, rfl⟩ ?_
  intro h30 c30
  refine ⟨rfl, ?_⟩
  have g30 := sk_bk g29 c30 (by omega)
  refine ⟨⟨by rw [sg_N g30.1]; omega, rfl⟩, ?_⟩
  intro h31 e31
  have g31 := sk_sr g30 e31 (by omega) (by omega) rfl
  refine ⟨69, ⟨sg_X g31.1, sg_N g31.1, by omega, rfl⟩, ?_⟩
  intro h32 e32
  have g32 := sk_al (n := 3) g31 (zr_mono z22 (by omega)) (by omega) e32
  refine ⟨⟨Or.inl (by rw [sg_N g32.1]; omega), rfl⟩, ?_⟩
  refine B7 (sg_fr g32.1 (by omega) (zr_mono z22 (by omega)) hr hi22) ?_
  intro h33 c33
  refine ⟨rfl, ?_⟩
  have g33 := sk_bk g32 c33 (by omega)
  refine ⟨⟨by rw [sg_N g33.1]; omega, rfl⟩, ?_⟩
  intro h34 e34
  have g34 := sk_sr g33 e34 (by omega) (by omega) rfl
  refine ⟨271, ⟨sg_X g34.1, sg_N g34.1, by omega, rfl⟩, ?_⟩
  intro h35 e35
  have g35 := sk_al (n := 6) g34 (zr_mono z22 (by omega)) (by omega) e35
  refine ⟨⟨Or.inl (by rw [sg_N g35.1]; omega), rfl⟩, ?_⟩
  refine B8 (sg_fr g35.1 (by omega) (zr_mono z22 (by omega)) hr hi22) (by omega) (by omega) ⟨rfl, rfl⟩ ?_
  intro h36 c36
  refine ⟨rfl, ?_⟩
  have g36 := sk_bk g35 c36 (by omega)
  refine ⟨⟨by rw [sg_N g36.1]; omega, rfl⟩, ?_⟩
  intro h37 e37
  have g37 := sk_sr g36 e37 (by omega) (by omega) rfl
  refine ⟨273, ⟨sg_X g37.1, sg_N g37.1, by omega, rfl⟩, ?_⟩
  intro h38 e38
  have g38 := sk_al (n := 7) g37 (zr_mono z22 (by omega)) (by omega) e38
  refine ⟨4, ⟨⟨Or.inl (by rw [sg_N g38.1]; omega), rfl⟩, g38.1.2.2.2.1 1 1 (by repeat (first | exact Or.inl ⟨rfl, Or.inr (Or.inl rfl)⟩ | apply Or.inl)) (by decide) (by decide)⟩, ?_⟩
  refine ⟨⟨Or.inl (by rw [sg_N g38.1]; omega), rfl⟩, ?_⟩
  refine B9 (sg_fr g38.1 (by omega) (zr_mono z22 (by omega)) hr hi22) ?_
  intro h39 c39
  refine ⟨rfl, ?_⟩
  have g39 := sk_bk g38 c39 (by omega)
  refine ⟨⟨by rw [sg_N g39.1]; omega, rfl⟩, ?_⟩
  intro h40 e40
  have g40 := sk_sr g39 e40 (by omega) (by omega) rfl
  refine H _ (sg_fin g40.1 (fun o j h1 h2 h3 h4 => ?_))
  skip
  by_cases e : o = 1
  · subst e
    have z := rf0 rfl h4
    rcases z with rfl | rfl | rfl | rfl | rfl | rfl | rfl | rfl | rfl | rfl | rfl | rfl | rfl <;> repeat (first | exact Or.inr ⟨rfl, rfl⟩ | exact Or.inl ⟨rfl, by omega⟩ | apply Or.inl)
  by_cases e2 : o = 16
  · subst e2
    have h3 : j < 4 := h3
    repeat (first | exact Or.inr (Or.inl ⟨rfl, h3⟩) | apply Or.inl)
  by_cases e3 : o = 17
  · subst e3
    have h3 : j < 4 := h3
    repeat (first | exact Or.inr (Or.inr (Or.inl ⟨rfl, h3⟩)) | apply Or.inl)
  have z : (2 ≤ o ∧ o < 16) ∨ (18 ≤ o ∧ o < 46) ∨ (46 ≤ o ∧ o < 46 + 5) ∨ (51 ≤ o ∧ o < 51 + 3) ∨ (54 ≤ o ∧ o < 54 + 5) ∨ (59 ≤ o ∧ o < 59 + 5) ∨ (64 ≤ o ∧ o < 64 + 5) ∨ (69 ≤ o ∧ o < 271) ∨ (271 ≤ o ∧ o < 271 + 2) ∨ (273 ≤ o ∧ o < 320) := by omega
  rcases z with z | z | z | z | z | z | z | z | z | z <;> repeat (first | exact Or.inr z | exact Or.inr (Or.inr (Or.inr (Or.inl z))) | exact Or.inr (Or.inr (Or.inr (Or.inr z))) | apply Or.inl)
theorem rf10 {q j : Nat} (k : (ajSh q).1 = 10) (h : ajRf q j ≠ 0) : j = 1 ∨ j = 2 ∨ j = 3 ∨ j = 4 ∨ j = 15 ∨ j = 16 ∨ j = 18 ∨ j = 19 ∨ j = 20 ∨ j = 21 ∨ j = 22 ∨ j = 23 ∨ j = 28 ∨ j = 29 ∨ j = 32 ∨ j = 33 ∨ j = 34 ∨ j = 35 ∨ j = 38 ∨ j = 41 ∨ j = 44 ∨ j = 46 ∨ j = 47 := by
  unfold ajRf at h
  rw [k] at h
  split at h <;> omega
/-- the reference as it begins -/
def bM (b : ajH) : ajH := ajSI (ajSI b 320 30 (-1)) 320 31 3
theorem sh_m : ∀ o < 342, 321 ≤ o → 100 ≤ (ajSh o).1 ∧ (ajSh o).1 ≤ 102 := by decide +kernel
set_option maxRecDepth 100000 in
theorem B138 {d : Nat} {h : ajH} {Q : Option Value → ajH → Prop} (f : Frh h 320) (H : ∀ h', Sg (bM h) h' 320 342 (ajW h + 26908) (fun o _ => 320 ≤ o ∧ o < 342) → Q none h') : ajEv d 138 0 [.ref 320] [] h Q := by
  have z0 := f.2.2.1
  have hr := f.2.2.2.1
  have hi := f.2.2.2.2
  have g0 := sk_0 f
  refine C138_0 ?_
  refine ⟨ajOne_of (by omega) (by omega), ?_⟩
  refine ⟨321, ⟨sg_X g0.1, sg_N g0.1, by omega, rfl⟩, ?_⟩
  intro h1 e1
  have g1 := sk_al (n := 240) g0 (zr_mono z0 (by omega)) (by omega) e1
  refine ⟨⟨by rw [sg_N g1.1]; omega, rfl⟩, ?_⟩
  intro h2 e2
  have g2 := sk_sr g1 e2 (by omega) (by omega) rfl
  refine ⟨322, ⟨sg_X g2.1, sg_N g2.1, by omega, rfl⟩, ?_⟩
  intro h3 e3
  have g3 := sk_al (n := 960) g2 (zr_mono z0 (by omega)) (by omega) e3
  refine ⟨⟨by rw [sg_N g3.1]; omega, rfl⟩, ?_⟩
  intro h4 e4
  have g4 := sk_sr g3 e4 (by omega) (by omega) rfl
  refine ⟨323, ⟨sg_X g4.1, sg_N g4.1, by omega, rfl⟩, ?_⟩
  intro h5 e5
  have g5 := sk_al (n := 4) g4 (zr_mono z0 (by omega)) (by omega) e5
  refine ⟨⟨by rw [sg_N g5.1]; omega, rfl⟩, ?_⟩
  intro h6 e6
  have g6 := sk_sr g5 e6 (by omega) (by omega) rfl
  refine ⟨324, ⟨sg_X g6.1, sg_N g6.1, by omega, rfl⟩, ?_⟩
  intro h7 e7
  have g7 := sk_al (n := 128) g6 (zr_mono z0 (by omega)) (by omega) e7
  refine ⟨⟨by rw [sg_N g7.1]; omega, rfl⟩, ?_⟩
  intro h8 e8
  have g8 := sk_sr g7 e8 (by omega) (by omega) rfl
  refine ⟨321, ⟨⟨Or.inl (by rw [sg_N g8.1]; omega), rfl⟩, g8.1.2.2.2.1 320 1 (by repeat (first | exact Or.inr ⟨rfl, rfl⟩ | apply Or.inl)) (by decide) (by decide)⟩, ?_⟩
  refine ⟨⟨by rw [sg_N g8.1]; omega, rfl⟩, ?_⟩
  intro h9 e9
  have g9 := sk_sx g8 e9 (by omega) (by omega) rfl
  refine ⟨⟨by rw [sg_N g9.1]; omega, rfl⟩, ?_⟩
  intro h10 e10
  have g10 := sk_sr g9 e10 (by omega) (by omega) rfl
  refine ⟨⟨by rw [sg_N g10.1]; omega, rfl⟩, ?_⟩
  intro h11 e11
  have g11 := sk_sr g10 e11 (by omega) (by omega) rfl
  refine ⟨325, ⟨sg_X g11.1, sg_N g11.1, by omega, rfl⟩, ?_⟩
  intro h12 e12
  have g12 := sk_al (n := 4) g11 (zr_mono z0 (by omega)) (by omega) e12
  refine ⟨⟨by rw [sg_N g12.1]; omega, rfl⟩, ?_⟩
  intro h13 e13
  have g13 := sk_sr g12 e13 (by omega) (by omega) rfl
  refine ⟨326, ⟨sg_X g13.1, sg_N g13.1, by omega, rfl⟩, ?_⟩
  intro h14 e14
  have g14 := sk_al (n := 4) g13 (zr_mono z0 (by omega)) (by omega) e14
  refine ⟨⟨by rw [sg_N g14.1]; omega, rfl⟩, ?_⟩
  intro h15 e15
  have g15 := sk_sr g14 e15 (by omega) (by omega) rfl
  refine ⟨327, ⟨sg_X g15.1, sg_N g15.1, by omega, rfl⟩, ?_⟩
  intro h16 e16
  have g16 := sk_al (n := 24) g15 (zr_mono z0 (by omega)) (by omega) e16
  refine ⟨⟨by rw [sg_N g16.1]; omega, rfl⟩, ?_⟩
  intro h17 e17
  have g17 := sk_sr g16 e17 (by omega) (by omega) rfl
  refine ⟨328, ⟨sg_X g17.1, sg_N g17.1, by omega, rfl⟩, ?_⟩
  intro h18 e18
  have g18 := sk_al (n := 24) g17 (zr_mono z0 (by omega)) (by omega) e18
  refine ⟨⟨by rw [sg_N g18.1]; omega, rfl⟩, ?_⟩
  intro h19 e19
  have g19 := sk_sr g18 e19 (by omega) (by omega) rfl
  refine ⟨329, ⟨sg_X g19.1, sg_N g19.1, by omega, rfl⟩, ?_⟩
  intro h20 e20
  have g20 := sk_al (n := 160) g19 (zr_mono z0 (by omega)) (by omega) e20
  refine ⟨⟨by rw [sg_N g20.1]; omega, rfl⟩, ?_⟩
  intro h21 e21
  have g21 := sk_sr g20 e21 (by omega) (by omega) rfl
  refine ⟨330, ⟨sg_X g21.1, sg_N g21.1, by omega, rfl⟩, ?_⟩
  intro h22 e22
  have g22 := sk_al (n := 5) g21 (zr_mono z0 (by omega)) (by omega) e22
  refine ⟨⟨by rw [sg_N g22.1]; omega, rfl⟩, ?_⟩
  intro h23 e23
  have g23 := sk_sr g22 e23 (by omega) (by omega) rfl
  refine ⟨331, ⟨sg_X g23.1, sg_N g23.1, by omega, rfl⟩, ?_⟩
  intro h24 e24
  have g24 := sk_al (n := 203) g23 (zr_mono z0 (by omega)) (by omega) e24
  refine ⟨⟨by rw [sg_N g24.1]; omega, rfl⟩, ?_⟩
  intro h25 e25
  have g25 := sk_sr g24 e25 (by omega) (by omega) rfl
  refine ⟨332, ⟨sg_X g25.1, sg_N g25.1, by omega, rfl⟩, ?_⟩
  intro h26 e26
  have g26 := sk_al (n := 203) g25 (zr_mono z0 (by omega)) (by omega) e26
  refine ⟨⟨by rw [sg_N g26.1]; omega, rfl⟩, ?_⟩
  intro h27 e27
  have g27 := sk_sr g26 e27 (by omega) (by omega) rfl
  refine ⟨⟨by rw [sg_N g27.1]; omega, rfl⟩, ?_⟩
  intro h28 e28
  have g28 := sk_si g27 e28
  have z28 := zr_si (f := 30) (v := (-1)) z0 (by omega : 320 < _)
  have hi28 : ajI (ajSI _ 320 30 (-1)) 1010 0 = 0 := (show _ from hi)
  refine ⟨⟨by rw [sg_N g28.1]; omega, rfl⟩, ?_⟩
  intro h29 e29
  have g29 := sk_si g28 e29
  have z29 := zr_si (f := 31) (v := (3)) z28 (by omega : 320 < _)
  have hi29 : ajI (ajSI _ 320 31 (3)) 1010 0 = 0 := (show _ from hi28)
  refine ⟨333, ⟨sg_X g29.1, sg_N g29.1, by omega, rfl⟩, ?_⟩
  intro h30 e30
  have g30 := sk_al (n := 8) g29 (zr_mono z29 (by omega)) (by omega) e30
  refine ⟨⟨by rw [sg_N g30.1]; omega, rfl⟩, ?_⟩
  intro h31 e31
  have g31 := sk_sr g30 e31 (by omega) (by omega) rfl
  refine ⟨334, ⟨sg_X g31.1, sg_N g31.1, by omega, rfl⟩, ?_⟩
  intro h32 e32
  have g32 := sk_al (n := 8191) g31 (zr_mono z29 (by omega)) (by omega) e32
  refine ⟨⟨by rw [sg_N g32.1]; omega, rfl⟩, ?_⟩
  intro h33 e33
  have g33 := sk_sr g32 e33 (by omega) (by omega) rfl
  refine ⟨335, ⟨sg_X g33.1, sg_N g33.1, by omega, rfl⟩, ?_⟩
  intro h34 e34
  have g34 := sk_al (n := 8191) g33 (zr_mono z29 (by omega)) (by omega) e34
  refine ⟨⟨by rw [sg_N g34.1]; omega, rfl⟩, ?_⟩
  intro h35 e35
  have g35 := sk_sr g34 e35 (by omega) (by omega) rfl
  refine ⟨336, ⟨sg_X g35.1, sg_N g35.1, by omega, rfl⟩, ?_⟩
  intro h36 e36
  have g36 := sk_al (n := 8) g35 (zr_mono z29 (by omega)) (by omega) e36
  refine ⟨⟨by rw [sg_N g36.1]; omega, rfl⟩, ?_⟩
  intro h37 e37
  have g37 := sk_sr g36 e37 (by omega) (by omega) rfl
  refine ⟨337, ⟨sg_X g37.1, sg_N g37.1, by omega, rfl⟩, ?_⟩
  intro h38 e38
  have g38 := sk_al (n := 8120) g37 (zr_mono z29 (by omega)) (by omega) e38
  refine ⟨⟨by rw [sg_N g38.1]; omega, rfl⟩, ?_⟩
  intro h39 e39
  have g39 := sk_sr g38 e39 (by omega) (by omega) rfl
  refine ⟨338, ⟨sg_X g39.1, sg_N g39.1, by omega, rfl⟩, ?_⟩
  intro h40 e40
  have g40 := sk_al (n := 198) g39 (zr_mono z29 (by omega)) (by omega) e40
  refine ⟨⟨by rw [sg_N g40.1]; omega, rfl⟩, ?_⟩
  intro h41 e41
  have g41 := sk_sr g40 e41 (by omega) (by omega) rfl
  refine ⟨339, ⟨sg_X g41.1, sg_N g41.1, by omega, rfl⟩, ?_⟩
  intro h42 e42
  have g42 := sk_al (n := 20) g41 (zr_mono z29 (by omega)) (by omega) e42
  refine ⟨⟨by rw [sg_N g42.1]; omega, rfl⟩, ?_⟩
  intro h43 e43
  have g43 := sk_sr g42 e43 (by omega) (by omega) rfl
  refine ⟨340, ⟨sg_X g43.1, sg_N g43.1, by omega, rfl⟩, ?_⟩
  intro h44 e44
  have g44 := sk_al (n := 10) g43 (zr_mono z29 (by omega)) (by omega) e44
  refine ⟨⟨by rw [sg_N g44.1]; omega, rfl⟩, ?_⟩
  intro h45 e45
  have g45 := sk_sr g44 e45 (by omega) (by omega) rfl
  refine ⟨341, ⟨sg_X g45.1, sg_N g45.1, by omega, rfl⟩, ?_⟩
  intro h46 e46
  have g46 := sk_al (n := 203) g45 (zr_mono z29 (by omega)) (by omega) e46
  refine ⟨⟨by rw [sg_N g46.1]; omega, rfl⟩, ?_⟩
  intro h47 e47
  have g47 := sk_sr g46 e47 (by omega) (by omega) rfl
  refine H _ (sg_fin g47.1 (fun o j h1 h2 h3 h4 => ?_))
  by_cases e : o = 320
  · subst e
    have z := rf10 rfl h4
    rcases z with rfl | rfl | rfl | rfl | rfl | rfl | rfl | rfl | rfl | rfl | rfl | rfl | rfl | rfl | rfl | rfl | rfl | rfl | rfl | rfl | rfl | rfl | rfl <;> repeat (first | exact Or.inr ⟨rfl, rfl⟩ | apply Or.inl)
  · exact absurd (ajRf_arr (sh_m o (by omega) (by omega))) h4
theorem sg_ch {b h h1 : ajH} {w w' : Nat} {D : Nat → Nat → Prop} (g : Sg b h 1 2 w D) (c : Sg (bS h) h1 1 320 (ajW h + w') (fun o _ => 1 ≤ o ∧ o < 320)) : Sg (bS b) h1 1 320 (w + w') (fun o _ => 1 ≤ o ∧ o < 320) := by
  refine ⟨?_, fun o j => (c.2.1 o j).trans ?_, fun o j => (c.2.2.1 o j).trans (g.2.2.1 o j), c.2.2.2.1, fun o j hn => (c.2.2.2.2 o j hn).trans (g.2.2.2.2 o j (by omega))⟩
  · rw [c.1, sg_W g]
    show (320, 0, w + w', ajQ h) = _
    rw [sg_Q g]
    rfl
  · unfold bS
    rw [ajI_SI, ajI_SI, ajI_SI, ajI_SI, g.2.1]
theorem sg_ch2 {b h h1 : ajH} {w w' : Nat} {D : Nat → Nat → Prop} (g : Sg b h 1 321 w D) (c : Sg (bM h) h1 320 342 (ajW h + w') (fun o _ => 320 ≤ o ∧ o < 342)) (hD : ∀ o j, 1 ≤ o → o < 320 → D o j) : Sg (bM b) h1 1 342 (w + w') (fun o _ => 1 ≤ o ∧ o < 342) := by
  refine ⟨?_, fun o j => (c.2.1 o j).trans ?_, fun o j => (c.2.2.1 o j).trans (g.2.2.1 o j), fun o j hd h2 h3 => ?_, fun o j hn => (c.2.2.2.2 o j (by omega)).trans (g.2.2.2.2 o j (by omega))⟩
  · rw [c.1, sg_W g]
    show (342, 0, w + w', ajQ h) = _
    rw [sg_Q g]
    rfl
  · unfold bM
    rw [ajI_SI, ajI_SI, ajI_SI, ajI_SI, g.2.1]
  · by_cases e : 320 ≤ o
    · exact c.2.2.2.1 o j ⟨e, hd.2⟩ h2 h3
    · exact (c.2.2.2.2 o j (by omega)).trans (g.2.2.2.1 o j (hD o j hd.1 (by omega)) h2 h3)
/-- the world at the law's loop -/
def bL (b : ajH) : ajH := bM (bS b)
theorem B263 {d : Nat} {b h : ajH} {Q : Option Value → ajH → Prop} (h1 : h.1 = (1, 0, 0, ajQ h)) (zr : Zr h 1) (hr : ajR h 1010 1 = 1030) (hi : ajI h 1010 0 = 0)
    (H : ∀ h', Sg (bL h) h' 1 343 34414 (fun o _ => 1 ≤ o ∧ o < 343) → ajEv (d + 5) 263 23 [.ref 1100, .ref 1, .ref 320, .ref 342, .int (nI 0), ajU, ajU] [] h' Q) : ajEv (d + 5) 263 0 [.ref 1100, ajU, ajU, ajU, ajU, ajU, ajU] [] h Q := by
  have g0 : Sg h h 1 1 0 (fun _ _ => False) := ⟨h1, fun _ _ => rfl, fun _ _ => rfl, fun _ _ z => z.elim, fun _ _ _ => rfl⟩
  have z0 := zr
  refine C263_0 ?_
  refine ⟨1, ⟨sg_X g0, sg_N g0, by omega, rfl⟩, ?_⟩
  intro h1 e1
  have g1 := sg_al (n := 18) (D' := (fun o j => False)) g0 (zr_mono z0 (by omega)) (by omega) e1 (fun o j z => (show False from z).elim)
  refine ⟨⟨Or.inl (by rw [sg_N g1]; omega), rfl⟩, ?_⟩
  refine B0 (d := d) (sg_fr g1 (by omega) (zr_mono z0 (by omega)) hr hi) ?_
  intro h2 c2
  refine ⟨rfl, ?_⟩
  have g2 := sg_ch g1 c2
  have z2 : Zr (bS h) 320 := zr_si (zr_si (zr_mono z0 (by omega)) (by omega)) (by omega)
  refine ⟨320, ⟨sg_X g2, sg_N g2, by omega, rfl⟩, ?_⟩
  intro h3 e3
  have g3 := sg_al (n := 49) (D' := (fun o j => 1 ≤ o ∧ o < 320)) g2 z2 (by omega) e3 (fun o j z => by omega)
  refine ⟨⟨Or.inl (by rw [sg_N g3]; omega), rfl⟩, ?_⟩
  refine B138 (sg_fr g3 (by omega) (zr_mono z2 (by omega)) hr hi) ?_
  intro h4 c4
  refine ⟨rfl, ?_⟩
  have g4 := sg_ch2 g3 c4 (fun o j z1 z2 => ⟨z1, z2⟩)
  have z4 : Zr (bL h) 342 := zr_si (zr_si (zr_mono z2 (by omega)) (by omega)) (by omega)
  refine ⟨342, ⟨sg_X g4, sg_N g4, by omega, rfl⟩, ?_⟩
  intro h5 e5
  have g5 := sg_al (n := 1) (D' := (fun o j => 1 ≤ o ∧ o < 342)) g4 z4 (by omega) e5 (fun o j z => by omega)
  exact H h5 (sg_fin g5 (fun o j h1 h2 h3 h4 => by
    by_cases e : o = 342
    · subst e; exact absurd (ajRf_arr (by decide)) h4
    · omega))
