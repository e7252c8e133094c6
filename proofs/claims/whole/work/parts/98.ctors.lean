/-! The constructors lay the world (printed by wip/gen/ctor.py). -/
def Zr (b : ajH) (k : Nat) : Prop := ∀ o j, k ≤ o → o < 1000 → ajI b o j = 0 ∧ ajL b o j = 0
theorem zr_mono {b : ajH} {k k' : Nat} (z : Zr b k) (h : k ≤ k') : Zr b k' := fun o j h1 h2 => z o j (by omega) h2
/-- a heap grown out of b: cells q .. k - 1 are new, so many slots, the ints and longs are those of b, and where D says so the references are as they must be -/
def Sg (b h : ajH) (q k w : Nat) (D : Nat → Nat → Prop) : Prop := h.1 = (k, 0, w, ajQ b) ∧ (∀ o j, ajI h o j = ajI b o j) ∧ (∀ o j, ajL h o j = ajL b o j) ∧ (∀ o j, D o j → j < (ajSh o).2 → ajRf o j ≠ 0 → ajR h o j = ajRf o j) ∧ ∀ o j, ¬ (q ≤ o ∧ o < k) → ajR h o j = ajR b o j
/-- a fresh object q, nothing behind it yet -/
def Frh (h : ajH) (q : Nat) : Prop := h.1.1 = q + 1 ∧ h.1.2.1 = 0 ∧ Zr h (q + 1) ∧ ajR h 1010 1 = 1030 ∧ ajI h 1010 0 = 0
theorem sg_0 {h : ajH} {q : Nat} (f : Frh h q) : Sg h h q (q + 1) (ajW h) (fun _ _ => False) := by
  refine ⟨?_, fun _ _ => rfl, fun _ _ => rfl, fun _ _ z => z.elim, fun _ _ _ => rfl⟩
  obtain ⟨f1, f2, _⟩ := f
  show h.1 = (q + 1, 0, h.1.2.2.1, h.1.2.2.2)
  rw [← f1, ← f2]
theorem sg_N {b h : ajH} {q k w : Nat} {D : Nat → Nat → Prop} (g : Sg b h q k w D) : ajN h = k := by
  show h.1.1 = k
  rw [g.1]
theorem sg_X {b h : ajH} {q k w : Nat} {D : Nat → Nat → Prop} (g : Sg b h q k w D) : ajX h = 0 := by
  show h.1.2.1 = 0
  rw [g.1]
theorem sg_W {b h : ajH} {q k w : Nat} {D : Nat → Nat → Prop} (g : Sg b h q k w D) : ajW h = w := by
  show h.1.2.2.1 = w
  rw [g.1]
theorem sg_Q {b h : ajH} {q k w : Nat} {D : Nat → Nat → Prop} (g : Sg b h q k w D) : ajQ h = ajQ b := by
  show h.1.2.2.2 = ajQ b
  rw [g.1]
theorem sg_al {b h h1 : ajH} {q k w n : Nat} {D D' : Nat → Nat → Prop} (g : Sg b h q k w D) (z : Zr b k) (k9 : q ≤ k ∧ k < 1000) (e : h1 = ajAl h n) (hD : ∀ o j, D' o j → D o j ∧ o < k) : Sg b h1 q (k + 1) (w + n) D' := by
  have hN := sg_N g
  subst e
  refine ⟨?_, fun o j => ?_, fun o j => ?_, fun o j hd h2 h3 => ?_, fun o j hn => ?_⟩
  · show (ajN h + 1, ajX h, ajW h + n, ajQ h) = (k + 1, 0, w + n, ajQ b)
    rw [hN, sg_X g, sg_W g, sg_Q g]
  · show (if o = ajN h then 0 else ajI h o j) = ajI b o j
    by_cases e : o = ajN h
    · rw [if_pos e, (z o j (by omega) (by omega)).1]
    · rw [if_neg e]; exact g.2.1 o j
  · show (if o = ajN h then 0 else ajL h o j) = ajL b o j
    by_cases e : o = ajN h
    · rw [if_pos e, (z o j (by omega) (by omega)).2]
    · rw [if_neg e]; exact g.2.2.1 o j
  · have d := hD o j hd
    show (if o = ajN h then 0 else ajR h o j) = ajRf o j
    rw [if_neg (by omega)]
    exact g.2.2.2.1 o j d.1 h2 h3
  · show (if o = ajN h then 0 else ajR h o j) = ajR b o j
    rw [if_neg (by omega)]
    exact g.2.2.2.2 o j (by omega)
theorem sg_sr {b h h1 : ajH} {q k w a f v : Nat} {D D' : Nat → Nat → Prop} (g : Sg b h q k w D) (e : h1 = ajSR h a f v) (a1 : q ≤ a) (a2 : a < k) (hD : ∀ o j, D' o j → D o j ∨ o = a ∧ j = f) (hv : v = ajRf a f) : Sg b h1 q k w D' := by
  subst e
  refine ⟨g.1, g.2.1, g.2.2.1, fun o j hd h2 h3 => ?_, fun o j hn => ?_⟩
  · show (if o = a ∧ j = f then v else ajR h o j) = ajRf o j
    by_cases e : o = a ∧ j = f
    · rw [if_pos e, hv, e.1, e.2]
    · rw [if_neg e]
      rcases hD o j hd with z | z
      · exact g.2.2.2.1 o j z h2 h3
      · exact absurd z e
  · show (if o = a ∧ j = f then v else ajR h o j) = ajR b o j
    rw [if_neg (by omega)]
    exact g.2.2.2.2 o j hn
/-- a reference that is no part of the shape -/
theorem sg_sx {b h h1 : ajH} {q k w a f v : Nat} {D : Nat → Nat → Prop} (g : Sg b h q k w D) (e : h1 = ajSR h a f v) (a1 : q ≤ a) (a2 : a < k) (hv : ajRf a f = 0) : Sg b h1 q k w D := by
  subst e
  refine ⟨g.1, g.2.1, g.2.2.1, fun o j hd h2 h3 => ?_, fun o j hn => ?_⟩
  · show (if o = a ∧ j = f then v else ajR h o j) = ajRf o j
    rw [if_neg (by rintro ⟨rfl, rfl⟩; exact h3 hv)]
    exact g.2.2.2.1 o j hd h2 h3
  · show (if o = a ∧ j = f then v else ajR h o j) = ajR b o j
    rw [if_neg (by omega)]
    exact g.2.2.2.2 o j hn
theorem sg_si {b h h1 : ajH} {q k w a f : Nat} {v : Int32} {D : Nat → Nat → Prop} (g : Sg b h q k w D) (e : h1 = ajSI h a f v) : Sg (ajSI b a f v) h1 q k w D := by
  subst e
  refine ⟨g.1, fun o j => ?_, g.2.2.1, g.2.2.2.1, g.2.2.2.2⟩
  show (if o = a ∧ j = f then v else ajI h o j) = (if o = a ∧ j = f then v else ajI b o j)
  rw [g.2.1 o j]
theorem sg_bk {b h h1 : ajH} {q0 q k w w' : Nat} {D D' : Nat → Nat → Prop} (g : Sg b h q0 (q + 1) w D) (c : Sg h h1 q k (ajW h + w') (fun o _ => q ≤ o ∧ o < k)) (hq : q0 ≤ q ∧ q < k) (hD : ∀ o j, D' o j → D o j ∨ q ≤ o ∧ o < k) : Sg b h1 q0 k (w + w') D' := by
  refine ⟨?_, fun o j => (c.2.1 o j).trans (g.2.1 o j), fun o j => (c.2.2.1 o j).trans (g.2.2.1 o j), fun o j hd h2 h3 => ?_, fun o j hn => ?_⟩
  · rw [c.1, sg_W g, sg_Q g]
  · by_cases e : q ≤ o ∧ o < k
    · exact c.2.2.2.1 o j e h2 h3
    · rw [c.2.2.2.2 o j e]
      rcases hD o j hd with z | z
      · exact g.2.2.2.1 o j z h2 h3
      · exact absurd z e
  · rw [c.2.2.2.2 o j (by omega)]
    exact g.2.2.2.2 o j (by omega)
theorem sg_fin {b h : ajH} {q k w : Nat} {D : Nat → Nat → Prop} (g : Sg b h q k w D) (hD : ∀ o j, q ≤ o → o < k → j < (ajSh o).2 → ajRf o j ≠ 0 → D o j) : Sg b h q k w (fun o _ => q ≤ o ∧ o < k) :=
  ⟨g.1, g.2.1, g.2.2.1, fun o j hd h2 h3 => g.2.2.2.1 o j (hD o j hd.1 hd.2 h2 h3) h2 h3, g.2.2.2.2⟩
theorem sg_fr {b h : ajH} {q0 q w : Nat} {D : Nat → Nat → Prop} (g : Sg b h q0 (q + 1) w D) (hq : q < 999) (z : Zr b (q + 1)) (r : ajR b 1010 1 = 1030) (i : ajI b 1010 0 = 0) : Frh h q :=
  ⟨sg_N g, sg_X g, fun o j h1 h2 => by rw [g.2.1, g.2.2.1]; exact z o j h1 h2, by rw [g.2.2.2.2 1010 1 (by omega)]; exact r, by rw [g.2.1]; exact i⟩
theorem ajOne_of {q : Nat} (h0 : 0 < q) (h1 : q < 1000) : ajOne [.ref q] = true := by
  show (Nat.blt 0 q && Nat.blt q 1000) = true
  rw [Bool.and_eq_true, Nat.blt_eq, Nat.blt_eq]
  exact ⟨h0, h1⟩
theorem ajOKu {h : ajH} {a c : Nat} (h1 : 1000 ≤ a) (h2 : (ajSh a).1 = c) : ajOK h a c := ⟨Or.inr h1, h2⟩
theorem ajRf_arr {o j : Nat} (h : 100 ≤ (ajSh o).1 ∧ (ajSh o).1 ≤ 102) : ajRf o j = 0 := by
  unfold ajRf
  have h : (ajSh o).1 = 100 ∨ (ajSh o).1 = 101 ∨ (ajSh o).1 = 102 := by omega
  rcases h with h | h | h <;> rw [h] <;> split <;> first | rfl | omega
/-- the length of the letters' text -/
theorem B250 {d : Nat} {h : ajH} {Q : Option Value → ajH → Prop} (hr : ajR h 1010 1 = 1030) (hi : ajI h 1010 0 = 0) (H : Q (some (.int 6)) h) : ajEv (d + 1) 250 0 [.ref 1010] [] h Q := by
  refine C250_0 ?_
  refine ⟨1030, ⟨ajOKu (by omega) rfl, hr⟩, ⟨Or.inr (by omega), by decide, by decide⟩, ajOKu (by omega) rfl, ?_⟩
  refine C251_0 ?_
  rw [if_neg (by decide), hi]
  refine ⟨ajOKu (by omega) rfl, rfl, ?_⟩
  refine ⟨_, rfl, ?_⟩
  rw [show (Int32.ofNat (ajLen h 1030)) = Int32.ofNat 6 from rfl]
  exact H
theorem rf1 {q j : Nat} (k : (ajSh q).1 = 1) (h : ajRf q j ≠ 0) : j = 0 := by
  unfold ajRf at h
  rw [k] at h
  split at h <;> omega
theorem rf1_0 {q : Nat} (k : (ajSh q).1 = 1) (hq : q = 2) : q + 1 = ajRf q 0 := by
  subst hq
  unfold ajRf
  rw [k] <;> rfl
theorem B1 {d q : Nat} {h : ajH} {Q : Option Value → ajH → Prop} (f : Frh h q) (q0 : 0 < q) (q9 : q = 2) (sh : ajSh q = (1, 4) ∧ ajSh (q + 1) = (100, 240))
    (H : ∀ h', Sg h h' q (q + 2) (ajW h + 240) (fun o _ => q ≤ o ∧ o < q + 2) → Q none h') : ajEv d 1 0 [.ref q] [] h Q := by
  obtain ⟨s0, s1⟩ := sh
  have kk : (ajSh q).1 = 1 := by rw [s0]
  have g0 := sg_0 f
  refine C1_0 ?_
  refine ⟨ajOne_of q0 (by omega), ?_⟩
  refine ⟨q + 1, ⟨sg_X g0, sg_N g0, by omega, s1⟩, ?_⟩
  intro h1 e1
  have g1 := sg_al (n := 240) (D' := (fun o j => False)) g0 (zr_mono f.2.2.1 (by omega)) (by omega) e1 (fun o j z => (show False from z).elim)
  refine ⟨⟨by rw [sg_N g1]; omega, kk⟩, ?_⟩
  intro h2 e2
  have g2 := sg_sr (D' := (fun o j => o = q ∧ (j = 0))) g1 e2 (by omega) (by omega) (fun o j z => by omega) (rf1_0 kk q9)
  refine H _ (sg_fin g2 (fun o j h1 h2 h3 h4 => ?_))
  by_cases e : o = q
  · subst e
    have := rf1 kk h4
    omega
  · exfalso
    have : o = q + 1 := by omega
    rcases this with rfl
    exact h4 (ajRf_arr (by rw [s1]; omega))
theorem rf2 {q j : Nat} (k : (ajSh q).1 = 2) (h : ajRf q j ≠ 0) : j = 1 ∨ j = 2 ∨ j = 3 ∨ j = 4 ∨ j = 5 := by
  unfold ajRf at h
  rw [k] at h
  split at h <;> omega
theorem rf2_1 {q : Nat} (k : (ajSh q).1 = 2) : q + 1 = ajRf q 1 := by
  unfold ajRf
  rw [k] <;> rfl
theorem rf2_2 {q : Nat} (k : (ajSh q).1 = 2) : q + 2 = ajRf q 2 := by
  unfold ajRf
  rw [k] <;> rfl
theorem rf2_3 {q : Nat} (k : (ajSh q).1 = 2) : q + 3 = ajRf q 3 := by
  unfold ajRf
  rw [k] <;> rfl
theorem rf2_4 {q : Nat} (k : (ajSh q).1 = 2) : q + 4 = ajRf q 4 := by
  unfold ajRf
  rw [k] <;> rfl
theorem rf2_5 {q : Nat} (k : (ajSh q).1 = 2) : q + 5 = ajRf q 5 := by
  unfold ajRf
  rw [k] <;> rfl
theorem B2 {d q : Nat} {h : ajH} {Q : Option Value → ajH → Prop} (f : Frh h q) (q0 : 0 < q) (q9 : q + 6 < 999) (sh : ajSh q = (2, 6) ∧ ajSh (q + 1) = (100, 4) ∧ ajSh (q + 2) = (100, 3) ∧ ajSh (q + 3) = (100, 8) ∧ ajSh (q + 4) = (100, 8) ∧ ajSh (q + 5) = (100, 8))
    (H : ∀ h', Sg h h' q (q + 6) (ajW h + 31) (fun o _ => q ≤ o ∧ o < q + 6) → Q none h') : ajEv d 2 0 [.ref q] [] h Q := by
  obtain ⟨s0, s1, s2, s3, s4, s5⟩ := sh
  have kk : (ajSh q).1 = 2 := by rw [s0]
  have g0 := sg_0 f
  refine C2_0 ?_
  refine ⟨ajOne_of q0 (by omega), ?_⟩
  refine ⟨⟨Or.inr (by omega), by decide, by decide⟩, ?_⟩
  rw [show (Int32.ofNat (ajLen h 1000)) = Int32.ofNat 4 from rfl]
  refine ⟨q + 1, ⟨sg_X g0, sg_N g0, by omega, s1⟩, ⟨by decide, by decide⟩, ?_⟩
  intro h1 e1
  have g1 := sg_al (n := 4) (D' := (fun o j => False)) g0 (zr_mono f.2.2.1 (by omega)) (by omega) e1 (fun o j z => (show False from z).elim)
  refine ⟨⟨by rw [sg_N g1]; omega, kk⟩, ?_⟩
  intro h2 e2
  have g2 := sg_sr (D' := (fun o j => o = q ∧ (j = 1))) g1 e2 (by omega) (by omega) (fun o j z => by omega) (rf2_1 kk)
  refine ⟨⟨Or.inr (by omega), by decide, by decide⟩, ?_⟩
  rw [show (Int32.ofNat (ajLen h2 1003)) = Int32.ofNat 3 from rfl]
  refine ⟨q + 2, ⟨sg_X g2, sg_N g2, by omega, s2⟩, ⟨by decide, by decide⟩, ?_⟩
  intro h3 e3
  have g3 := sg_al (n := 3) (D' := (fun o j => o = q ∧ (j = 1))) g2 (zr_mono f.2.2.1 (by omega)) (by omega) e3 (fun o j z => by omega)
  refine ⟨⟨by rw [sg_N g3]; omega, kk⟩, ?_⟩
  intro h4 e4
  have g4 := sg_sr (D' := (fun o j => o = q ∧ (j = 1 ∨ j = 2))) g3 e4 (by omega) (by omega) (fun o j z => by omega) (rf2_2 kk)
  refine ⟨q + 3, ⟨sg_X g4, sg_N g4, by omega, s3⟩, ?_⟩
  intro h5 e5
  have g5 := sg_al (n := 8) (D' := (fun o j => o = q ∧ (j = 1 ∨ j = 2))) g4 (zr_mono f.2.2.1 (by omega)) (by omega) e5 (fun o j z => by omega)
  refine ⟨⟨by rw [sg_N g5]; omega, kk⟩, ?_⟩
  intro h6 e6
  have g6 := sg_sr (D' := (fun o j => o = q ∧ (j = 1 ∨ j = 2 ∨ j = 3))) g5 e6 (by omega) (by omega) (fun o j z => by omega) (rf2_3 kk)
  refine ⟨q + 4, ⟨sg_X g6, sg_N g6, by omega, s4⟩, ?_⟩
  intro h7 e7
  have g7 := sg_al (n := 8) (D' := (fun o j => o = q ∧ (j = 1 ∨ j = 2 ∨ j = 3))) g6 (zr_mono f.2.2.1 (by omega)) (by omega) e7 (fun o j z => by omega)
  refine ⟨⟨by rw [sg_N g7]; omega, kk⟩, ?_⟩
  intro h8 e8
  have g8 := sg_sr (D' := (fun o j => o = q ∧ (j = 1 ∨ j = 2 ∨ j = 3 ∨ j = 4))) g7 e8 (by omega) (by omega) (fun o j z => by omega) (rf2_4 kk)
  refine ⟨q + 5, ⟨sg_X g8, sg_N g8, by omega, s5⟩, ?_⟩
  intro h9 e9
  have g9 := sg_al (n := 8) (D' := (fun o j => o = q ∧ (j = 1 ∨ j = 2 ∨ j = 3 ∨ j = 4))) g8 (zr_mono f.2.2.1 (by omega)) (by omega) e9 (fun o j z => by omega)
  refine ⟨⟨by rw [sg_N g9]; omega, kk⟩, ?_⟩
  intro h10 e10
  have g10 := sg_sr (D' := (fun o j => o = q ∧ (j = 1 ∨ j = 2 ∨ j = 3 ∨ j = 4 ∨ j = 5))) g9 e10 (by omega) (by omega) (fun o j z => by omega) (rf2_5 kk)
  refine H _ (sg_fin g10 (fun o j h1 h2 h3 h4 => ?_))
  by_cases e : o = q
  · subst e
    have := rf2 kk h4
    omega
  · exfalso
    have : o = q + 1 ∨ o = q + 2 ∨ o = q + 3 ∨ o = q + 4 ∨ o = q + 5 := by omega
    rcases this with rfl | rfl | rfl | rfl | rfl
    · exact h4 (ajRf_arr (by rw [s1]; omega))
    · exact h4 (ajRf_arr (by rw [s2]; omega))
    · exact h4 (ajRf_arr (by rw [s3]; omega))
    · exact h4 (ajRf_arr (by rw [s4]; omega))
    · exact h4 (ajRf_arr (by rw [s5]; omega))
theorem rf3 {q j : Nat} (k : (ajSh q).1 = 3) (h : ajRf q j ≠ 0) : j = 0 ∨ j = 1 ∨ j = 2 := by
  unfold ajRf at h
  rw [k] at h
  split at h <;> omega
theorem rf3_0 {q : Nat} (k : (ajSh q).1 = 3) : q + 1 = ajRf q 0 := by
  unfold ajRf
  rw [k] <;> rfl
theorem rf3_1 {q : Nat} (k : (ajSh q).1 = 3) : q + 2 = ajRf q 1 := by
  unfold ajRf
  rw [k] <;> rfl
theorem rf3_2 {q : Nat} (k : (ajSh q).1 = 3) : q + 3 = ajRf q 2 := by
  unfold ajRf
  rw [k] <;> rfl
theorem B3 {d q : Nat} {h : ajH} {Q : Option Value → ajH → Prop} (f : Frh h q) (q0 : 0 < q) (q9 : q + 4 < 999) (sh : ajSh q = (3, 4) ∧ ajSh (q + 1) = (100, 256) ∧ ajSh (q + 2) = (100, 64) ∧ ajSh (q + 3) = (100, 6))
    (H : ∀ h', Sg h h' q (q + 4) (ajW h + 326) (fun o _ => q ≤ o ∧ o < q + 4) → Q none h') : ajEv (d + 2) 3 0 [.ref q] [] h Q := by
  obtain ⟨s0, s1, s2, s3⟩ := sh
  have kk : (ajSh q).1 = 3 := by rw [s0]
  have g0 := sg_0 f
  refine C3_0 ?_
  refine ⟨ajOne_of q0 (by omega), ?_⟩
  refine ⟨q + 1, ⟨sg_X g0, sg_N g0, by omega, s1⟩, ?_⟩
  intro h1 e1
  have g1 := sg_al (n := 256) (D' := (fun o j => False)) g0 (zr_mono f.2.2.1 (by omega)) (by omega) e1 (fun o j z => (show False from z).elim)
  refine ⟨⟨by rw [sg_N g1]; omega, kk⟩, ?_⟩
  intro h2 e2
  have g2 := sg_sr (D' := (fun o j => o = q ∧ (j = 0))) g1 e2 (by omega) (by omega) (fun o j z => by omega) (rf3_0 kk)
  refine ⟨q + 2, ⟨sg_X g2, sg_N g2, by omega, s2⟩, ?_⟩
  intro h3 e3
  have g3 := sg_al (n := 64) (D' := (fun o j => o = q ∧ (j = 0))) g2 (zr_mono f.2.2.1 (by omega)) (by omega) e3 (fun o j z => by omega)
  refine ⟨⟨by rw [sg_N g3]; omega, kk⟩, ?_⟩
  intro h4 e4
  have g4 := sg_sr (D' := (fun o j => o = q ∧ (j = 0 ∨ j = 1))) g3 e4 (by omega) (by omega) (fun o j z => by omega) (rf3_1 kk)
  refine ⟨ajOKu (by omega) rfl, ?_⟩
  refine B250 ?_ ?_ ?_
  · rw [g4.2.2.2.2 1010 1 (by omega)]; exact f.2.2.2.1
  · rw [g4.2.1 1010 0]; exact f.2.2.2.2
  refine ⟨_, rfl, ?_⟩
  refine ⟨q + 3, ⟨sg_X g4, sg_N g4, by omega, s3⟩, ⟨by decide, by decide⟩, ?_⟩
  intro h5 e5
  have g5 := sg_al (n := 6) (D' := (fun o j => o = q ∧ (j = 0 ∨ j = 1))) g4 (zr_mono f.2.2.1 (by omega)) (by omega) e5 (fun o j z => by omega)
  refine ⟨⟨by rw [sg_N g5]; omega, kk⟩, ?_⟩
  intro h6 e6
  have g6 := sg_sr (D' := (fun o j => o = q ∧ (j = 0 ∨ j = 1 ∨ j = 2))) g5 e6 (by omega) (by omega) (fun o j z => by omega) (rf3_2 kk)
  refine H _ (sg_fin g6 (fun o j h1 h2 h3 h4 => ?_))
  by_cases e : o = q
  · subst e
    have := rf3 kk h4
    omega
  · exfalso
    have : o = q + 1 ∨ o = q + 2 ∨ o = q + 3 := by omega
    rcases this with rfl | rfl | rfl
    · exact h4 (ajRf_arr (by rw [s1]; omega))
    · exact h4 (ajRf_arr (by rw [s2]; omega))
    · exact h4 (ajRf_arr (by rw [s3]; omega))
theorem rf4 {q j : Nat} (k : (ajSh q).1 = 4) (h : ajRf q j ≠ 0) : j = 1 ∨ j = 2 := by
  unfold ajRf at h
  rw [k] at h
  split at h <;> omega
theorem rf4_1 {q : Nat} (k : (ajSh q).1 = 4) : q + 1 = ajRf q 1 := by
  unfold ajRf
  rw [k] <;> rfl
theorem rf4_2 {q : Nat} (k : (ajSh q).1 = 4) : q + 2 = ajRf q 2 := by
  unfold ajRf
  rw [k] <;> rfl
theorem B4 {d q : Nat} {h : ajH} {Q : Option Value → ajH → Prop} (f : Frh h q) (q0 : 0 < q) (q9 : q + 3 < 999) (sh : ajSh q = (4, 3) ∧ ajSh (q + 1) = (100, 16) ∧ ajSh (q + 2) = (100, 16))
    (H : ∀ h', Sg h h' q (q + 3) (ajW h + 32) (fun o _ => q ≤ o ∧ o < q + 3) → Q none h') : ajEv d 4 0 [.ref q] [] h Q := by
  obtain ⟨s0, s1, s2⟩ := sh
  have kk : (ajSh q).1 = 4 := by rw [s0]
  have g0 := sg_0 f
  refine C4_0 ?_
  refine ⟨ajOne_of q0 (by omega), ?_⟩
  refine ⟨q + 1, ⟨sg_X g0, sg_N g0, by omega, s1⟩, ?_⟩
  intro h1 e1
  have g1 := sg_al (n := 16) (D' := (fun o j => False)) g0 (zr_mono f.2.2.1 (by omega)) (by omega) e1 (fun o j z => (show False from z).elim)
  refine ⟨⟨by rw [sg_N g1]; omega, kk⟩, ?_⟩
  intro h2 e2
  have g2 := sg_sr (D' := (fun o j => o = q ∧ (j = 1))) g1 e2 (by omega) (by omega) (fun o j z => by omega) (rf4_1 kk)
  refine ⟨q + 2, ⟨sg_X g2, sg_N g2, by omega, s2⟩, ?_⟩
  intro h3 e3
  have g3 := sg_al (n := 16) (D' := (fun o j => o = q ∧ (j = 1))) g2 (zr_mono f.2.2.1 (by omega)) (by omega) e3 (fun o j z => by omega)
  refine ⟨⟨by rw [sg_N g3]; omega, kk⟩, ?_⟩
  intro h4 e4
  have g4 := sg_sr (D' := (fun o j => o = q ∧ (j = 1 ∨ j = 2))) g3 e4 (by omega) (by omega) (fun o j z => by omega) (rf4_2 kk)
  refine H _ (sg_fin g4 (fun o j h1 h2 h3 h4 => ?_))
  by_cases e : o = q
  · subst e
    have := rf4 kk h4
    omega
  · exfalso
    have : o = q + 1 ∨ o = q + 2 := by omega
    rcases this with rfl | rfl
    · exact h4 (ajRf_arr (by rw [s1]; omega))
    · exact h4 (ajRf_arr (by rw [s2]; omega))
theorem rf6 {q j : Nat} (k : (ajSh q).1 = 6) (h : ajRf q j ≠ 0) : j = 8 ∨ j = 9 ∨ j = 11 ∨ j = 12 := by
  unfold ajRf at h
  rw [k] at h
  split at h <;> omega
theorem rf6_8 {q : Nat} (k : (ajSh q).1 = 6) : q + 1 = ajRf q 8 := by
  unfold ajRf
  rw [k] <;> rfl
theorem rf6_9 {q : Nat} (k : (ajSh q).1 = 6) : q + 2 = ajRf q 9 := by
  unfold ajRf
  rw [k] <;> rfl
theorem rf6_11 {q : Nat} (k : (ajSh q).1 = 6) : q + 3 = ajRf q 11 := by
  unfold ajRf
  rw [k] <;> rfl
theorem rf6_12 {q : Nat} (k : (ajSh q).1 = 6) : q + 4 = ajRf q 12 := by
  unfold ajRf
  rw [k] <;> rfl
theorem B6 {d q : Nat} {h : ajH} {Q : Option Value → ajH → Prop} (f : Frh h q) (q0 : 0 < q) (q9 : q + 5 < 999) (sh : ajSh q = (6, 16) ∧ ajSh (q + 1) = (100, 8) ∧ ajSh (q + 2) = (100, 60) ∧ ajSh (q + 3) = (100, 8) ∧ ajSh (q + 4) = (100, 8))
    (H : ∀ h', Sg h h' q (q + 5) (ajW h + 84) (fun o _ => q ≤ o ∧ o < q + 5) → Q none h') : ajEv d 6 0 [.ref q] [] h Q := by
  obtain ⟨s0, s1, s2, s3, s4⟩ := sh
  have kk : (ajSh q).1 = 6 := by rw [s0]
  have g0 := sg_0 f
  refine C6_0 ?_
  refine ⟨ajOne_of q0 (by omega), ?_⟩
  refine ⟨q + 1, ⟨sg_X g0, sg_N g0, by omega, s1⟩, ?_⟩
  intro h1 e1
  have g1 := sg_al (n := 8) (D' := (fun o j => False)) g0 (zr_mono f.2.2.1 (by omega)) (by omega) e1 (fun o j z => (show False from z).elim)
  refine ⟨⟨by rw [sg_N g1]; omega, kk⟩, ?_⟩
  intro h2 e2
  have g2 := sg_sr (D' := (fun o j => o = q ∧ (j = 8))) g1 e2 (by omega) (by omega) (fun o j z => by omega) (rf6_8 kk)
  refine ⟨q + 2, ⟨sg_X g2, sg_N g2, by omega, s2⟩, ?_⟩
  intro h3 e3
  have g3 := sg_al (n := 60) (D' := (fun o j => o = q ∧ (j = 8))) g2 (zr_mono f.2.2.1 (by omega)) (by omega) e3 (fun o j z => by omega)
  refine ⟨⟨by rw [sg_N g3]; omega, kk⟩, ?_⟩
  intro h4 e4
  have g4 := sg_sr (D' := (fun o j => o = q ∧ (j = 8 ∨ j = 9))) g3 e4 (by omega) (by omega) (fun o j z => by omega) (rf6_9 kk)
  refine ⟨q + 3, ⟨sg_X g4, sg_N g4, by omega, s3⟩, ?_⟩
  intro h5 e5
  have g5 := sg_al (n := 8) (D' := (fun o j => o = q ∧ (j = 8 ∨ j = 9))) g4 (zr_mono f.2.2.1 (by omega)) (by omega) e5 (fun o j z => by omega)
  refine ⟨⟨by rw [sg_N g5]; omega, kk⟩, ?_⟩
  intro h6 e6
  have g6 := sg_sr (D' := (fun o j => o = q ∧ (j = 8 ∨ j = 9 ∨ j = 11))) g5 e6 (by omega) (by omega) (fun o j z => by omega) (rf6_11 kk)
  refine ⟨q + 4, ⟨sg_X g6, sg_N g6, by omega, s4⟩, ?_⟩
  intro h7 e7
  have g7 := sg_al (n := 8) (D' := (fun o j => o = q ∧ (j = 8 ∨ j = 9 ∨ j = 11))) g6 (zr_mono f.2.2.1 (by omega)) (by omega) e7 (fun o j z => by omega)
  refine ⟨⟨by rw [sg_N g7]; omega, kk⟩, ?_⟩
  intro h8 e8
  have g8 := sg_sr (D' := (fun o j => o = q ∧ (j = 8 ∨ j = 9 ∨ j = 11 ∨ j = 12))) g7 e8 (by omega) (by omega) (fun o j z => by omega) (rf6_12 kk)
  refine H _ (sg_fin g8 (fun o j h1 h2 h3 h4 => ?_))
  by_cases e : o = q
  · subst e
    have := rf6 kk h4
    omega
  · exfalso
    have : o = q + 1 ∨ o = q + 2 ∨ o = q + 3 ∨ o = q + 4 := by omega
    rcases this with rfl | rfl | rfl | rfl
    · exact h4 (ajRf_arr (by rw [s1]; omega))
    · exact h4 (ajRf_arr (by rw [s2]; omega))
    · exact h4 (ajRf_arr (by rw [s3]; omega))
    · exact h4 (ajRf_arr (by rw [s4]; omega))
theorem rf8 {q j : Nat} (k : (ajSh q).1 = 8) (h : ajRf q j ≠ 0) : j = 5 := by
  unfold ajRf at h
  rw [k] at h
  split at h <;> omega
theorem rf8_5 {q : Nat} (k : (ajSh q).1 = 8) (hq : q = 271) : q + 1 = ajRf q 5 := by
  subst hq
  unfold ajRf
  rw [k] <;> rfl
theorem B8 {d q : Nat} {h : ajH} {Q : Option Value → ajH → Prop} (f : Frh h q) (q0 : 0 < q) (q9 : q = 271) (sh : ajSh q = (8, 6) ∧ ajSh (q + 1) = (100, 20))
    (H : ∀ h', Sg h h' q (q + 2) (ajW h + 20) (fun o _ => q ≤ o ∧ o < q + 2) → Q none h') : ajEv d 8 0 [.ref q] [] h Q := by
  obtain ⟨s0, s1⟩ := sh
  have kk : (ajSh q).1 = 8 := by rw [s0]
  have g0 := sg_0 f
  refine C8_0 ?_
  refine ⟨ajOne_of q0 (by omega), ?_⟩
  refine ⟨q + 1, ⟨sg_X g0, sg_N g0, by omega, s1⟩, ?_⟩
  intro h1 e1
  have g1 := sg_al (n := 20) (D' := (fun o j => False)) g0 (zr_mono f.2.2.1 (by omega)) (by omega) e1 (fun o j z => (show False from z).elim)
  refine ⟨⟨by rw [sg_N g1]; omega, kk⟩, ?_⟩
  intro h2 e2
  have g2 := sg_sr (D' := (fun o j => o = q ∧ (j = 5))) g1 e2 (by omega) (by omega) (fun o j z => by omega) (rf8_5 kk q9)
  refine H _ (sg_fin g2 (fun o j h1 h2 h3 h4 => ?_))
  by_cases e : o = q
  · subst e
    have := rf8 kk h4
    omega
  · exfalso
    have : o = q + 1 := by omega
    rcases this with rfl
    exact h4 (ajRf_arr (by rw [s1]; omega))
