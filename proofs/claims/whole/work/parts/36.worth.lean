/-! The class reckons by a law's orders (printed by wip/src/36gen.py). -/
theorem wide_eq (a b : Int32) : (a.toInt64 = b.toInt64) = (a = b) := by
  refine propext ⟨fun h => ?_, fun h => by rw [h]⟩
  have h1 := congrArg Int64.toInt h
  rw [Int32.toInt_toInt64, Int32.toInt_toInt64] at h1
  exact Int32.toInt_inj.mp h1
theorem wide_lt (a b : Int32) : (a.toInt64 < b.toInt64) = (a < b) := by
  rw [Int64.lt_iff_toInt_lt, Int32.lt_iff_toInt_lt, Int32.toInt_toInt64, Int32.toInt_toInt64]
theorem S77 {d : Nat} {h : ajH} {Q : Option Value → ajH → Prop} {x v w : Int32} (hs : ajShp h) (hx : x = 43 ∨ x = 45 ∨ x = 42 ∨ x = 47 ∨ x = 61 ∨ x = 60 ∨ x = 62 ∨ (x = 38 ∨ x = 124) ∧ (v = 0 ∨ v = 1) ∧ (w = 0 ∨ w = 1)) (H : Q (some (.int (rk x v w))) h) : ajEv d 77 0 [.int x, .long v.toInt64, ajU, .long w.toInt64, ajU, ajU, ajU] [] h Q := by
  refine W77_0 hs ?_
  rcases hx with rfl | rfl | rfl | rfl | rfl | rfl | rfl | ⟨hx, hv, hw⟩
  · repeat rw [if_neg (by decide)]
    rw [if_pos (by decide)]
    refine W77_116 hs ?_
    refine W77_219 hs ?_
    exact H
  · repeat rw [if_neg (by decide)]
    rw [if_pos (by decide)]
    refine W77_124 hs ?_
    refine W77_219 hs ?_
    exact H
  · repeat rw [if_neg (by decide)]
    rw [if_pos (by decide)]
    refine W77_132 hs ?_
    refine W77_219 hs ?_
    exact H
  · repeat rw [if_neg (by decide)]
    rw [if_pos (by decide)]
    refine W77_140 hs ?_
    rw [rk_47] at H
    by_cases e : w.toInt64 = 0
    · rw [if_neg (fun z => z ((lg_cmp_eq _ _).mpr e))]
      rw [if_pos e] at H
      refine W77_219 hs ?_
      exact H
    · rw [if_pos (fun z => e ((lg_cmp_eq _ _).mp z))]
      rw [if_neg e] at H
      refine ⟨e, ?_⟩
      refine W77_219 hs ?_
      exact H
  · repeat rw [if_neg (by decide)]
    rw [if_pos (by decide)]
    refine W77_158 hs ?_
    rw [rk_61] at H
    by_cases e : v = w
    · rw [if_neg (fun z => z ((lg_cmp_eq _ _).mpr (by rw [e])))]
      rw [if_pos e] at H
      refine W77_219 hs ?_
      exact H
    · rw [if_pos (fun z => e (by rw [← wide_eq]; exact (lg_cmp_eq _ _).mp z))]
      rw [if_neg e] at H
      refine W77_219 hs ?_
      exact H
  · repeat rw [if_neg (by decide)]
    rw [if_pos (by decide)]
    refine W77_174 hs ?_
    rw [rk_60] at H
    by_cases e : v < w
    · rw [if_neg (fun z => absurd ((lg_cmp_ge _ _).mp z) (Int64.not_le.mpr (by rw [wide_lt]; exact e)))]
      rw [if_pos e] at H
      refine W77_219 hs ?_
      exact H
    · rw [if_pos ((lg_cmp_ge _ _).mpr (Int64.not_lt.mp (by rw [wide_lt]; exact e)))]
      rw [if_neg e] at H
      refine W77_219 hs ?_
      exact H
  · repeat rw [if_neg (by decide)]
    rw [if_pos (by decide)]
    refine W77_190 hs ?_
    rw [rk_62] at H
    by_cases e : w < v
    · rw [if_neg (fun z => absurd ((lg_cmp_le _ _).mp z) (Int64.not_le.mpr (by rw [wide_lt]; exact e)))]
      rw [if_pos e] at H
      refine W77_219 hs ?_
      exact H
    · rw [if_pos ((lg_cmp_le _ _).mpr (Int64.not_lt.mp (by rw [wide_lt]; exact e)))]
      rw [if_neg e] at H
      refine W77_219 hs ?_
      exact H
  · rcases hx with rfl | rfl
    · rw [if_pos (by decide)]
      refine W77_206 hs ?_
      refine W77_219 hs ?_
      rcases hv with rfl | rfl <;> rcases hw with rfl | rfl <;> exact H
    · repeat rw [if_neg (by decide)]
      refine W77_214 hs ?_
      refine W77_219 hs ?_
      rcases hv with rfl | rfl <;> rcases hw with rfl | rfl <;> exact H
theorem S76 {d q t : Nat} {h : ajH} {Q : Option Value → ajH → Prop} {v : Int32} (hs : ajShp h) (hq : ajKw q 3) (ht : t < 64) (H : Q (some (.int (nI (t + 1)))) (ajSI h (q + 2) t v)) : ajEv d 76 0 [.ref q, .int (nI t), .int v] [] h Q := by
  refine W76_0 hs hq ?_
  rw [if_neg (by rw [sr_lt0 (by omega)]; exact fun z => z), if_pos (by rw [sl_64, sr_lt (by omega) (by omega)]; exact ht), sr_in (by omega), sr_N (by omega)]
  refine ⟨ht, ?_⟩
  rintro _ rfl
  rw [nI_1]
  exact H
def ST (h : ajH) (q : Nat) (s : List Int32) : Prop := ∀ i, i < s.length → ajI h (q + 2) i = s.getD i 0
def PW (q o _j : Nat) : Prop := o = q + 2
/-- the law's orders, its letters -/
def WH (h : ajH) (q : Nat) (C : Nat → Int32) (N : Nat) (l : Nat → Int32) : Prop := ajI h q 3 = nI N ∧ N ≤ 256 ∧ (∀ i, i < N → ajI h (q + 1) i = C i) ∧ ∀ i, i < 6 → ajI h (q + 3) i = l i
def aC (C : Nat → Int32) (N pos : Nat) (cs : List Int32) : Prop := pos + cs.length ≤ N ∧ ∀ i, i < cs.length → C (pos + i) = cs.getD i 0
theorem WH_FR {h h' : ajH} {q N : Nat} {C l : Nat → Int32} (w : WH h q C N l) (f : FR h h' (PW q)) : WH h' q C N l :=
  ⟨(FR_I f (by unfold PW; omega)).trans w.1, w.2.1, fun i hi => (FR_I f (by unfold PW; omega)).trans (w.2.2.1 i hi), fun i hi => (FR_I f (by unfold PW; omega)).trans (w.2.2.2 i hi)⟩
theorem aC_app {C : Nat → Int32} {N pos : Nat} {c1 c2 : List Int32} (h : aC C N pos (c1 ++ c2)) : aC C N pos c1 ∧ aC C N (pos + c1.length) c2 := by
  obtain ⟨h1, h2⟩ := h
  rw [List.length_append] at h1
  refine ⟨⟨by omega, fun i hi => ?_⟩, ⟨by omega, fun i hi => ?_⟩⟩
  · rw [h2 i (by rw [List.length_append]; omega), List.getD_eq_getElem?_getD, List.getD_eq_getElem?_getD, List.getElem?_append_left hi]
  · rw [Nat.add_assoc, h2 (c1.length + i) (by rw [List.length_append]; omega), List.getD_eq_getElem?_getD, List.getD_eq_getElem?_getD, List.getElem?_append_right (by omega), Nat.add_sub_cancel_left]
theorem getD_app {s : List Int32} {x : Int32} {i : Nat} (hi : i < (s ++ [x]).length) : (s ++ [x]).getD i 0 = if i = s.length then x else s.getD i 0 := getD_snoc s x hi
/-- a number is put on the stack -/
theorem ST_put {h : ajH} {q : Nat} {s : List Int32} {x : Int32} (st : ST h q s) : ST (ajSI h (q + 2) s.length x) q (s ++ [x]) := by
  intro i hi
  rw [getD_snoc s x hi, ajI_SI]
  by_cases e : i = s.length
  · rw [if_pos ⟨rfl, e⟩, if_pos e]
  · rw [if_neg (by omega), if_neg e]
    rw [List.length_append, List.length_singleton] at hi
    exact st i (by omega)
theorem ST_pre {h : ajH} {q : Nat} {s t : List Int32} (st : ST h q (s ++ t)) : ST h q s := by
  intro i hi
  rw [st i (by rw [List.length_append]; omega), List.getD_eq_getElem?_getD, List.getD_eq_getElem?_getD, List.getElem?_append_left hi]
theorem ST_top {h : ajH} {q : Nat} {s : List Int32} {x : Int32} (st : ST h q (s ++ [x])) : ajI h (q + 2) s.length = x := by
  rw [st s.length (by rw [List.length_append, List.length_singleton]; omega), getD_snoc s x (by rw [List.length_append, List.length_singleton]; omega), if_pos rfl]
/-- the orders cs come to the number f, on top of whatever lies on the stack; they want K places -/
def Good (K : Nat) (cs : List Int32) (f : (Nat → Int32) → Int32) : Prop :=
  ∀ (d : Nat) (h : ajH) (Q : Option Value → ajH → Prop) (q pos N : Nat) (C l : Nat → Int32) (s : List Int32) (u1 u2 u3 u4 u5 u6 u9 u10 u11 u12 u13 : Value), ajShp h → ajKw q 3 → WH h q C N l → aC C N pos cs → ST h q s → s.length + K ≤ 64 →
    (∀ h' (u1 u2 u3 u4 u5 u6 u9 u10 u11 u12 u13 : Value), ajShp h' → FR h h' (PW q) → ST h' q (s ++ [f l]) → ajEv (d + 2) 75 51 [.ref q, u1, u2, u3, u4, u5, u6, .int (nI (s.length + 1)), .int (nI (pos + cs.length)), u9, u10, u11, u12, u13] [] h' Q) → ajEv (d + 2) 75 51 [.ref q, u1, u2, u3, u4, u5, u6, .int (nI s.length), .int (nI pos), u9, u10, u11, u12, u13] [] h Q
theorem Good_mono {K K' : Nat} {cs : List Int32} {f : (Nat → Int32) → Int32} (g : Good K cs f) (hk : K ≤ K') : Good K' cs f := by
  intro d h Q q pos N C l s u1 u2 u3 u4 u5 u6 u9 u10 u11 u12 u13 hs hq w a st hl H
  exact g d h Q q pos N C l s _ _ _ _ _ _ _ _ _ _ _ hs hq w a st (by omega) H
/-- an order is taken up -/
theorem S75_51 {d q pos N t : Nat} {h : ajH} {Q : Option Value → ajH → Prop} {C l : Nat → Int32} {u1 u2 u3 u4 u5 u6 u9 u10 u11 u12 u13 : Value} (hs : ajShp h) (hq : ajKw q 3) (w : WH h q C N l) (hp : pos < N) (ht : t ≤ 64)
    (H : ∀ s0 : Int32, (0 < t → s0 = ajI h (q + 2) (t - 1)) → ajEv (d + 1) 75 101 [.ref q, ajU, ajU, ajU, ajU, ajU, ajU, .int (nI t), .int (nI pos), .int (C pos), .int (C pos &&& -458753), .int (C pos &&& 458752), ajU, ajU] [.int s0] h Q) : ajEv (d + 1) 75 51 [.ref q, u1, u2, u3, u4, u5, u6, .int (nI t), .int (nI pos), u9, u10, u11, u12, u13] [] h Q := by
  have hN := w.2.1
  refine W75_51 hs hq ?_
  rw [w.1, if_neg (by rw [sr_le (by omega) (by omega)]; omega), sr_in (by omega), sr_N (by omega), w.2.2.1 pos hp]
  refine ⟨by omega, ?_⟩
  by_cases e : t = 0
  · subst e
    rw [if_pos (by decide)]
    exact H 0 (fun z => absurd z (by omega))
  · rw [if_neg (by rw [sl_0, sr_le (by omega) (by omega)]; omega)]
    have e2 : nI t - 1 = nI (t - 1) := by rw [sl_1]; exact sr_sub (by omega)
    rw [e2, sr_in (by omega), sr_N (by omega)]
    exact ⟨by omega, H _ (fun _ => rfl)⟩
theorem hb_nI {v i : Nat} (hv : v < 65536) (hi : 16 ≤ i) : hb (nI v) i = false := by
  show (BitVec.ofNat 32 v).getLsbD i = false
  rw [BitVec.getLsbD_ofNat]
  have h1 : v.testBit i = false := Nat.testBit_lt_two_pow (Nat.lt_of_lt_of_le hv (by
    have h2 : 2 ^ 16 ≤ 2 ^ i := Nat.pow_le_pow_right (by omega) hi
    omega))
  rw [h1, Bool.and_false]
theorem kd_num {v : Nat} (hv : v < 65536) : nI v &&& 458752 = 0 ∧ nI v &&& -458753 = nI v := by
  constructor
  · apply hb_ext
    intro i hi
    rw [hb_and, hb_0]
    by_cases h : i < 16
    · rw [(by decide +kernel : ∀ i < 16, hb 458752 i = false) i h, Bool.and_false]
    · rw [hb_nI hv (by omega), Bool.false_and]
  · apply hb_ext
    intro i hi
    rw [hb_and]
    by_cases h : i < 16
    · rw [(by decide +kernel : ∀ i < 16, hb (-458753) i = true) i h, Bool.and_true]
    · rw [hb_nI hv (by omega), Bool.false_and]
theorem Good_num {v : Nat} (hv : v < 65536) : Good 1 [nI v] (fun _ => nI v) := by
  intro d h Q q pos N C l s u1 u2 u3 u4 u5 u6 u9 u10 u11 u12 u13 hs hq w a st hl H
  have ha := a.2 0 (Nat.succ_pos _)
  have hp := a.1
  rw [List.length_singleton] at hp
  rw [Nat.add_zero] at ha
  have hN := w.2.1
  refine S75_51 hs hq w (by omega) (by omega) ?_
  intro s0 _
  rw [ha, show [nI v].getD 0 0 = nI v from rfl, (kd_num hv).1, (kd_num hv).2]
  refine W75_101 hs hq ?_
  rw [if_pos (by decide), if_pos (by decide), if_pos (by decide)]
  refine W75_189 hs hq ?_
  rw [if_pos (by decide), if_pos (by decide)]
  refine S76 hs hq (by omega) ?_
  intro s1
  refine ⟨_, rfl, ?_⟩
  rw [nI_1]
  exact H _ _ _ _ _ _ _ _ _ _ _ _ s1 (FR_SI h (P := PW q) rfl) (ST_put st)
theorem Good_let {k : Nat} (hk : k < 6) : Good 1 [65536 ||| nI k] (fun l => l k) := by
  intro d h Q q pos N C l s u1 u2 u3 u4 u5 u6 u9 u10 u11 u12 u13 hs hq w a st hl H
  have ha := a.2 0 (Nat.succ_pos _)
  have hp := a.1
  rw [List.length_singleton] at hp
  rw [Nat.add_zero] at ha
  have hN := w.2.1
  have e := (by decide +kernel : ∀ k < 6, ((65536 : Int32) ||| nI k) &&& 458752 = 65536 ∧ ((65536 : Int32) ||| nI k) &&& -458753 = nI k) k hk
  refine S75_51 hs hq w (by omega) (by omega) ?_
  intro s0 _
  rw [ha, show [65536 ||| nI k].getD 0 0 = 65536 ||| nI k from rfl, e.1, e.2]
  refine W75_101 hs hq ?_
  rw [if_pos (by decide), if_pos (by decide), if_pos (by decide)]
  refine W75_189 hs hq ?_
  rw [if_pos (by decide), if_neg (by decide), if_neg (by rw [sl_6, sr_le (by omega) (by omega)]; omega), sr_in (by omega), sr_N (by omega), w.2.2.2 k hk]
  refine ⟨hk, ?_⟩
  refine W75_276 hs hq hq ?_
  refine S76 hs hq (by omega) ?_
  intro s1
  refine ⟨_, rfl, ?_⟩
  rw [nI_1]
  exact H _ _ _ _ _ _ _ _ _ _ _ _ s1 (FR_SI h (P := PW q) rfl) (ST_put st)
/-- signs between two numbers -/
def opOK (x v w : Int32) : Prop := x = 43 ∨ x = 45 ∨ x = 42 ∨ x = 47 ∨ x = 61 ∨ x = 60 ∨ x = 62 ∨ (x = 38 ∨ x = 124) ∧ (v = 0 ∨ v = 1) ∧ (w = 0 ∨ w = 1)
theorem opOK_kd {x v w : Int32} (h : opOK x v w) : ((131072 : Int32) ||| x) &&& 458752 = 131072 ∧ ((131072 : Int32) ||| x) &&& -458753 = x ∧ ¬ x = 33 := by
  rcases h with rfl | rfl | rfl | rfl | rfl | rfl | rfl | ⟨rfl | rfl, _⟩ <;> decide
theorem Good_bin {K : Nat} {c1 c2 : List Int32} {f g : (Nat → Int32) → Int32} {x : Int32} (g1 : Good (K + 1) c1 f) (g2 : Good K c2 g) (hK : 1 ≤ K) (hx : ∀ l, opOK x (f l) (g l)) : Good (K + 1) (c1 ++ c2 ++ [131072 ||| x]) (fun l => rk x (f l) (g l)) := by
  intro d h Q q pos N C l s u1 u2 u3 u4 u5 u6 u9 u10 u11 u12 u13 hs hq w a st hl H
  have a12 := aC_app a
  have a1 := aC_app a12.1
  have e := opOK_kd (hx l)
  have hN := w.2.1
  refine g1 d h Q q pos N C l s _ _ _ _ _ _ _ _ _ _ _ hs hq w a1.1 st (by omega) ?_
  intro h1 u1 u2 u3 u4 u5 u6 u9 u10 u11 u12 u13 s1 f1 st1
  have el : (s ++ [f l]).length = s.length + 1 := by rw [List.length_append, List.length_singleton]
  refine (show ajEv (d + 2) 75 51 [.ref q, u1, u2, u3, u4, u5, u6, .int (nI (s.length + 1)), .int (nI (pos + c1.length)), u9, u10, u11, u12, u13] [] h1 Q from ?_)
  rw [← el]
  refine g2 d h1 Q q (pos + c1.length) N C l (s ++ [f l]) _ _ _ _ _ _ _ _ _ _ _ s1 hq (WH_FR w f1) a1.2 st1 (by rw [el]; omega) ?_
  intro h2 u1 u2 u3 u4 u5 u6 u9 u10 u11 u12 u13 s2 f2 st2
  have f12 := FR_trans f1 f2
  have w2 := WH_FR w f12
  have ha := a12.2.2 0 (Nat.succ_pos _)
  have hp := a12.2.1
  rw [List.length_singleton, List.length_append] at hp
  rw [Nat.add_zero, List.length_append] at ha
  rw [el, Nat.add_assoc s.length, Nat.add_assoc pos]
  rw [show s.length + (1 + 1) = s.length + 2 from rfl]
  refine S75_51 (t := s.length + 2) (pos := pos + (c1.length + c2.length)) s2 hq w2 (by omega) (by omega) ?_
  intro s0 hs0
  have e0 : s0 = g l := by
    rw [hs0 (by omega)]
    have z := ST_top st2
    rw [el] at z
    exact z
  subst e0
  have e1 : ajI h2 (q + 2) s.length = f l := ST_top (ST_pre st2)
  rw [ha, show [131072 ||| x].getD 0 0 = 131072 ||| x from rfl, e.1, e.2.1]
  refine W75_101 s2 hq ?_
  rw [if_pos (by decide), if_pos (by decide), if_neg (by decide), if_pos e.2.2]
  refine W75_189 s2 hq ?_
  have e2 : nI (s.length + 2) - 2 = nI s.length := by rw [sl_2, sr_sub (by omega)]; exact congrArg nI (by omega)
  rw [if_neg (by decide), if_neg (by rw [sl_1, sr_le (by omega) (by omega)]; omega), e2, sr_in (by omega), sr_N (by omega), e1]
  refine ⟨by omega, ?_⟩
  refine W75_215 s2 hq ?_
  refine S77 s2 (hx l) ?_
  intro s3
  refine ⟨_, rfl, ?_⟩
  have e3 : (if (0 : Int32) < nI (s.length + 2) - 2 then nI (s.length + 2) - 2 else 0) = nI s.length := by
    rw [e2]
    by_cases z : s.length = 0
    · rw [z]; decide
    · rw [if_pos (by rw [sl_0, sr_lt (by omega) (by omega)]; omega)]
  rw [e3]
  refine S76 s3 hq (by omega) ?_
  intro s4
  refine ⟨_, rfl, ?_⟩
  rw [nI_1]
  have ep : (pos + (c1.length + c2.length)) + 1 = pos + (c1 ++ c2 ++ [131072 ||| x]).length := by
    rw [List.length_append, List.length_append, List.length_singleton]
    omega
  rw [ep]
  exact H _ _ _ _ _ _ _ _ _ _ _ _ s4 (FR_trans f12 (FR_SI h2 (P := PW q) rfl)) (ST_put (ST_pre (ST_pre st2)))
theorem Good_not {K : Nat} {c1 : List Int32} {f : (Nat → Int32) → Int32} (g1 : Good K c1 f) (hK : 1 ≤ K) : Good K (c1 ++ [131105]) (fun l => 1 - f l) := by
  intro d h Q q pos N C l s u1 u2 u3 u4 u5 u6 u9 u10 u11 u12 u13 hs hq w a st hl H
  have a1 := aC_app a
  have hN := w.2.1
  refine g1 d h Q q pos N C l s _ _ _ _ _ _ _ _ _ _ _ hs hq w a1.1 st (by omega) ?_
  intro h1 u1 u2 u3 u4 u5 u6 u9 u10 u11 u12 u13 s1 f1 st1
  have w1 := WH_FR w f1
  have ha := a1.2.2 0 (Nat.succ_pos _)
  have hp := a1.2.1
  rw [List.length_singleton] at hp
  rw [Nat.add_zero] at ha
  refine S75_51 s1 hq w1 (by omega) (by omega) ?_
  intro s0 hs0
  have e0 : s0 = f l := by
    rw [hs0 (by omega)]
    exact ST_top st1
  subst e0
  rw [ha, show ([131105] : List Int32).getD 0 0 = 131105 from rfl, show (131105 : Int32) &&& 458752 = 131072 by decide, show (131105 : Int32) &&& -458753 = 33 by decide]
  refine W75_101 s1 hq ?_
  have e2 : nI (s.length + 1) - 1 = nI s.length := by rw [sl_1, sr_sub (by omega)]; exact congrArg nI (by omega)
  have e3 : (if (0 : Int32) < nI (s.length + 1) - 1 then nI (s.length + 1) - 1 else 0) = nI s.length := by
    rw [e2]
    by_cases z : s.length = 0
    · rw [z]; decide
    · rw [if_pos (by rw [sl_0, sr_lt (by omega) (by omega)]; omega)]
  rw [if_pos (by decide), if_pos (by decide), if_neg (by decide), if_neg (by decide), e3]
  refine S76 s1 hq (by omega) ?_
  intro s4
  refine ⟨_, rfl, ?_⟩
  rw [nI_1]
  have ep : (pos + c1.length) + 1 = pos + (c1 ++ [131105]).length := by
    rw [List.length_append, List.length_singleton]
    omega
  rw [ep]
  exact H _ _ _ _ _ _ _ _ _ _ _ _ s4 (FR_trans f1 (FR_SI h1 (P := PW q) rfl)) (ST_put (ST_pre st1))
/-- the orders of a text that goes on come to its number -/
def Gd (z : Bool) (K : Nat) (r : PR) : Prop := pOk r = true → Good K (pCo r) (pVa r) ∧ (z = true → ∀ l, pVa r l = 0 ∨ pVa r l = 1)
theorem Gd_F {z : Bool} {K a : Nat} : Gd z K (pF a) := fun h => by cases h
theorem Gd_mono {z : Bool} {K K' : Nat} {r : PR} (g : Gd z K r) (h : K ≤ K') : Gd z K' r := fun y => ⟨Good_mono (g y).1 h, (g y).2⟩
theorem pAtom_Gd {B : Nat → Nat} {L K : Nat} {inner : Option (Nat → PR)} (hin : ∀ f, inner = some f → ∀ x, x ≤ L → Gd false K (f x)) (hK : 1 ≤ K) {a : Nat} (hl : a ≤ L) : Gd false K (pAtom B L inner a) := by
  unfold pAtom
  split
  · split
    · exact Gd_F
    · intro _
      have h3 := (tNum_all B L 4 (tSk B L a) 0 (tSk_le B hl)).2.2.2
      exact ⟨Good_mono (Good_num (by omega)) hK, fun z => by cases z⟩
  · split
    · rename_i hx
      intro _
      refine ⟨Good_mono ?_ hK, fun z => by cases z⟩
      rcases lix_ex hx with ⟨_, e⟩ | ⟨_, e⟩ | ⟨_, e⟩ | ⟨_, e⟩ | ⟨_, e⟩ | ⟨_, e⟩ <;> simp only [pCo, pVa, e] <;> exact Good_let (by omega)
    · split
      · rename_i h91
        have h3 := tCh_lt h91 (by decide)
        split
        · exact Gd_F
        · rename_i f
          have h4 := hin f rfl (tSk B L a + 1) (by omega)
          generalize f (tSk B L a + 1) = r at h4 ⊢
          split
          · rename_i hok
            split
            · intro _; exact ⟨(h4 hok).1, fun z => by cases z⟩
            · exact Gd_F
          · exact Gd_F
      · exact Gd_F
theorem pRow_Gd {B : Nat → Nat} {L K : Nat} {s : Int32 → Bool} {z : Bool} (hK : 1 ≤ K) (hop : ∀ x v w, s x = true → (z = true → (v = 0 ∨ v = 1) ∧ (w = 0 ∨ w = 1)) → opOK x v w ∧ (z = true → rk x v w = 0 ∨ rk x v w = 1)) {f : Nat → PR} (hf : ∀ x, x ≤ L → Gd z K (f x)) (hfg : ∀ x, x ≤ L → pGd L x (f x)) (hsn : s (-1) = false) : ∀ F r, pOk r = true → pAt r ≤ L → Gd z (K + 1) r → Gd z (K + 1) (pRow B L s f F r) := by
  intro F
  induction F with
  | zero => intro r _ _ g; exact g
  | succ F ih =>
    intro r hok hl g
    cases hs : s (tCh B L (tSk B L (pAt r))) with
    | false =>
      rw [pRow_fail hs]
      intro _
      exact g hok
    | true =>
      have h8 : tSk B L (pAt r) < L := by
        by_cases y : tSk B L (pAt r) < L
        · exact y
        · rw [tCh_end (by omega), hsn] at hs
          cases hs
      have hq := hf (tSk B L (pAt r) + 1) (by omega)
      have hqg := hfg (tSk B L (pAt r) + 1) (by omega)
      cases ho : pOk (f (tSk B L (pAt r) + 1)) with
      | false => rw [pRow_bad hs ho]; exact Gd_F
      | true =>
        rw [pRow_go hs ho]
        have g1 := g hok
        have g2 := hq ho
        refine ih _ rfl hqg.1 ?_
        intro _
        have hh : ∀ l, opOK (tCh B L (tSk B L (pAt r))) (pVa r l) (pVa (f (tSk B L (pAt r) + 1)) l) ∧ (z = true → rk (tCh B L (tSk B L (pAt r))) (pVa r l) (pVa (f (tSk B L (pAt r) + 1)) l) = 0 ∨ rk (tCh B L (tSk B L (pAt r))) (pVa r l) (pVa (f (tSk B L (pAt r) + 1)) l) = 1) := fun l => hop _ _ _ hs (fun y => ⟨g1.2 y l, g2.2 y l⟩)
        exact ⟨Good_bin g1.1 g2.1 hK (fun l => (hh l).1), fun y l => (hh l).2 y⟩
theorem pGo_Gd {B : Nat → Nat} {L K a : Nat} {s : Int32 → Bool} {z : Bool} (hK : 1 ≤ K) (hop : ∀ x v w, s x = true → (z = true → (v = 0 ∨ v = 1) ∧ (w = 0 ∨ w = 1)) → opOK x v w ∧ (z = true → rk x v w = 0 ∨ rk x v w = 1)) {f : Nat → PR} (hf : ∀ x, x ≤ L → Gd z K (f x)) (hfg : ∀ x, x ≤ L → pGd L x (f x)) (hsn : s (-1) = false) {r : PR} (hg : pGd L a r) (g : Gd z (K + 1) r) : Gd z (K + 1) (pGo B L s f r) := by
  unfold pGo
  split
  · rename_i h; exact pRow_Gd hK hop hf hfg hsn 240 r h hg.1 g
  · exact g
theorem op_mul : ∀ x v w, sMul x = true → (false = true → (v = 0 ∨ v = 1) ∧ (w = 0 ∨ w = 1)) → opOK x v w ∧ (false = true → rk x v w = 0 ∨ rk x v w = 1) := by
  intro x v w h _
  unfold sMul at h
  rw [Bool.or_eq_true, decide_eq_true_eq, decide_eq_true_eq] at h
  refine ⟨?_, fun z => by cases z⟩
  unfold opOK
  rcases h with h | h
  · exact Or.inr (Or.inr (Or.inl h))
  · exact Or.inr (Or.inr (Or.inr (Or.inl h)))
theorem op_add : ∀ x v w, sAdd x = true → (false = true → (v = 0 ∨ v = 1) ∧ (w = 0 ∨ w = 1)) → opOK x v w ∧ (false = true → rk x v w = 0 ∨ rk x v w = 1) := by
  intro x v w h _
  unfold sAdd at h
  rw [Bool.or_eq_true, decide_eq_true_eq, decide_eq_true_eq] at h
  refine ⟨?_, fun z => by cases z⟩
  unfold opOK
  rcases h with h | h
  · exact Or.inl h
  · exact Or.inr (Or.inl h)
theorem op_and : ∀ x v w, sAnd x = true → (true = true → (v = 0 ∨ v = 1) ∧ (w = 0 ∨ w = 1)) → opOK x v w ∧ (true = true → rk x v w = 0 ∨ rk x v w = 1) := by
  intro x v w h y
  have y := y rfl
  have h : x = 38 := of_decide_eq_true h
  subst h
  refine ⟨Or.inr (Or.inr (Or.inr (Or.inr (Or.inr (Or.inr (Or.inr ⟨Or.inl rfl, y⟩)))))), fun _ => ?_⟩
  rcases y with ⟨e | e, e2 | e2⟩ <;> rw [e, e2] <;> decide
theorem op_or : ∀ x v w, sOr x = true → (true = true → (v = 0 ∨ v = 1) ∧ (w = 0 ∨ w = 1)) → opOK x v w ∧ (true = true → rk x v w = 0 ∨ rk x v w = 1) := by
  intro x v w h y
  have y := y rfl
  have h : x = 124 := of_decide_eq_true h
  subst h
  refine ⟨Or.inr (Or.inr (Or.inr (Or.inr (Or.inr (Or.inr (Or.inr ⟨Or.inr rfl, y⟩)))))), fun _ => ?_⟩
  rcases y with ⟨e | e, e2 | e2⟩ <;> rw [e, e2] <;> decide
theorem pSumO_Gd {B : Nat → Nat} {L K : Nat} {inner : Option (Nat → PR)} (hin : ∀ f, inner = some f → ∀ x, x ≤ L → Gd false K (f x)) (hig : ∀ f, inner = some f → ∀ x, x ≤ L → pGd L x (f x)) (hK : 1 ≤ K) {a : Nat} (hl : a ≤ L) : Gd false (K + 2) (pSumO B L inner a) := by
  have h1 : ∀ x, x ≤ L → Gd false K (pAtom B L inner x) := fun x hx => pAtom_Gd hin hK hx
  have g1 : ∀ x, x ≤ L → pGd L x (pAtom B L inner x) := fun x hx => pAtom_gd hig hx
  have h2 : ∀ x, x ≤ L → Gd false (K + 1) (pTerm B L inner x) := fun x hx => pGo_Gd (by omega) op_mul h1 g1 (by decide) (g1 x hx) (Gd_mono (h1 x hx) (by omega))
  have g2 : ∀ x, x ≤ L → pGd L x (pTerm B L inner x) := fun x hx => pTerm_gd hig hx
  exact pGo_Gd (by omega) op_add h2 g2 (by decide) (g2 a hl) (Gd_mono (h2 a hl) (by omega))
theorem pSum_Gd {B : Nat → Nat} {L : Nat} : ∀ D a, a ≤ L → Gd false (3 + 2 * D) (pSum B L D a) := by
  intro D
  induction D with
  | zero => intro a hl; exact pSumO_Gd (K := 1) (fun f e => by cases e) (fun f e => by cases e) (by omega) hl
  | succ D ih =>
    intro a hl
    have h := pSumO_Gd (B := B) (inner := some (pSum B L D)) (K := 3 + 2 * D) (fun f e => by cases e; exact ih) (fun f e => by cases e; exact fun x hx => pSum_gd D x hx) (by omega) hl
    exact Gd_mono h (by omega)
theorem pRel_Gd {B : Nat → Nat} {L D a : Nat} {r : PR} (hg : pGd L a r) (g : Gd false (3 + 2 * D) r) : Gd true (4 + 2 * D) (pRel B L D r) := by
  unfold pRel
  split
  · rename_i hok
    split
    · rename_i hs
      have h8 : tSk B L (pAt r) < L := by
        by_cases y : tSk B L (pAt r) < L
        · exact y
        · rw [tCh_end (by omega)] at hs
          cases hs
      have h2 := pSum_Gd (B := B) (L := L) D (tSk B L (pAt r) + 1) (by omega)
      generalize pSum B L D (tSk B L (pAt r) + 1) = q at h2 ⊢
      split
      · rename_i hq
        intro _
        have g1 := g hok
        have g2 := h2 hq
        unfold sRel at hs
        rw [Bool.or_eq_true, Bool.or_eq_true, decide_eq_true_eq, decide_eq_true_eq, decide_eq_true_eq] at hs
        refine ⟨?_, fun _ l => ?_⟩
        · have h3 := Good_bin (x := tCh B L (tSk B L (pAt r))) (Good_mono g1.1 (show 3 + 2 * D ≤ (3 + 2 * D) + 1 by omega)) g2.1 (by omega) (fun l => by
            unfold opOK
            rcases hs with (h | h) | h
            · exact Or.inr (Or.inr (Or.inr (Or.inr (Or.inl h))))
            · exact Or.inr (Or.inr (Or.inr (Or.inr (Or.inr (Or.inl h)))))
            · exact Or.inr (Or.inr (Or.inr (Or.inr (Or.inr (Or.inr (Or.inl h)))))))
          exact Good_mono h3 (by omega)
        · show rk (tCh B L (tSk B L (pAt r))) (pVa r l) (pVa q l) = 0 ∨ rk (tCh B L (tSk B L (pAt r))) (pVa r l) (pVa q l) = 1
          rcases hs with (h | h) | h <;> rw [h]
          · rw [rk_61]; split <;> first | exact Or.inl rfl | exact Or.inr rfl
          · rw [rk_60]; split <;> first | exact Or.inl rfl | exact Or.inr rfl
          · rw [rk_62]; split <;> first | exact Or.inl rfl | exact Or.inr rfl
      · exact Gd_F
    · exact Gd_F
  · rename_i h
    exact fun y => absurd y h
theorem pTru_Gd {B : Nat → Nat} {L K a : Nat} {u : Nat → PR} (hK : 1 ≤ K) (hu : ∀ x, x ≤ L → Gd true K (u x)) (hg : ∀ x, x ≤ L → pGd L x (u x)) {r : PR} (gr : pGd L a r) (g : Gd true K r) : Gd true (K + 1) (pTru B L u r) := pGo_Gd hK op_and hu hg (by decide) gr (Gd_mono g (by omega))
theorem pCon_Gd {B : Nat → Nat} {L K a : Nat} {u : Nat → PR} (hK : 1 ≤ K) (hu : ∀ x, x ≤ L → Gd true K (u x)) (hg : ∀ x, x ≤ L → pGd L x (u x)) {r : PR} (gr : pGd L a r) (g : Gd true K r) : Gd true (K + 2) (pCon B L u r) :=
  pGo_Gd (by omega) op_or (fun x hx => pTru_Gd hK hu hg (hg x hx) (hu x hx)) (fun x hx => pTru_gd hg (hg x hx)) (by decide) (pTru_gd hg gr) (Gd_mono (pTru_Gd hK hu hg gr g) (by omega))
theorem pUnit_Gd {B : Nat → Nat} {L : Nat} : ∀ D a, a ≤ L → Gd true (4 + 2 * D) (pUnit B L D a) := by
  intro D
  induction D with
  | zero =>
    intro a hl
    have h7 := tSk_le B hl
    unfold pUnit
    split
    · exact Gd_F
    · exact pRel_Gd (D := 0) (pSum_gd 0 _ h7) (pSum_Gd 0 _ h7)
  | succ D ih =>
    intro a hl
    have h7 := tSk_le B hl
    unfold pUnit
    split
    · rename_i hx
      have h8 := tCh_lt hx (by decide)
      have h9 := ih (tSk B L a + 1) (by omega)
      generalize pUnit B L D (tSk B L a + 1) = q at h9 ⊢
      split
      · rename_i hq
        intro _
        have g := h9 hq
        refine ⟨Good_mono (Good_not g.1 (by omega)) (by omega), fun y l => ?_⟩
        show 1 - pVa q l = 0 ∨ 1 - pVa q l = 1
        rcases g.2 y l with e | e <;> rw [e] <;> decide
      · exact Gd_F
    · split
      · rename_i hx
        have h8 := tCh_lt hx (by decide)
        have h9 := pCon_Gd (B := B) (L := L) (u := pUnit B L D) (by omega) ih (fun x hx => pUnit_gd D x hx) (pUnit_gd D (tSk B L a + 1) (by omega)) (ih (tSk B L a + 1) (by omega))
        generalize pCon B L (pUnit B L D) (pUnit B L D (tSk B L a + 1)) = r at h9 ⊢
        split
        · rename_i hok
          split
          · intro _
            exact ⟨Good_mono (h9 hok).1 (by omega), (h9 hok).2⟩
          · exact Gd_F
        · exact Gd_F
      · exact pRel_Gd (pSum_gd _ _ h7) (pSum_Gd _ _ h7)
/-! clauses and the whole law -/
def KGd (k : PC) : Prop := k.1 = true → Good 60 (pCo k.2.2.2) (pVa k.2.2.2) ∧ ∀ r, k.2.2.1 = some r → Good 60 (pCo r) (pVa r) ∧ ∀ l, pVa r l = 0 ∨ pVa r l = 1
theorem KGd_F {a : Nat} : KGd (cF a) := fun h => by cases h
theorem pTail_Gd {B : Nat → Nat} {L a : Nat} {r : PR} (hg : pGd L a r) (g : Gd true 18 r) : KGd (pTail B L r) := by
  unfold pTail
  split
  · rename_i hok
    split
    · rename_i h63
      have hlt := tCh_lt h63 (by decide)
      have h2 := pSum_Gd (B := B) (L := L) 6 (tSk B L (pAt r) + 1) (by omega)
      intro y
      refine ⟨Good_mono (h2 y).1 (by omega), fun r' e => ?_⟩
      cases e
      exact ⟨Good_mono (g hok).1 (by omega), (g hok).2 rfl⟩
    · exact KGd_F
  · exact KGd_F
theorem pCla_Gd {B : Nat → Nat} {L a : Nat} (hl : a ≤ L) : KGd (pCla B L a) := by
  have h7 := tSk_le B hl
  have hu : ∀ x, x ≤ L → Gd true 16 (pUnit B L 6 x) := fun x hx => pUnit_Gd 6 x hx
  unfold pCla
  split
  · rename_i e1
    have l1 := tCh_lt e1 (by decide)
    split
    · rename_i e2
      have l2 := tCh_lt e2 (by decide)
      have h9 := tSk_le B (show tSk B L (tSk B L a + 1) + 1 ≤ L by omega)
      generalize tSk B L (tSk B L a + 1) + 1 = b at h9 ⊢
      have hs := pSum_gd (B := B) (L := L) 6 (tSk B L b) h9
      have hsg := pSum_Gd (B := B) (L := L) 6 (tSk B L b) h9
      unfold pClz
      split
      · exact pTail_Gd (pCon_gd (fun y hy => pUnit_gd 6 y hy) (pUnit_gd 6 (tSk B L b) h9)) (pCon_Gd (by omega) hu (fun x hx => pUnit_gd 6 x hx) (pUnit_gd 6 (tSk B L b) h9) (hu _ h9))
      · split
        · rename_i hok
          split
          · exact pTail_Gd (pCon_gd (fun y hy => pUnit_gd 6 y hy) (pRel_gd hs)) (pCon_Gd (by omega) hu (fun x hx => pUnit_gd 6 x hx) (pRel_gd (D := 6) hs) (Gd_mono (pRel_Gd hs hsg) (by omega)))
          · intro _
            exact ⟨Good_mono (hsg hok).1 (by omega), fun r e => by cases e⟩
        · exact KGd_F
    · exact KGd_F
  · exact KGd_F
theorem jmp_kd {T : Nat} (h : T < 257) : ((196608 : Int32) ||| nI T) &&& 458752 = 196608 ∧ ((196608 : Int32) ||| nI T) &&& -458753 = nI T := (by decide +kernel : ∀ T < 257, ((196608 : Int32) ||| nI T) &&& 458752 = 196608 ∧ ((196608 : Int32) ||| nI T) &&& -458753 = nI T) T h
/-- a sum, then the answer -/
theorem S75a {d : Nat} {h : ajH} {Q : Option Value → ajH → Prop} {q pos N : Nat} {C l : Nat → Int32} {cs : List Int32} {f : (Nat → Int32) → Int32} {u1 u2 u3 u4 u5 u6 u9 u10 u11 u12 u13 : Value} (g : Good 60 cs f) (hs : ajShp h) (hq : ajKw q 3) (w : WH h q C N l) (a : aC C N pos (cs ++ [262144])) (H : ∀ h', FR h h' (PW q) → Q (some (.int (f l))) h') : ajEv (d + 2) 75 51 [.ref q, u1, u2, u3, u4, u5, u6, .int (nI 0), .int (nI pos), u9, u10, u11, u12, u13] [] h Q := by
  have a1 := aC_app a
  have hN := w.2.1
  refine g d h Q q pos N C l [] _ _ _ _ _ _ _ _ _ _ _ hs hq w a1.1 (fun i hi => by cases hi) (by decide) ?_
  intro h1 u1 u2 u3 u4 u5 u6 u9 u10 u11 u12 u13 s1 f1 st1
  have w1 := WH_FR w f1
  have ha := a1.2.2 0 (Nat.succ_pos _)
  have hp := a1.2.1
  rw [List.length_singleton] at hp
  rw [Nat.add_zero] at ha
  refine S75_51 (t := 1) s1 hq w1 (by omega) (by omega) ?_
  intro s0 hs0
  have e0 : s0 = f l := by
    rw [hs0 (by omega)]
    exact ST_top (s := []) st1
  subst e0
  rw [ha, show ([262144] : List Int32).getD 0 0 = 262144 from rfl, show (262144 : Int32) &&& 458752 = 262144 by decide]
  refine W75_101 s1 hq ?_
  rw [if_neg (by decide)]
  exact H h1 f1
theorem S75k {k : PC} {d n N q : Nat} {h : ajH} {Q : Option Value → ajH → Prop} {C l : Nat → Int32} {rest : List Int32} {u1 u2 u3 u4 u5 u6 u9 u10 u11 u12 u13 : Value} (hG : KGd k) (hk : k.1 = true) (hs : ajShp h) (hq : ajKw q 3) (w : WH h q C N l) (ac : aC C N n (cCo k n ++ rest))
    (hR : ¬ cHas k l → ∀ (h1 : ajH) (u1 u2 u3 u4 u5 u6 u9 u10 u11 u12 u13 : Value), FR h h1 (PW q) → ajShp h1 → ajEv (d + 2) 75 51 [.ref q, u1, u2, u3, u4, u5, u6, .int (nI 0), .int (nI (n + cLen k)), u9, u10, u11, u12, u13] [] h1 Q) (H : cHas k l → ∀ h', FR h h' (PW q) → Q (some (.int (pVa k.2.2.2 l))) h') : ajEv (d + 2) 75 51 [.ref q, u1, u2, u3, u4, u5, u6, .int (nI 0), .int (nI n), u9, u10, u11, u12, u13] [] h Q := by
  have hN := w.2.1
  have hG := hG hk
  have a12 := aC_app ac
  rw [cLen_eq] at a12
  unfold cCo at a12
  unfold cHas at H hR
  obtain ⟨k1, k2, k3, k4⟩ := k
  dsimp only at hG a12 H hR
  cases k3 with
  | none =>
    dsimp only at a12 H
    exact S75a hG.1 hs hq w a12.1 (H trivial)
  | some r =>
    dsimp only at a12 H hR
    have gr := hG.2 r rfl
    have b1 := aC_app a12.1
    have b2 := aC_app b1.1
    have b3 := aC_app b2.1
    have hb1 := b1.2.1
    have hb2 := b2.2.1
    rw [List.length_append, List.length_append, List.length_singleton, List.length_singleton] at hb1
    rw [List.length_append, List.length_singleton] at hb2
    have ecl : cLen (k1, k2, some r, k4) = (pCo r).length + 1 + (pCo k4).length + 1 := cLen_some
    refine gr.1 d h Q q n N C l [] _ _ _ _ _ _ _ _ _ _ _ hs hq w b3.1 (fun i hi => by cases hi) (by decide) ?_
    intro h2 u1 u2 u3 u4 u5 u6 u9 u10 u11 u12 u13 s2 f2 st2
    have w2 := WH_FR w f2
    have ha := b3.2.2 0 (Nat.succ_pos _)
    rw [Nat.add_zero] at ha
    refine S75_51 (t := 1) s2 hq w2 (by omega) (by omega) ?_
    intro s0 hs0
    have e0 : s0 = pVa r l := by
      rw [hs0 (by omega)]
      exact ST_top (s := []) st2
    subst e0
    have ej := jmp_kd (T := n + (pCo r).length + 1 + (pCo k4).length + 1) (by omega)
    rw [ha, show ([196608 ||| nI (n + (pCo r).length + 1 + (pCo k4).length + 1)] : List Int32).getD 0 0 = 196608 ||| nI (n + (pCo r).length + 1 + (pCo k4).length + 1) from rfl, ej.1, ej.2]
    refine W75_101 s2 hq ?_
    rw [if_pos (by decide), if_neg (by decide)]
    have e1 : (if (0 : Int32) < nI 1 - 1 then nI 1 - 1 else 0) = nI 0 := by decide
    rw [e1]
    by_cases hc : pVa r l = 0
    · rw [if_neg (fun z => z hc)]
      have ep : (if nI (n + (pCo r).length) < nI (n + (pCo r).length + 1 + (pCo k4).length + 1) - 1 then nI (n + (pCo r).length + 1 + (pCo k4).length + 1) - 1 else nI (n + (pCo r).length)) + 1 = nI (n + cLen (k1, k2, some r, k4)) := by
        have e3 : nI (n + (pCo r).length + 1 + (pCo k4).length + 1) - 1 = nI (n + (pCo r).length + 1 + (pCo k4).length) := by
          rw [sl_1, sr_sub (by omega)]; exact congrArg nI (by omega)
        rw [e3, if_pos (by rw [sr_lt (by omega) (by omega)]; omega), nI_1, ecl]
        exact congrArg nI (by omega)
      rw [ep]
      exact hR (fun z => z hc) h2 _ _ _ _ _ _ _ _ _ _ _ f2 s2
    · rw [if_pos hc, nI_1]
      have d2 : aC C N (n + (pCo r).length + 1) (pCo k4 ++ [262144]) := by
        have z := a12.1
        rw [List.append_assoc, List.append_assoc] at z
        have z2 := (aC_app z).2
        have z3 := (aC_app z2).2
        rw [List.length_singleton] at z3
        exact z3
      refine S75a hG.1 s2 hq w2 d2 ?_
      intro h' f
      exact H hc h' (FR_trans f2 f)
theorem S75L {B : Nat → Nat} {L q N : Nat} {C l : Nat → Int32} (hq : ajKw q 3) : ∀ (F a n d : Nat) (h : ajH) (Q : Option Value → ajH → Prop) (u1 u2 u3 u4 u5 u6 u9 u10 u11 u12 u13 : Value), a ≤ L → pOk (pLaw B L F a n) = true → ajShp h → WH h q C N l → aC C N n (pCo (pLaw B L F a n)) → n + (pCo (pLaw B L F a n)).length = N →
    (∀ h', FR h h' (PW q) → Q (some (.int (pVa (pLaw B L F a n) l))) h') → ajEv (d + 2) 75 51 [.ref q, u1, u2, u3, u4, u5, u6, .int (nI 0), .int (nI n), u9, u10, u11, u12, u13] [] h Q := by
  intro F
  induction F with
  | zero => intro a n d h Q u1 u2 u3 u4 u5 u6 u9 u10 u11 u12 u13 _ hok; cases hok
  | succ F ih =>
    intro a n d h Q u1 u2 u3 u4 u5 u6 u9 u10 u11 u12 u13 hl hok hs w ac hn H
    have hg := pCla_gd (B := B) hl
    have hG := pCla_Gd (B := B) hl
    have hN := w.2.1
    rw [pLaw_succ] at hok ac hn H
    generalize pCla B L a = k at hok ac hn H hg hG
    cases hk : k.1 with
    | false => rw [hk, if_neg (by decide)] at hok; cases hok
    | true =>
      rw [hk, if_pos rfl] at hok ac hn H
      have g1 := hg.2 hk
      have h6 := tSk_ge B L k.2.1
      have h7 := tSk_le B hg.1
      by_cases e1 : tCh B L (tSk B L k.2.1) = 59
      · rw [if_pos e1] at hok ac hn H
        have l1 := tCh_lt e1 (by decide)
        have hR : pOk (pLaw B L F (tSk B L k.2.1 + 1) (n + cLen k)) = true := hok
        have ac' : aC C N n (cCo k n ++ pCo (pLaw B L F (tSk B L k.2.1 + 1) (n + cLen k))) := ac
        have hn' : n + (cCo k n ++ pCo (pLaw B L F (tSk B L k.2.1 + 1) (n + cLen k))).length = N := hn
        have H' : ∀ h', FR h h' (PW q) → Q (some (.int (cWo k l (pVa (pLaw B L F (tSk B L k.2.1 + 1) (n + cLen k)) l)))) h' := H
        have a2 := (aC_app ac').2
        rw [cLen_eq] at a2
        rw [List.length_append, cLen_eq] at hn'
        refine S75k hG hk hs hq w ac' ?_ ?_
        · intro hc h1 u1 u2 u3 u4 u5 u6 u9 u10 u11 u12 u13 f1 s1
          refine ih (tSk B L k.2.1 + 1) (n + cLen k) d h1 Q _ _ _ _ _ _ _ _ _ _ _ (by omega) hR s1 (WH_FR w f1) a2 (by omega) ?_
          intro h' f
          have z := H' h' (FR_trans f1 f)
          unfold cWo at z
          rw [if_neg hc] at z
          exact z
        · intro hc h' f
          have z := H' h' f
          unfold cWo at z
          rw [if_pos hc] at z
          exact z
      · rw [if_neg e1] at hok ac hn H
        by_cases e2 : tCh B L (tSk B L k.2.1) = -1
        · rw [if_pos e2] at hok ac hn H
          have ac' : aC C N n (cCo k n ++ []) := by rw [List.append_nil]; exact ac
          have hn' : n + (cCo k n).length = N := hn
          rw [cLen_eq] at hn'
          have H' : ∀ h', FR h h' (PW q) → Q (some (.int (cWo k l 0))) h' := H
          refine S75k hG hk hs hq w ac' ?_ ?_
          · intro hc h1 u1 u2 u3 u4 u5 u6 u9 u10 u11 u12 u13 f1 s1
            refine W75_51 s1 hq ?_
            rw [(WH_FR w f1).1, if_pos (by rw [sr_le (by omega) (by omega)]; omega)]
            have z := H' h1 f1
            unfold cWo at z
            rw [if_neg hc] at z
            exact z
          · intro hc h' f
            have z := H' h' f
            unfold cWo at z
            rw [if_pos hc] at z
            exact z
        · rw [if_neg e2] at hok; cases hok
def vx6 (v d o h w t : Int32) (i : Nat) : Int32 := match i with
  | 0 => v
  | 1 => d
  | 2 => o
  | 3 => h
  | 4 => w
  | _ => t
/-- a law of the class holds the orders of its text -/
def LawC (B : Nat → Nat) (L : Nat) (h : ajH) (q : Nat) : Prop := pOk (pLaw B L 240 0 0) = true ∧ ajI h q 3 = nI (pCo (pLaw B L 240 0 0)).length ∧ (pCo (pLaw B L 240 0 0)).length ≤ 256 ∧ ∀ i, i < (pCo (pLaw B L 240 0 0)).length → ajI h (q + 1) i = (pCo (pLaw B L 240 0 0)).getD i 0
theorem S75 {B : Nat → Nat} {L q d : Nat} {h : ajH} {Q : Option Value → ajH → Prop} {v1 v2 v3 v4 v5 v6 : Int32} (hs : ajShp h) (hq : ajKw q 3) (hc : LawC B L h q) (H : ∀ h', FR h h' (fun o _ => o = q + 2 ∨ o = q + 3) → Q (some (.int (pVa (pLaw B L 240 0 0) (vx6 v1 v2 v3 v4 v5 v6)))) h') : ajEv (d + 2) 75 0 [.ref q, .int v1, .int v2, .int v3, .int v4, .int v5, .int v6, ajU, ajU, ajU, ajU, ajU, ajU, ajU] [] h Q := by
  refine W75_0 hs hq ?_
  rintro _ rfl _ rfl _ rfl _ rfl _ rfl _ rfl
  generalize hh : ajSI (ajSI (ajSI (ajSI (ajSI (ajSI h (q + 3) 0 v1) (q + 3) 1 v2) (q + 3) 2 v3) (q + 3) 3 v4) (q + 3) 4 v5) (q + 3) 5 v6 = h1
  have f1 : FR h h1 (fun o _ => o = q + 2 ∨ o = q + 3) := by
    subst hh
    exact FR_trans (FR_trans (FR_trans (FR_trans (FR_trans (FR_SI h (Or.inr rfl)) (FR_SI _ (Or.inr rfl))) (FR_SI _ (Or.inr rfl))) (FR_SI _ (Or.inr rfl))) (FR_SI _ (Or.inr rfl))) (FR_SI _ (Or.inr rfl))
  have s1 : ajShp h1 := by subst hh; exact hs
  have wl : ∀ i, i < 6 → ajI h1 (q + 3) i = vx6 v1 v2 v3 v4 v5 v6 i := by
    intro i hi
    subst hh
    have hi : i = 0 ∨ i = 1 ∨ i = 2 ∨ i = 3 ∨ i = 4 ∨ i = 5 := by omega
    rcases hi with rfl | rfl | rfl | rfl | rfl | rfl <;> simp only [ajI_SI] <;> simp [vx6]
  have w : WH h1 q (fun i => (pCo (pLaw B L 240 0 0)).getD i 0) (pCo (pLaw B L 240 0 0)).length (vx6 v1 v2 v3 v4 v5 v6) :=
    ⟨(FR_I f1 (by omega)).trans hc.2.1, hc.2.2.1, fun i hi => (FR_I f1 (by omega)).trans (hc.2.2.2 i hi), wl⟩
  refine S75L (B := B) (L := L) hq 240 0 0 d h1 Q _ _ _ _ _ _ _ _ _ _ _ (Nat.zero_le _) hc.1 s1 w ⟨by omega, fun i hi => by rw [Nat.zero_add]⟩ (by omega) ?_
  intro h' f
  exact H h' (FR_trans f1 (FR_mono f (fun o _ z => Or.inl z)))

