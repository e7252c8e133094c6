/-! The reference takes a text. -/
theorem MI_t0 {S : GS} {h : ajH} (c : MI S h) : MI (sT0 S) (ajSI h 320 6 0) := by
  have f : FR h (ajSI h 320 6 0) (fun o j => o = 320 ∧ j = 6) := FR_SI h ⟨rfl, rfl⟩
  obtain ⟨⟨t, sc⟩, k2, k3, k4, k5, k6, k7, k8⟩ := c
  exact ⟨⟨⟨rfl, Nat.zero_le _, t.2.2.1, fun k hk => absurd hk (Nat.not_lt_zero _)⟩, SC_FR sc f (fun o j ho z => by omega)⟩, r2_FR k2 f (fun o j z => by unfold d2; omega), r3_FR k3 f (fun o j z => by unfold d3; omega), r4_FR k4 f (fun o j z => by unfold d4; omega), r5_FR k5 f (fun o j z => by unfold d5; omega), r6_FR k6 f (fun o j z => by unfold d6; omega), r7_FR k7 f (fun o j z => by unfold d7; omega), r8_FR k8 f (fun o j z => by omega)⟩
/-! the wheel -/
theorem S176_215 {d : Nat} {v : Int32} {RU : Nat → Nat} : ∀ (n i : Nat) (h : ajH) (Q : Option Value → ajH → Prop) (u1 u2 : Value), i + n = 4 → ajShp h → (∀ j, j < 4 → ajI h 326 j = nI (RU j)) → (∀ j, j < i → ajI h 325 j = nI (RU j)) → (∀ h', ajShp h' → FR h h' (fun o _ => o = 325) → (∀ j, j < 4 → ajI h' 325 j = nI (RU j)) → ajEv (d + 1) 176 240 [.ref 320, ajU, ajU, .int 0] [] h' Q) → ajEv (d + 1) 176 215 [.ref 320, u1, u2, .int (nI i)] [] h Q := by
  intro n
  induction n with
  | zero =>
    intro i h Q u1 u2 hi hs hm hR H
    refine W176_215 hs ?_
    rw [if_pos (by rw [sl_4, sr_le (by omega) (by omega)]; omega)]
    exact H h hs (FR_refl _ _) (fun j hj => hR j (by omega))
  | succ n ih =>
    intro i h Q u1 u2 hi hs hm hR H
    refine W176_215 hs ?_
    rw [if_neg (by rw [sl_4, sr_le (by omega) (by omega)]; omega), sr_in (by omega), sr_N (by omega), nI_1]
    refine ⟨by omega, by omega, ?_⟩
    rintro _ rfl
    refine ih (i + 1) _ Q _ _ (by omega) hs (fun j hj => by rw [ajI_SI, if_neg (by omega)]; exact hm j hj) ?_ ?_
    · intro j hj
      rw [ajI_SI]
      by_cases e : j = i
      · rw [if_pos ⟨rfl, e⟩, e]; exact hm i (by omega)
      · rw [if_neg (by omega)]; exact hR j (by omega)
    · intro h' s' f hR'
      exact H h' s' (FR_trans (FR_SI h rfl) f) hR'
theorem S176_240 {d : Nat} {g : Nat → Int32} : ∀ (n i : Nat) (h : ajH) (Q : Option Value → ajH → Prop) (u1 u2 : Value), i + n = 24 → ajShp h → (∀ j, j < 24 → ajI h 328 j = g j) → (∀ j, j < i → ajI h 327 j = g j) →
    (∀ h', ajShp h' → FR h h' (fun o _ => o = 327) → (∀ j, j < 24 → ajI h' 327 j = g j) → ajEv d 177 0 [.ref 320, .ref 331, ajU] [] h' (fun r h2 => ajShp h2 → r = none ∧ ∀ h4, h4 = ajSI h2 320 45 0 → ∀ h5, h5 = ajSI h4 320 39 0 → ∀ h6, h6 = ajSI h5 320 48 0 → Q (some (.int (ajI h6 320 24))) h6)) → ajEv (d + 1) 176 240 [.ref 320, u1, u2, .int (nI i)] [] h Q := by
  intro n
  induction n with
  | zero =>
    intro i h Q u1 u2 hi hs hm hR H
    refine W176_240 hs ?_
    rw [if_pos (by rw [sl_24, sr_le (by omega) (by omega)]; omega)]
    exact H h hs (FR_refl _ _) (fun j hj => hR j (by omega))
  | succ n ih =>
    intro i h Q u1 u2 hi hs hm hR H
    refine W176_240 hs ?_
    rw [if_neg (by rw [sl_24, sr_le (by omega) (by omega)]; omega), sr_in (by omega), sr_N (by omega), nI_1]
    refine ⟨by omega, by omega, ?_⟩
    rintro _ rfl
    refine ih (i + 1) _ Q _ _ (by omega) hs (fun j hj => by rw [ajI_SI, if_neg (by omega)]; exact hm j hj) ?_ ?_
    · intro j hj
      rw [ajI_SI]
      by_cases e : j = i
      · rw [if_pos ⟨rfl, e⟩, e]; exact hm i (by omega)
      · rw [if_neg (by omega)]; exact hR j (by omega)
    · intro h' s' f hR'
      exact H h' s' (FR_trans (FR_SI h rfl) f) hR'
def PTw (o j : Nat) : Prop := o = 320 ∧ (j = 24 ∨ j = 39 ∨ j = 45 ∨ j = 48) ∨ o = 325 ∨ o = 327 ∨ o = 331
theorem S176w {S : GS} {d z : Nat} {RU : Nat → Nat} {FO : Nat → Nat → Nat} {h h8 : ajH} {Q : Option Value → ajH → Prop} {u1 u2 : Value} (hs : ajShp h8) (c : MI S h) (mw : MW h z RU FO) (z8 : z ≤ 8) (e8 : h8 = ajSI h 320 24 (ajI h 320 25))
    (H : ∀ h', FR h h' PTw → MI (tWh S z RU FO) h' → Q (some (.int (nI z))) h') : ajEv (d + 1) 176 215 [.ref 320, u1, u2, .int 0] [] h8 Q := by
  rw [mw.1] at e8
  have fa : FR h h8 (fun o j => o = 320 ∧ j = 24) := by subst e8; exact FR_SI h ⟨rfl, rfl⟩
  have q24 : ajI h8 320 24 = nI z := by subst e8; rfl
  clear e8
  refine S176_215 (v := 0) (RU := RU) 4 0 h8 Q u1 u2 (by omega) hs (fun j hj => (FR_I fa (by omega)).trans (mw.2.1 j hj)) (fun j hj => absurd hj (Nat.not_lt_zero _)) ?_
  intro h1 s1 f1 hr1
  refine S176_240 (g := ajI h1 328) 24 0 h1 Q _ _ (by omega) s1 (fun j hj => rfl) (fun j hj => absurd hj (Nat.not_lt_zero _)) ?_
  intro h2 s2 f2 hf2
  have hz2 : ajI h2 320 24 = nI z := (FR_I f2 (by omega)).trans ((FR_I f1 (by omega)).trans q24)
  have hr2 : ∀ j, j < 4 → ajI h2 325 j = nI (RU j) := fun j hj => (FR_I f2 (by omega)).trans (hr1 j hj)
  have ho2 : ∀ k, k < z → ∀ j, j < 3 → ajI h2 327 (3 * k + j) = nI (FO k j) := fun k hk j hj => by
    rw [hf2 _ (by omega), FR_I f1 (by omega), FR_I fa (by omega)]
    exact mw.2.2 k hk j hj
  refine S177 (LG := fun _ _ => 0) (Or.inl rfl) z8 s2 ⟨hz2, hr2, fun k hk => ho2 k hk 1 (by omega)⟩ ?_
  intro h3 f3 m3 s3
  refine ⟨rfl, ?_⟩
  rintro g1 e1 g2 e2 g3 e3
  have f4 : FR h3 g3 (fun o j => o = 320 ∧ (j = 39 ∨ j = 45 ∨ j = 48)) := by
    subst e3 e2 e1
    exact FR_trans (FR_trans (FR_SI h3 (by omega)) (FR_SI _ (by omega))) (FR_SI _ (by omega))
  have q45 : ajI g3 320 45 = nI 0 := by subst e3 e2 e1; rfl
  have q39 : ajI g3 320 39 = nI 0 := by subst e3 e2 e1; rfl
  have q48 : ajI g3 320 48 = flg false := by subst e3 e2 e1; rfl
  have f34 : FR h2 g3 (fun o j => o = 331 ∨ o = 320 ∧ (j = 39 ∨ j = 45 ∨ j = 48)) := FR_tr f3 f4 (fun o j z => Or.inl z) (fun o j z => Or.inr z)
  have f : FR h g3 PTw := FR_tr (FR_tr (P := PTw) (FR_tr (P := PTw) fa f1 (fun o j z => by unfold PTw; omega) (fun o j z => by unfold PTw; omega)) f2 (fun o j z => z) (fun o j z => by unfold PTw; omega)) f34 (fun o j z => z) (fun o j z => by unfold PTw; omega)
  have hz3 : ajI g3 320 24 = nI z := (FR_I f34 (by omega)).trans hz2
  rw [hz3]
  refine H g3 f ?_
  obtain ⟨k1, k2, ⟨⟨u1, u2, u3, u4, u5⟩, j4, lm, cj⟩, k4, k5, k6, k7, k8⟩ := c
  refine ⟨r1_FR k1 f (fun o j z => by unfold PTw at z; unfold d1; omega), ⟨hz3, fun j hj _ => (FR_I f34 (by omega)).trans (hr2 j hj), fun k hk j hj => (FR_I f34 (by omega)).trans (ho2 k hk j hj)⟩, ⟨⟨(FR_I f (by unfold PTw; omega)).trans u1, (FR_I f (by unfold PTw; omega)).trans u2, (FR_I f (by unfold PTw; omega)).trans u3, (FR_I f (by unfold PTw; omega)).trans u4, q48⟩, j4, LawsM_FR lm f (fun j => ⟨by unfold PTw; omega, by unfold PTw; omega⟩), fun i hi => ⟨(FR_I f (by unfold PTw; omega)).trans (cj i hi).1, (cj i hi).2.1, fun k hk => ⟨(FR_I f (by unfold PTw; omega)).trans ((cj i hi).2.2 k hk).1, (FR_I f (by unfold PTw; omega)).trans ((cj i hi).2.2 k hk).2⟩⟩⟩, mX_FR m3 f4 (fun j => by omega), ⟨q39, Nat.zero_le _, fun i hi => absurd hi (Nat.not_lt_zero _)⟩, fun e => Bool.noConfusion (show false = true from e), ⟨q45, Nat.zero_le _, fun i hi => absurd hi (Nat.not_lt_zero _)⟩, r8_FR k8 f (fun o j z => by unfold PTw at z; omega)⟩
/-! a law -/
theorem nar_by (x : Int8) : vp_nar .byte x.toInt32 = x.toInt32 := by
  rw [vp_nar_byte]
  first | rw [Int8.toInt8_toInt32] | simp
theorem S176_71 {S : GS} {d : Nat} {T : TP} (m4 : gm S < 4) (t240 : T.2 ≤ 240) : ∀ (n i : Nat) (h : ajH) (Q : Option Value → ajH → Prop) (u1 : Value), i + n = T.2 → ajShp h → ajI h 320 7 = nI (gm S) → (∀ k, k < T.2 → ajI h 321 k = (nI (T.1 k)).toInt8.toInt32) → (∀ k, k < i → ajI h 322 (240 * gm S + k) = (nI (T.1 k)).toInt8.toInt32) →
    (∀ h', ajShp h' → FR h h' (fun o j => o = 322 ∧ 240 * gm S ≤ j ∧ j < 240 * gm S + 240) → (∀ k, k < T.2 → ajI h' 322 (240 * gm S + k) = (nI (T.1 k)).toInt8.toInt32) → ∀ h2, h2 = ajSI h' 323 (gm S) (nI T.2) → ∀ h3, h3 = ajSI h2 320 7 (nI (gm S + 1)) → Q (some (.int (nI (gm S)))) h3) → ajEv (d + 1) 176 71 [.ref 320, u1, .int (nI T.2), .int (nI i)] [] h Q := by
  intro n
  induction n with
  | zero =>
    intro i h Q u1 hi hs h7 ht hR H
    refine W176_71 hs ?_
    rw [if_pos (by rw [sr_le (by omega) (by omega)]; omega), h7, sr_in (by omega), sr_N (by omega)]
    refine ⟨m4, ?_⟩
    rintro h2 e2 h3 e3
    have q7 : ajI h2 320 7 = nI (gm S) := by subst e2; exact h7
    rw [q7, nI_1] at e3
    have q3 : ajI h3 320 7 - 1 = nI (gm S) := by
      subst e3
      rw [ajI_SI, if_pos ⟨rfl, rfl⟩, sl_1, sr_sub (by omega), show gm S + 1 - 1 = gm S by omega]
    rw [q3]
    exact H h hs (FR_refl _ _) (fun k hk => hR k (by omega)) h2 e2 h3 e3
  | succ n ih =>
    intro i h Q u1 hi hs h7 ht hR H
    refine W176_71 hs ?_
    rw [if_neg (by rw [sr_le (by omega) (by omega)]; omega), h7, sl_240, sr_mul, sr_add, sr_in (by omega), sr_in (by omega), sr_N (by omega), sr_N (by omega), ht i (by omega), nar_by, nI_1]
    refine ⟨by omega, by omega, ?_⟩
    rintro _ rfl
    have f1 : FR h (ajSI h 322 (240 * gm S + i) (nI (T.1 i)).toInt8.toInt32) (fun o j => o = 322 ∧ 240 * gm S ≤ j ∧ j < 240 * gm S + 240) := FR_SI h (by omega)
    refine ih (i + 1) _ Q _ (by omega) hs ((FR_I f1 (by omega)).trans h7) (fun k hk => (FR_I f1 (by omega)).trans (ht k hk)) ?_ (fun h' s' f hR' => H h' s' (FR_trans f1 f) hR')
    intro k hk
    rw [ajI_SI]
    by_cases e : k = i
    · rw [if_pos ⟨rfl, by omega⟩, e]
    · rw [if_neg (by omega)]
      exact hR k (by omega)
theorem lw_cg {TB TB' : Nat → Nat → Nat} {TL TL' : Nat → Nat} {i : Nat} (e1 : TB i = TB' i) (e2 : TL i = TL' i) (v d o f w t : Int32) : lw TB TL i v d o f w t = lw TB' TL' i v d o f w t := by
  unfold lw
  rw [e1, e2]
def PTn (o j : Nat) : Prop := o = 322 ∨ o = 323 ∨ o = 320 ∧ j = 7
theorem S176l {S : GS} {d : Nat} {T : TP} {h : ajH} {Q : Option Value → ajH → Prop} {u1 : Value} (hs : ajShp h) (c : MI S h) (m4 : gm S < 4) (t240 : T.2 ≤ 240) (tb : ∀ k, T.1 k < 256) (ht : ∀ k, k < T.2 → ajI h 321 k = (nI (T.1 k)).toInt8.toInt32) (ok : pOk (pLaw T.1 T.2 240 0 0) = true)
    (H : ∀ h', FR h h' PTn → MI (tLw S T.1 T.2) h' → Q (some (.int (nI (gm S)))) h') : ajEv (d + 1) 176 71 [.ref 320, u1, .int (nI T.2), .int 0] [] h Q := by
  refine S176_71 m4 t240 T.2 0 h Q u1 (by omega) hs c.2.2.1.1.1 ht (fun k hk => absurd hk (Nat.not_lt_zero _)) ?_
  intro h1 s1 f1 hR h2 e2 h3 e3
  have f23 : FR h1 h3 (fun o j => o = 323 ∧ j = gm S ∨ o = 320 ∧ j = 7) := by
    subst e3 e2
    exact FR_trans (FR_SI h1 (by omega)) (FR_SI _ (by omega))
  have q323 : ajI h3 323 (gm S) = nI T.2 := by
    subst e3 e2
    rw [ajI_SI, if_neg (by omega), ajI_SI, if_pos ⟨rfl, rfl⟩]
  have q7 : ajI h3 320 7 = nI (gm S + 1) := by
    subst e3
    rw [ajI_SI, if_pos ⟨rfl, rfl⟩]
  have f : FR h h3 (fun o j => o = 322 ∧ 240 * gm S ≤ j ∧ j < 240 * gm S + 240 ∨ o = 323 ∧ j = gm S ∨ o = 320 ∧ j = 7) := FR_tr f1 f23 (fun o j z => Or.inl z) (fun o j z => Or.inr z)
  refine H h3 (FR_mono f (fun o j z => by unfold PTn; omega)) ?_
  obtain ⟨k1, k2, ⟨⟨u1, u2, u3, u4, u5⟩, j4, lm, cj⟩, k4, k5, k6, k7, k8⟩ := c
  refine ⟨r1_FR k1 f (fun o j z => by unfold d1; omega), r2_FR k2 f (fun o j z => by unfold d2; omega), ⟨⟨q7, (FR_I f (by omega)).trans u2, (FR_I f (by omega)).trans u3, (FR_I f (by omega)).trans u4, (FR_I f (by omega)).trans u5⟩, j4, ⟨m4, ?_⟩, fun i hi => ⟨(FR_I f (by omega)).trans (cj i hi).1, (cj i hi).2.1, fun k hk => ⟨(FR_I f (by omega)).trans ((cj i hi).2.2 k hk).1, (FR_I f (by omega)).trans ((cj i hi).2.2 k hk).2⟩⟩⟩, r4_FR k4 f (fun o j z => by unfold d4; omega), r5_FR k5 f (fun o j z => by unfold d5; omega), r6_FR k6 f (fun o j z => by unfold d6; omega), r7_FR k7 f (fun o j z => by unfold d7; omega), ?_⟩
  · intro i hi
    have hi : i < gm S + 1 := hi
    show ajI h3 323 i = nI (if i = gm S then T.2 else gTL S i) ∧ (if i = gm S then T.2 else gTL S i) ≤ 240 ∧ (∀ k, (if i = gm S then T.1 else gTB S i) k < 256) ∧ (∀ k, k < (if i = gm S then T.2 else gTL S i) → ajI h3 322 (240 * i + k) = (nI ((if i = gm S then T.1 else gTB S i) k)).toInt8.toInt32) ∧ pOk (pLaw (if i = gm S then T.1 else gTB S i) (if i = gm S then T.2 else gTL S i) 240 0 0) = true
    by_cases e : i = gm S
    · simp only [if_pos e]
      rw [e]
      exact ⟨q323, t240, tb, fun k hk => (FR_I f23 (by omega)).trans (hR k hk), ok⟩
    · simp only [if_neg e]
      have l := lm.2 i (by omega)
      exact ⟨(FR_I f (by omega)).trans l.1, l.2.1, l.2.2.1, fun k hk => (FR_I f (by omega)).trans (l.2.2.2.1 k hk), l.2.2.2.2⟩
  · have k8' := MemoOK_FR k8 f (fun j => by omega)
    intro s hs'
    rcases k8' s hs' with z | ⟨i, v, dd, o, ff, w, t, hi, hb, z1, z2⟩
    · exact Or.inl z
    · refine Or.inr ⟨i, v, dd, o, ff, w, t, Nat.lt_succ_of_lt hi, hb, z1, z2.trans ?_⟩
      refine lw_cg ?_ ?_ _ _ _ _ _ _
      · show gTB S i = (if i = gm S then T.1 else gTB S i)
        rw [if_neg (by omega)]
      · show gTL S i = (if i = gm S then T.2 else gTL S i)
        rw [if_neg (by omega)]
/-! a journey -/
theorem S176_137 {S : GS} {d : Nat} {g : Nat → Int32} {n0 : Int32} (j4 : gmj S < 4) : ∀ (n i : Nat) (h : ajH) (Q : Option Value → ajH → Prop) (u1 u2 : Value), i + n = 32 → ajShp h → ajI h 320 26 = nI (gmj S) → ajI h 330 4 = n0 → (∀ k, k < 32 → ajI h 329 (128 + k) = g k) → (∀ k, k < i → ajI h 329 (32 * gmj S + k) = g k) →
    (∀ h', ajShp h' → FR h h' (fun o j => o = 329 ∧ 32 * gmj S ≤ j ∧ j < 32 * gmj S + 32) → (∀ k, k < 32 → ajI h' 329 (32 * gmj S + k) = g k) → ∀ h2, h2 = ajSI h' 330 (gmj S) n0 → ∀ h3, h3 = ajSI h2 320 26 (nI (gmj S + 1)) → Q (some (.int (nI (gmj S)))) h3) → ajEv (d + 1) 176 137 [.ref 320, u1, u2, .int (nI i)] [] h Q := by
  intro n
  induction n with
  | zero =>
    intro i h Q u1 u2 hi hs h7 h0 ht hR H
    refine W176_137 hs ?_
    rw [if_pos (by rw [sl_32, sr_le (by omega) (by omega)]; omega), h7, h0, sr_in (by omega), sr_N (by omega)]
    refine ⟨by omega, ?_⟩
    rintro h2 e2 h3 e3
    have q7 : ajI h2 320 26 = nI (gmj S) := by subst e2; exact h7
    rw [q7, nI_1] at e3
    have q3 : ajI h3 320 26 - 1 = nI (gmj S) := by
      subst e3
      rw [ajI_SI, if_pos ⟨rfl, rfl⟩, sl_1, sr_sub (by omega), show gmj S + 1 - 1 = gmj S by omega]
    rw [q3]
    exact H h hs (FR_refl _ _) (fun k hk => hR k (by omega)) h2 e2 h3 e3
  | succ n ih =>
    intro i h Q u1 u2 hi hs h7 h0 ht hR H
    refine W176_137 hs ?_
    rw [if_neg (by rw [sl_32, sr_le (by omega) (by omega)]; omega), h7, sl_32, sl_128, sr_mul, sr_add, sr_add, sr_in (by omega), sr_in (by omega), sr_N (by omega), sr_N (by omega), ht i (by omega), nI_1]
    refine ⟨by omega, by omega, ?_⟩
    rintro _ rfl
    have f1 : FR h (ajSI h 329 (32 * gmj S + i) (g i)) (fun o j => o = 329 ∧ 32 * gmj S ≤ j ∧ j < 32 * gmj S + 32) := FR_SI h (by omega)
    refine ih (i + 1) _ Q _ _ (by omega) hs ((FR_I f1 (by omega)).trans h7) ((FR_I f1 (by omega)).trans h0) (fun k hk => (FR_I f1 (by omega)).trans (ht k hk)) ?_ (fun h' s' f hR' => H h' s' (FR_trans f1 f) hR')
    intro k hk
    rw [ajI_SI]
    by_cases e : k = i
    · rw [if_pos ⟨rfl, by omega⟩, e]
    · rw [if_neg (by omega)]
      exact hR k (by omega)
def PTj (o j : Nat) : Prop := o = 329 ∧ j < 128 ∨ o = 330 ∧ j < 4 ∨ o = 320 ∧ j = 26
theorem S176j {S : GS} {d n : Nat} {K : Nat → Nat} {D : Nat → Int32} {h : ajH} {Q : Option Value → ajH → Prop} {u1 u2 : Value} (hs : ajShp h) (c : MI S h) (j4 : gmj S < 4) (hn : n ≤ 16) (h0 : ajI h 330 4 = nI n) (mj : MJ h n K D)
    (H : ∀ h', FR h h' PTj → MI (tJr S n K D) h' → Q (some (.int (nI (gmj S)))) h') : ajEv (d + 1) 176 137 [.ref 320, u1, u2, .int 0] [] h Q := by
  refine S176_137 (g := fun k => ajI h 329 (128 + k)) j4 32 0 h Q u1 u2 (by omega) hs c.2.2.1.1.2.2.2.1 h0 (fun k hk => rfl) (fun k hk => absurd hk (Nat.not_lt_zero _)) ?_
  intro h1 s1 f1 hR h2 e2 h3 e3
  have f23 : FR h1 h3 (fun o j => o = 330 ∧ j = gmj S ∨ o = 320 ∧ j = 26) := by
    subst e3 e2
    exact FR_trans (FR_SI h1 (by omega)) (FR_SI _ (by omega))
  have q330 : ajI h3 330 (gmj S) = nI n := by
    subst e3 e2
    rw [ajI_SI, if_neg (by omega), ajI_SI, if_pos ⟨rfl, rfl⟩]
  have q26 : ajI h3 320 26 = nI (gmj S + 1) := by
    subst e3
    rw [ajI_SI, if_pos ⟨rfl, rfl⟩]
  have f : FR h h3 (fun o j => o = 329 ∧ 32 * gmj S ≤ j ∧ j < 32 * gmj S + 32 ∨ o = 330 ∧ j = gmj S ∨ o = 320 ∧ j = 26) := FR_tr f1 f23 (fun o j z => Or.inl z) (fun o j z => Or.inr z)
  refine H h3 (FR_mono f (fun o j z => by unfold PTj; omega)) ?_
  obtain ⟨k1, k2, ⟨⟨u1, u2, u3, u4, u5⟩, _, lm, cj⟩, k4, k5, k6, k7, k8⟩ := c
  refine ⟨r1_FR k1 f (fun o j z => by unfold d1; omega), r2_FR k2 f (fun o j z => by unfold d2; omega), ⟨⟨(FR_I f (by omega)).trans u1, (FR_I f (by omega)).trans u2, (FR_I f (by omega)).trans u3, q26, (FR_I f (by omega)).trans u5⟩, j4, LawsM_FR lm f (fun j => ⟨by omega, by omega⟩), ?_⟩, r4_FR k4 f (fun o j z => by unfold d4; omega), r5_FR k5 f (fun o j z => by unfold d5; omega), r6_FR k6 f (fun o j z => by unfold d6; omega), r7_FR k7 f (fun o j z => by unfold d7; omega), r8_FR k8 f (fun o j z => by omega)⟩
  intro i hi
  have hi : i < gmj S + 1 := hi
  show ajI h3 330 i = nI (if i = gmj S then n else gJn S i) ∧ (if i = gmj S then n else gJn S i) ≤ 16 ∧ ∀ k, k < (if i = gmj S then n else gJn S i) → ajI h3 329 (32 * i + 2 * k) = nI ((if i = gmj S then K else gJK S i) k) ∧ ajI h3 329 (32 * i + 2 * k + 1) = (if i = gmj S then D else gJD S i) k
  by_cases e : i = gmj S
  · simp only [if_pos e]
    rw [e]
    refine ⟨q330, hn, fun k hk => ⟨?_, ?_⟩⟩
    · rw [FR_I f23 (by omega), hR (2 * k) (by omega)]
      exact (mj k hk).1
    · rw [FR_I f23 (by omega), show 32 * gmj S + 2 * k + 1 = 32 * gmj S + (2 * k + 1) by omega, hR (2 * k + 1) (by omega)]
      exact (mj k hk).2
  · simp only [if_neg e]
    have l := cj i (by omega)
    have l16 := l.2.1
    refine ⟨(FR_I f (by omega)).trans l.1, l.2.1, fun k hk => ⟨(FR_I f (by omega)).trans (l.2.2 k hk).1, (FR_I f (by omega)).trans (l.2.2 k hk).2⟩⟩
def PTu (o _j : Nat) : Prop := 320 ≤ o ∧ o < 1000
/-- the text is read, then taken -/
theorem S176_43 {S : GS} {d o : Nat} {h : ajH} {Q : Option Value → ajH → Prop} {u2 u3 : Value} (ho : o < 3) (hs : ajShp h) (c : MI S h) (m4 : o = 1 → gm S < 4) (j4 : o = 2 → gmj S < 4)
    (H : ∀ h', FR h h' PTu → MI (txG S o) h' → Q (some (.int (txA S o))) h') : ajEv (d + 41) 176 43 [.ref 320, .int (nI o), u2, u3] [] h Q := by
  have t240 := c.1.1.2.1
  have ea : aFault S (nI o) = if txOK (gT S) o = true then -1 else nI (txAt (gT S) o) := by
    unfold aFault
    have e : isp 3 (nI o) = true := by unfold isp; rw [if_neg (by rw [sr_lt0 (by omega)]; exact fun z => z), if_neg (by rw [sr_le (by omega) (by omega)]; omega)]
    rw [e, if_pos rfl, sr_N (by omega)]
  have hat := txAt_le (T := gT S) (o := o)
  refine W176_43 hs ?_
  refine S144 hs c ?_
  intro h1 f1 c1 p s1
  have p := p o ho rfl
  refine ⟨_, rfl, ?_⟩
  rw [ea]
  have f1u : FR h h1 PTu := FR_mono f1 (fun o j z => by unfold PFm PM Pg PL at z; unfold PTu; omega)
  unfold txG txA at H
  cases e2 : txOK (gT S) o with
  | false =>
    rw [if_neg (show ¬ false = true by decide), if_neg (by rw [sr_neg1 (by omega)]; exact fun z => z)]
    rw [e2, if_neg (by decide), if_neg (by decide)] at H
    exact H h1 f1u c1
  | true =>
    rw [if_pos rfl, if_pos rfl]
    rw [e2, if_pos rfl, if_pos rfl] at H
    have pp := (p.1 e2).2
    unfold txOK at e2
    rintro h5 e5
    have c5 : MI (sT0 S) h5 := by rw [e5]; exact MI_t0 c1
    have f5 : FR h1 h5 (fun o j => o = 320 ∧ j = 6) := by subst e5; exact FR_SI h1 ⟨rfl, rfl⟩
    have f5u : FR h h5 PTu := FR_trans f1u (FR_mono f5 (fun o j z => by unfold PTu; omega))
    have s5 : ajShp h5 := by subst e5; exact s1
    clear e5
    have : o = 0 ∨ o = 1 ∨ o = 2 := by omega
    rcases this with rfl | rfl | rfl
    · rw [if_pos (by decide), if_pos (by decide)]
      rw [if_pos rfl, if_pos rfl] at H
      rw [if_pos rfl] at e2
      rintro h8 e8
      have s8 : ajShp h8 := by subst e8; exact s5
      have w := rWh_ok e2
      obtain ⟨w1, w2, w3⟩ := pp.1 rfl
      have mw5 : MW h5 (rWh (gT S).1 (gT S).2).2.2.1 (rWh (gT S).1 (gT S).2).2.2.2.1 (rWh (gT S).1 (gT S).2).2.2.2.2 := ⟨(FR_I f5 (by omega)).trans w1, fun j hj => (FR_I f5 (by omega)).trans (w2 j hj), fun k hk j hj => (FR_I f5 (by omega)).trans (w3 k hk j hj)⟩
      refine S176w (d := d + 40) (S := sT0 S) s8 c5 mw5 w.2.1 e8 ?_
      intro h' f' c'
      exact H h' (FR_trans f5u (FR_mono f' (fun o j z => by unfold PTw at z; unfold PTu; omega))) c'
    · rw [if_neg (show ¬ ¬ nI 1 = 1 from fun z => z rfl)]
      have mm := m4 rfl
      simp only [if_neg (show ¬ (1 : Nat) = 0 by decide), if_pos (rfl : (1 : Nat) = 1), if_pos mm] at H
      rw [if_neg (by decide), if_pos rfl] at e2
      have tm := c1.1.1
      rw [tm.1]
      refine S176l (d := d + 40) (S := sT0 S) (T := gT S) s5 c5 (m4 rfl) tm.2.1 tm.2.2.1 (fun k hk => (FR_I f5 (by omega)).trans (tm.2.2.2 k hk)) e2 ?_
      intro h' f' c'
      exact H h' (FR_trans f5u (FR_mono f' (fun o j z => by unfold PTn at z; unfold PTu; omega))) c'
    · rw [if_pos (by decide), if_neg (show ¬ ¬ nI 2 = 2 from fun z => z rfl)]
      have jj := j4 rfl
      simp only [if_neg (show ¬ (2 : Nat) = 0 by decide), if_neg (show ¬ (2 : Nat) = 1 by decide), if_pos jj] at H
      obtain ⟨w1, w2⟩ := pp.2 rfl
      refine S176j (d := d + 40) (S := sT0 S) s5 c5 (j4 rfl) (rJ_bd _ _).1 ((FR_I f5 (by omega)).trans w1) (fun k hk => ⟨(FR_I f5 (by omega)).trans (w2 k hk).1, (FR_I f5 (by omega)).trans (w2 k hk).2⟩) ?_
      intro h' f' c'
      exact H h' (FR_trans f5u (FR_mono f' (fun o j z => by unfold PTj at z; unfold PTu; omega))) c'
theorem S176 {S : GS} {d : Nat} {v : Int32} {h : ajH} {Q : Option Value → ajH → Prop} (hs : ajShp h) (c : MI S h) (vd : GVd S)
    (H : ∀ h', FR h h' PTu → MI (gText S v) h' → Q (some (.int (aText S v))) h') : ajEv (d + 41) 176 0 [.ref 320, .int v, ajU, ajU] [] h Q := by
  have m4 := vd.m4
  have j4 := vd.j4
  refine W176_0 hs ?_
  rintro _ rfl
  have c0 := MI_0 (x := 0) c
  have f0 : FR h (ajSI h 320 0 0) PTu := FR_SI h (by unfold PTu; omega)
  have s0 : ajShp (ajSI h 320 0 0) := hs
  generalize ajSI h 320 0 0 = h0 at c0 f0 s0
  refine S145 (lo := 0) (hi := 2) s0 ?_
  intro s1
  refine ⟨_, rfl, ?_⟩
  have q2 := in_isp (n := 3) (v := v) (by omega)
  rw [show nI 3 - 1 = (2 : Int32) from rfl] at q2
  rw [q2]
  unfold gText aText at H
  cases e : isp 3 v with
  | false =>
    rw [if_pos (show flg false = 0 from rfl)]
    rw [e, if_neg (by decide), if_neg (by decide)] at H
    exact H h0 f0 c0
  | true =>
    rw [if_neg (show ¬ flg true = 0 by decide)]
    obtain ⟨o, ho, rfl⟩ := isp_K (by omega) e
    rw [e, if_pos rfl, if_pos rfl, sr_N (by omega)] at H
    have no1 : ¬ gm S < 4 → o = 1 → Q (some (.int (-1))) h0 := by
      intro h4 e1
      have z := H h0 f0
      unfold txG txA at z
      simp only [if_neg (show ¬ o = 0 by omega), if_pos e1, if_neg h4, ite_self] at z
      exact z c0
    have no2 : ¬ gmj S < 4 → o = 2 → Q (some (.int (-1))) h0 := by
      intro h4 e1
      have z := H h0 f0
      unfold txG txA at z
      simp only [if_neg (show ¬ o = 0 by omega), if_neg (show ¬ o = 1 by omega), if_neg h4, ite_self] at z
      exact z c0
    have go : (o = 1 → gm S < 4) → ∀ u2 u3, ajEv (d + 41) 176 30 [.ref 320, .int (nI o), u2, u3] [] h0 Q := by
      intro h1 u2 u3
      refine W176_30 s1 ?_
      rw [c0.2.2.1.1.2.2.2.1]
      have fin : (o = 2 → gmj S < 4) → ∀ u2 u3, ajEv (d + 41) 176 43 [.ref 320, .int (nI o), u2, u3] [] h0 Q := fun h2 u2 u3 => S176_43 ho s1 c0 h1 h2 (fun h' f' c' => H h' (FR_trans f0 f') c')
      by_cases e2 : o = 2
      · rw [if_neg (fun z => z (by rw [e2]; rfl))]
        by_cases h4 : gmj S < 4
        · rw [if_neg (by rw [sl_4, sr_eq (by omega) (by omega)]; omega)]
          exact fin (fun _ => h4) _ _
        · rw [if_pos (by rw [sl_4, sr_eq (by omega) (by omega)]; omega)]
          exact no2 h4 e2
      · rw [if_pos (by rw [sl_2, sr_eq (by omega) (by omega)]; exact e2)]
        exact fin (fun z => absurd z e2) _ _
    rw [c0.2.2.1.1.1]
    by_cases e1 : o = 1
    · rw [if_neg (fun z => z (by rw [e1]; rfl))]
      by_cases h4 : gm S < 4
      · rw [if_neg (by rw [sl_4, sr_eq (by omega) (by omega)]; omega)]
        exact go (fun _ => h4) _ _
      · rw [if_pos (by rw [sl_4, sr_eq (by omega) (by omega)]; omega)]
        exact no1 h4 e1
    · rw [if_pos (by rw [sl_1, sr_eq (by omega) (by omega)]; exact e1)]
      exact go (fun z => absurd z e1) _ _
