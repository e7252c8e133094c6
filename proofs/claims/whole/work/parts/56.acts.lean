/-! The class's states copied, kept, taken back. -/
def PCc (q o j : Nat) : Prop := o = q ∧ (j < 8 ∨ j = 10) ∨ o = q + 1 ∨ o = q + 2
theorem S62 {d q r n : Nat} {h : ajH} {Q : Option Value → ajH → Prop} {R : Nat → Int32} {LG : Nat → Nat → Int32} (hq : sQ q) (hr : sQ r) (hd : q + 5 ≤ r ∨ r + 5 ≤ q) (n8 : n ≤ 8) (hs : ajShp h) (cs : CS h r n R) (h18 : R 18 = 0 ∨ R 18 = 1)
    (H : ∀ h', FR h h' (PCc q) → cX h' q n (R, 0, LG) → Q none h') : ajEv d 62 0 [.ref q, .ref r] [] h Q := by
  obtain ⟨⟨c0, c1, c2, c3, c4, c5, c6, c7⟩, c8⟩ := cs
  refine W62_0 hs hq.1 hr.1 ?_
  rintro _ rfl _ rfl _ rfl _ rfl _ rfl _ rfl _ rfl
  generalize e7 : (ajSI (ajSI (ajSI (ajSI (ajSI (ajSI (ajSI h q 0 _) q 1 _) q 2 _) q 3 _) q 4 _) q 5 _) q 6 _) = h7
  have f7 : FR h h7 (fun o j => o = q ∧ j < 7) := by
    subst e7
    exact FR_trans (FR_trans (FR_trans (FR_trans (FR_trans (FR_trans (FR_SI h ⟨rfl, by omega⟩) (FR_SI _ ⟨rfl, by omega⟩)) (FR_SI _ ⟨rfl, by omega⟩)) (FR_SI _ ⟨rfl, by omega⟩)) (FR_SI _ ⟨rfl, by omega⟩)) (FR_SI _ ⟨rfl, by omega⟩)) (FR_SI _ ⟨rfl, by omega⟩)
  have a7 : (ajI h7 q 0 = ajI h r 0 ∧ ajI h7 q 1 = ajI h r 1 ∧ ajI h7 q 2 = ajI h r 2 ∧ ajI h7 q 3 = ajI h r 3) ∧ ajI h7 q 4 = ajI h r 4 ∧ ajI h7 q 5 = ajI h r 5 ∧ ajI h7 q 6 = ajI h r 6 := by
    subst e7
    have hne : ¬ r = q := by omega
    refine ⟨⟨?_, ?_, ?_, ?_⟩, ?_, ?_, ?_⟩ <;> simp [ajI_SI, hne]
  clear e7
  have er : ajI h7 r 7 = R 18 := (FR_I f7 (by omega)).trans c7
  rw [er]
  refine ⟨h18, ?_⟩
  rintro _ rfl _ rfl _ rfl
  have f8 : FR h7 (ajSI (ajCp (ajSI h7 q 7 (R 18)) (q + 1) (r + 1) 0 0 8) q 10 0) (fun o j => o = q ∧ (j = 7 ∨ j = 10) ∨ o = q + 1) := FR_trans (FR_trans (FR_SI h7 (by omega)) (FR_Cp _ (fun j _ _ => by omega))) (FR_SI _ (by omega))
  have k7 : ajI (ajSI (ajCp (ajSI h7 q 7 (R 18)) (q + 1) (r + 1) 0 0 8) q 10 0) q 7 = R 18 := by
    simp [ajI_SI, ajI_Cp]
  have k10 : ajI (ajSI (ajCp (ajSI h7 q 7 (R 18)) (q + 1) (r + 1) 0 0 8) q 10 0) q 10 = 0 := by
    rw [ajI_SI, if_pos ⟨rfl, rfl⟩]
  have kv : ∀ k, k < n → ajI (ajSI (ajCp (ajSI h7 q 7 (R 18)) (q + 1) (r + 1) 0 0 8) q 10 0) (q + 1) k = R (2 * k) := fun k hk => by
    rw [ajI_SI, if_neg (by omega), ajI_Cp, if_pos (by omega), ajI_SI, if_neg (by omega), show 0 + (k - 0) = k by omega, FR_I f7 (by omega)]
    exact c8 k hk
  generalize ajSI (ajCp (ajSI h7 q 7 (R 18)) (q + 1) (r + 1) 0 0 8) q 10 0 = h8 at f8 k7 k10 kv
  have g : ∀ j, j < 7 → ajI h8 q j = ajI h7 q j := fun j hj => FR_I f8 (by omega)
  refine H h8 (FR_trans (FR_mono f7 (fun o j z => by unfold PCc; omega)) (FR_mono f8 (fun o j z => by unfold PCc; omega))) ⟨⟨⟨?_, ?_, ?_, ?_, ?_, ?_, ?_, k7⟩, kv⟩, k10, fun e h1 _ => absurd h1 (Nat.not_lt_zero e)⟩
  · exact (g _ (by omega)).trans (a7.1.1.trans c0)
  · exact (g _ (by omega)).trans (a7.1.2.1.trans c1)
  · exact (g _ (by omega)).trans (a7.1.2.2.1.trans c2)
  · exact (g _ (by omega)).trans (a7.1.2.2.2.trans c3)
  · exact (g _ (by omega)).trans (a7.2.1.trans c4)
  · exact (g _ (by omega)).trans (a7.2.2.1.trans c5)
  · exact (g _ (by omega)).trans (a7.2.2.2.trans c6)
theorem S61 {d q r n : Nat} {h : ajH} {Q : Option Value → ajH → Prop} {X : XT} (hq : sQ q) (hr : sQ r) (hd : q + 5 ≤ r ∨ r + 5 ≤ q) (n8 : n ≤ 8) (hs : ajShp h) (cx : cX h r n X) (h18 : X.1 18 = 0 ∨ X.1 18 = 1)
    (H : ∀ h', FR h h' (PCc q) → cX h' q n X → Q none h') : ajEv (d + 1) 61 0 [.ref q, .ref r] [] h Q := by
  refine W61_0 hs hq.1 hr.1 ?_
  refine S62 (LG := X.2.2) hq hr hd n8 hs cx.1 h18 ?_
  intro h1 f1 cx1 s1
  refine ⟨rfl, ?_⟩
  rintro _ rfl _ rfl
  have f2 : FR h1 (ajSI (ajCp h1 (q + 2) (r + 2) 0 0 60) q 10 (ajI (ajCp h1 (q + 2) (r + 2) 0 0 60) r 10)) (fun o j => o = q ∧ j = 10 ∨ o = q + 2) := FR_trans (FR_Cp _ (fun j _ _ => by omega)) (FR_SI _ (by omega))
  refine H _ (FR_trans f1 (FR_mono f2 (fun o j z => by unfold PCc; omega))) ⟨CS_FR cx1.1 f2 (fun j hj => by omega) (fun j => by omega), ?_, fun e h1' h2 => ?_⟩
  · rw [ajI_SI, if_pos ⟨rfl, rfl⟩, ajI_Cp, if_neg (by omega), FR_I f1 (by unfold PCc; omega)]
    exact cx.2.1
  · have l := Nat.mod_lt e (show 0 < 60 by omega)
    rw [ajI_SI, if_neg (by omega), ajI_Cp, if_pos (by omega), show 0 + (e % 60 - 0) = e % 60 by omega, FR_I f1 (by unfold PCc; omega)]
    exact cx.2.2 e h1' h2
theorem sQ_54 : sQ 54 := ⟨ajKc rfl, by omega, by omega⟩
theorem sQ_59 : sQ 59 := ⟨ajKc rfl, by omega, by omega⟩
theorem sQ_64 : sQ 64 := ⟨ajKc rfl, by omega, by omega⟩
theorem sQ_a : ∀ i < 40, sQ (71 + 5 * i) := by
  have e : ∀ i < 40, (71 + 5 * i < 343 ∧ (ajSh (71 + 5 * i)).1 = 6) ∧ 54 ≤ 71 + 5 * i ∧ 71 + 5 * i + 4 < 320 := by decide +kernel
  exact fun i hi => e i hi
theorem wQ_4 : wQ 4 := ⟨ajKc rfl, by omega⟩
