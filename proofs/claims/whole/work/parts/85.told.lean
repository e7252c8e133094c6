/-! The state as told. -/
def rTold (n : Nat) (RU : Nat → Nat) (FO : Nat → Nat → Nat) : Nat → Int32 := fun j =>
  if j < 16 then (if j % 2 = 0 ∧ j / 2 < n then nI (FO (j / 2) 1) else 0) else if j = 17 then nI (RU 1) else if j = 18 then nI (RU 3) else if j = 20 then nI (RU 2) else 0
theorem rTold_v {n k : Nat} {RU : Nat → Nat} {FO : Nat → Nat → Nat} (n8 : n ≤ 8) (hk : k < n) : rTold n RU FO (2 * k) = nI (FO k 1) := by
  unfold rTold
  rw [if_pos (by omega), if_pos ⟨by omega, by omega⟩, show 2 * k / 2 = k by omega]
theorem rTold_h {n k : Nat} {RU : Nat → Nat} {FO : Nat → Nat → Nat} (hk : k < 8) : rTold n RU FO (2 * k + 1) = 0 := by
  unfold rTold
  rw [if_pos (by omega), if_neg (by omega)]
theorem mk_all : ∀ n ≤ 8, (1 : Int32) <<< (nI n &&& 31) - 1 = mk (fun _ => true) n := by decide +kernel
theorem mk_none : ∀ n ≤ 8, (0 : Int32) = mk (fun _ => false) n := by decide +kernel
theorem RV_told {n : Nat} {RU : Nat → Nat} {FO : Nat → Nat → Nat} (n8 : n ≤ 8) (hz : 0 < n) (h1 : RU 1 < 10) (h3 : RU 3 < 2) (hv : ∀ k, k < n → FO k 1 < 10) : RV n 1000 (rTold n RU FO) := by
  have e16 : rTold n RU FO 16 = nI 0 := rfl
  have e17 : rTold n RU FO 17 = nI (RU 1) := rfl
  have e21 : rTold n RU FO 21 = nI 0 := rfl
  have e18 : rTold n RU FO 18 = nI (RU 3) := rfl
  have b0 : bN (rTold n RU FO) = 0 := by unfold bN; rw [e16, sr_N (by omega)]
  have t0 : tN (rTold n RU FO) = 0 := by unfold tN; rw [e21, sr_N (by omega)]
  have w0 : wN (rTold n RU FO) = RU 1 := by unfold wN; rw [e17, sr_N (by omega)]
  refine ⟨⟨by rw [b0]; exact e16, by rw [b0]; exact hz⟩, fun k hk => ?_, ⟨by rw [w0]; exact e17, by rw [w0]; exact h1⟩, ⟨by rw [t0]; exact e21, by rw [t0]; omega⟩, ?_, fun k hk => Or.inl (rTold_h (by omega))⟩
  · have l := hv k hk
    have v0 : vN (rTold n RU FO) k = FO k 1 := by unfold vN; rw [rTold_v n8 hk, sr_N (by omega)]
    rw [v0]; exact ⟨rTold_v n8 hk, l⟩
  · rw [e18]
    have : RU 3 = 0 ∨ RU 3 = 1 := by omega
    rcases this with e | e
    · rw [e]; exact Or.inl rfl
    · rw [e]; exact Or.inr rfl
theorem S45 {d q n : Nat} {h : ajH} {Q : Option Value → ajH → Prop} {RU : Nat → Nat} {FO : Nat → Nat → Nat} {LG : Nat → Nat → Int32} (hq : sQ q) (n8 : n ≤ 8) (h3 : RU 3 < 2) (hs : ajShp h) (c : CW h 4 n RU FO)
    (H : ∀ h', FR h h' (PCc q) → cX h' q n (rTold n RU FO, 0, LG) → Q none h') : ajEv d 45 0 [.ref q, .ref 4] [] h Q := by
  have hq2 := hq.2
  refine W45_0 hs hq.1 (ajKc rfl) ?_
  rintro _ rfl _ rfl _ rfl _ rfl _ rfl _ rfl _ rfl
  generalize e7 : (ajSI (ajSI (ajSI (ajSI (ajSI (ajSI (ajSI h q 0 _) q 1 _) q 2 _) q 3 _) q 4 _) q 5 _) q 6 _) = h7
  have f7 : FR h h7 (fun o j => o = q ∧ j < 7) := by
    subst e7
    exact FR_trans (FR_trans (FR_trans (FR_trans (FR_trans (FR_trans (FR_SI h ⟨rfl, by omega⟩) (FR_SI _ ⟨rfl, by omega⟩)) (FR_SI _ ⟨rfl, by omega⟩)) (FR_SI _ ⟨rfl, by omega⟩)) (FR_SI _ ⟨rfl, by omega⟩)) (FR_SI _ ⟨rfl, by omega⟩)) (FR_SI _ ⟨rfl, by omega⟩)
  have a7 : (ajI h7 q 0 = (1 : Int32) <<< (ajI h 4 0 &&& 31) - 1 ∧ ajI h7 q 1 = 0 ∧ ajI h7 q 2 = 0 ∧ ajI h7 q 3 = ajI h 5 1) ∧ ajI h7 q 4 = ajI h 5 2 ∧ ajI h7 q 5 = 0 ∧ ajI h7 q 6 = 0 := by
    subst e7
    have hne : ¬ 5 = q := by omega
    have hne4 : ¬ 4 = q := by omega
    refine ⟨⟨?_, ?_, ?_, ?_⟩, ?_, ?_, ?_⟩ <;> simp [ajI_SI, hne, hne4]
  have s7 : ajShp h7 := by subst e7; exact hs
  clear e7
  have go : ajEv d 45 68 [.ref q, .ref 4] [.int (nI (RU 3)), .ref q] h7 Q := by
    refine W45_68 s7 hq.1 (ajKc rfl) hq.1 ?_
    refine ⟨by have : RU 3 = 0 ∨ RU 3 = 1 := by omega
               rcases this with e | e <;> rw [e]
               · exact Or.inl rfl
               · exact Or.inr rfl, ?_⟩
    rintro _ rfl _ rfl _ rfl
    have f8 : FR h7 (ajSI (ajCp (ajSI h7 q 7 (nI (RU 3))) (q + 1) (4 + 4) 0 0 8) q 10 0) (fun o j => o = q ∧ (j = 7 ∨ j = 10) ∨ o = q + 1) := FR_trans (FR_trans (FR_SI h7 (by omega)) (FR_Cp _ (fun j _ _ => by omega))) (FR_SI _ (by omega))
    have k7 : ajI (ajSI (ajCp (ajSI h7 q 7 (nI (RU 3))) (q + 1) (4 + 4) 0 0 8) q 10 0) q 7 = nI (RU 3) := by
      simp [ajI_SI, ajI_Cp]
    have k10 : ajI (ajSI (ajCp (ajSI h7 q 7 (nI (RU 3))) (q + 1) (4 + 4) 0 0 8) q 10 0) q 10 = 0 := by
      rw [ajI_SI, if_pos ⟨rfl, rfl⟩]
    have kv : ∀ k, k < n → ajI (ajSI (ajCp (ajSI h7 q 7 (nI (RU 3))) (q + 1) (4 + 4) 0 0 8) q 10 0) (q + 1) k = rTold n RU FO (2 * k) := fun k hk => by
      rw [ajI_SI, if_neg (by omega), ajI_Cp, if_pos (by omega), ajI_SI, if_neg (by omega), show 0 + (k - 0) = k by omega, FR_I f7 (by omega), rTold_v n8 hk]
      exact (c.2.2 k hk).2.1
    generalize ajSI (ajCp (ajSI h7 q 7 (nI (RU 3))) (q + 1) (4 + 4) 0 0 8) q 10 0 = h8 at f8 k7 k10 kv
    have g : ∀ j, j < 7 → ajI h8 q j = ajI h7 q j := fun j hj => FR_I f8 (by omega)
    refine H h8 (FR_trans (FR_mono f7 (fun o j z => by unfold PCc; omega)) (FR_mono f8 (fun o j z => by unfold PCc; omega))) ⟨⟨⟨?_, ?_, ?_, ?_, ?_, ?_, ?_, k7⟩, kv⟩, k10, fun e h1 _ => absurd h1 (Nat.not_lt_zero e)⟩
    · rw [g 0 (by omega), a7.1.1, c.1, mk_all n n8]
      exact mk_congr n (fun k hk => by show true = decide (rTold n RU FO (2 * k + 1) = 0); rw [rTold_h (by omega)]; rfl)
    · rw [g 1 (by omega), a7.1.2.1, mk_none n n8]
      exact mk_congr n (fun k hk => by show false = decide (rTold n RU FO (2 * k + 1) = 2); rw [rTold_h (by omega)]; rfl)
    · exact (g _ (by omega)).trans a7.1.2.2.1
    · exact (g _ (by omega)).trans (a7.1.2.2.2.trans (c.2.1 1 (by omega)))
    · exact (g _ (by omega)).trans (a7.2.1.trans (c.2.1 2 (by omega)))
    · exact (g _ (by omega)).trans a7.2.2.1
    · exact (g _ (by omega)).trans a7.2.2.2
  rw [FR_I f7 (by omega), c.2.1 3 (by omega)]
  have : RU 3 = 0 ∨ RU 3 = 1 := by omega
  rcases this with e | e
  · rw [e] at go ⊢
    rw [if_pos (by decide)]; exact go
  · rw [e] at go ⊢
    rw [if_neg (by decide)]; exact go
theorem S177_2 {d r : Nat} (hr : rB r) : ∀ (f v : Nat) (h : ajH) (Q : Option Value → ajH → Prop), v + f = 203 → ajShp h → (∀ j, j < v → ajI h r j = 0) →
    (∀ h', FR h h' (fun o _ => o = r) → ajShp h' → (∀ j, j < 203 → ajI h' r j = 0) → ajEv d 177 21 [.ref 320, .ref r, .int 0] [] h' Q) → ajEv d 177 2 [.ref 320, .ref r, .int (nI v)] [] h Q := by
  intro f
  induction f with
  | zero =>
    intro v h Q hv hs z H
    refine W177_2 hs (rB_w hr) ?_
    rw [if_pos (by rw [sl_203, sr_le (by omega) (by omega)]; omega)]
    exact H h (FR_refl _ _) hs (fun j hj => z j (by omega))
  | succ f ih =>
    intro v h Q hv hs z H
    refine W177_2 hs (rB_w hr) ?_
    rw [if_neg (by rw [sl_203, sr_le (by omega) (by omega)]; omega), rB_l hr, sr_in (by omega), sr_N (by omega), nI_1]
    refine ⟨by omega, ?_⟩
    rintro _ rfl
    have f1 : FR h (ajSI h r v 0) (fun o _ => o = r) := FR_SI h rfl
    have s1 : ajShp (ajSI h r v 0) := hs
    refine ih (v + 1) _ Q (by omega) s1 (fun j hj => ?_) (fun h' f' s' z' => H h' (FR_trans f1 f') s' z')
    rw [ajI_SI]
    by_cases y : j = v
    · rw [if_pos ⟨rfl, y⟩]
    · rw [if_neg (by omega)]; exact z j (by omega)
/-- what the rows of the reference are told -/
def mT (n : Nat) (RU : Nat → Nat) (FO : Nat → Nat → Nat) (h : ajH) : Prop := ajI h 320 24 = nI n ∧ (∀ j, j < 4 → ajI h 325 j = nI (RU j)) ∧ ∀ k, k < n → ajI h 327 (3 * k + 1) = nI (FO k 1)
theorem mT_FR {n r : Nat} {RU : Nat → Nat} {FO : Nat → Nat → Nat} {h h' : ajH} (c : mT n RU FO h) (hr : rB r) (f : FR h h' (fun o _ => o = r)) : mT n RU FO h' := by
  unfold rB at hr
  exact ⟨(FR_I f (by omega)).trans c.1, fun j hj => (FR_I f (by omega)).trans (c.2.1 j hj), fun k hk => (FR_I f (by omega)).trans (c.2.2 k hk)⟩
theorem S177_21 {d r n : Nat} {RU : Nat → Nat} {FO : Nat → Nat → Nat} {LG : Nat → Nat → Int32} (hr : rB r) (n8 : n ≤ 8) : ∀ (f v : Nat) (h : ajH) (Q : Option Value → ajH → Prop), v + f = n → ajShp h → mT n RU FO h → (∀ j, j < 203 → ajI h r j = if j % 2 = 0 ∧ j / 2 < v then nI (FO (j / 2) 1) else 0) →
    (∀ h', FR h h' (fun o _ => o = r) → mX h' r 0 (rTold n RU FO, 0, LG) → Q none h') → ajEv d 177 21 [.ref 320, .ref r, .int (nI v)] [] h Q := by
  intro f
  induction f with
  | zero =>
    intro v h Q hv hs mt z H
    have hr' := hr
    unfold rB at hr'
    obtain rfl : v = n := by omega
    refine W177_21 hs (rB_w hr) ?_
    rw [mt.1, if_pos (by rw [sr_le (by omega) (by omega)]; omega), rB_l hr, mt.2.1 1 (by omega)]
    refine ⟨by decide, ?_⟩
    rintro _ rfl
    rw [rB_l hr, ajI_SI, if_neg (by omega), mt.2.1 3 (by omega)]
    refine ⟨by decide, ?_⟩
    rintro _ rfl
    rw [rB_l hr, ajI_SI, if_neg (by omega), ajI_SI, if_neg (by omega), mt.2.1 2 (by omega)]
    refine ⟨by decide, ?_⟩
    rintro _ rfl
    have f1 : FR h (ajSI (ajSI (ajSI h r 17 (nI (RU 1))) r 18 (nI (RU 3))) r 20 (nI (RU 2))) (fun o _ => o = r) := FR_trans (FR_trans (FR_SI h rfl) (FR_SI _ rfl)) (FR_SI _ rfl)
    have e : ∀ j, j < 203 → ajI (ajSI (ajSI (ajSI h r 17 (nI (RU 1))) r 18 (nI (RU 3))) r 20 (nI (RU 2))) r j = if j = 17 then nI (RU 1) else if j = 18 then nI (RU 3) else if j = 20 then nI (RU 2) else if j % 2 = 0 ∧ j / 2 < v then nI (FO (j / 2) 1) else 0 := fun j hj => by
      rw [ajI_SI, ajI_SI, ajI_SI, z j hj]
      by_cases y1 : j = 17
      · subst y1; rw [if_neg (by omega), if_neg (by omega), if_pos ⟨rfl, rfl⟩, if_pos rfl]
      · by_cases y2 : j = 18
        · subst y2; rw [if_neg (by omega), if_pos ⟨rfl, rfl⟩, if_neg (by omega), if_pos rfl]
        · by_cases y3 : j = 20
          · subst y3; rw [if_pos ⟨rfl, rfl⟩, if_neg (by omega), if_neg (by omega), if_pos rfl]
          · rw [if_neg (fun z => y3 z.2), if_neg (fun z => y2 z.2), if_neg (fun z => y1 z.2), if_neg y1, if_neg y2, if_neg y3]
    generalize ajSI (ajSI (ajSI h r 17 (nI (RU 1))) r 18 (nI (RU 3))) r 20 (nI (RU 2)) = h1 at f1 e
    refine H h1 f1 ⟨fun k hk => ?_, ?_, fun i hi => absurd hi (by show ¬ i < 3 * 0; omega)⟩
    · rw [show 0 + k = k by omega, e k (by omega)]
      show _ = rTold v RU FO k
      unfold rTold
      by_cases y : k < 16
      · rw [if_pos y, if_neg (by omega), if_neg (by omega), if_neg (by omega)]
      · rw [if_neg y]
        by_cases y1 : k = 17
        · rw [if_pos y1, if_pos y1]
        · rw [if_neg y1, if_neg y1]
          by_cases y2 : k = 18
          · rw [if_pos y2, if_pos y2]
          · rw [if_neg y2, if_neg y2]
            by_cases y3 : k = 20
            · rw [if_pos y3, if_pos y3]
            · rw [if_neg y3, if_neg y3, if_neg (by omega)]
    · rw [e 22 (by omega), if_neg (by omega), if_neg (by omega), if_neg (by omega), if_neg (by omega)]; rfl
  | succ f ih =>
    intro v h Q hv hs mt z H
    have hr' := hr
    unfold rB at hr'
    refine W177_21 hs (rB_w hr) ?_
    rw [mt.1, if_neg (by rw [sr_le (by omega) (by omega)]; omega), sl_3, sl_2, sr_mul, sr_mul, sl_1, sr_add, Int32.add_zero, rB_l hr, sr_in (by omega), sr_in (by omega), sr_N (by omega), sr_N (by omega), mt.2.2 v (by omega), ← sl_1, nI_1]
    refine ⟨by omega, by omega, ?_⟩
    rintro _ rfl
    have f1 : FR h (ajSI h r (2 * v) (nI (FO v 1))) (fun o _ => o = r) := FR_SI h rfl
    have s1 : ajShp (ajSI h r (2 * v) (nI (FO v 1))) := hs
    refine ih (v + 1) _ Q (by omega) s1 (mT_FR mt hr f1) (fun j hj => ?_) (fun h' f' z' => H h' (FR_trans f1 f') z')
    rw [ajI_SI, z j hj]
    by_cases y : j = 2 * v
    · rw [if_pos ⟨rfl, y⟩, if_pos (by omega), show j / 2 = v by omega]
    · rw [if_neg (fun z => y z.2)]
      by_cases y2 : j % 2 = 0 ∧ j / 2 < v
      · rw [if_pos y2, if_pos (by omega)]
      · rw [if_neg y2, if_neg (by omega)]
theorem S177 {d r n : Nat} {h : ajH} {Q : Option Value → ajH → Prop} {RU : Nat → Nat} {FO : Nat → Nat → Nat} {LG : Nat → Nat → Int32} (hr : rB r) (n8 : n ≤ 8) (hs : ajShp h) (mt : mT n RU FO h)
    (H : ∀ h', FR h h' (fun o _ => o = r) → mX h' r 0 (rTold n RU FO, 0, LG) → Q none h') : ajEv d 177 0 [.ref 320, .ref r, ajU] [] h Q := by
  refine W177_0 hs (rB_i hr) ?_
  refine S177_2 hr 203 0 h Q (by omega) hs (fun j hj => absurd hj (by omega)) ?_
  intro h1 f1 s1 z1
  refine S177_21 (LG := LG) hr n8 n 0 h1 Q (by omega) s1 (mT_FR mt hr f1) (fun j hj => by rw [if_neg (by omega)]; exact z1 j hj) ?_
  intro h2 f2 mx
  exact H h2 (FR_trans f1 f2) mx
