/-! Turns and stops by which told things are done. -/
def plf (row : Nat) (a : Int32 × Nat) : Int32 × Nat := if a.2 = 0 then (nI row, 1) else (a.1, a.2 + 1)
noncomputable def plD (F : (Nat → Int32) → Nat → Int32 × Nat → Int32 × Nat) (E : EV) (w : Bool) (R : Nat → Int32) (row : Nat) (b : Bool) (a : Int32 × Nat) : Int32 × Nat :=
  if iDone E (iTurn E b R) = flg w then F (iPl E (iTurn E b R)) (row * 10 + (if b = true then 1 else 0)) a else a
noncomputable def plF (E : EV) (B : Int32) : Nat → Nat → (Nat → Int32) → Nat → Int32 × Nat → Int32 × Nat
  | 0, _, _, row, a => plf row a
  | f + 1, dep, R, row, a => plD (plF E B f (dep + 1)) E (hb B dep) R row true (plD (plF E B f (dep + 1)) E (hb B dep) R row false a)
def plA (a : Int32 × Nat) : Prop := a.2 = 0 ∧ a.1 = -1 ∨ 0 < a.2 ∧ ∃ r, r < 1000000000 ∧ a.1 = nI r
theorem plf_ok {row : Nat} {a : Int32 × Nat} (hr : row < 1000000000) (k : plA a) : plA (plf row a) ∧ (plf row a).2 = a.2 + 1 := by
  unfold plf
  by_cases y : a.2 = 0
  · rw [if_pos y]; exact ⟨Or.inr ⟨by show 0 < 1; omega, row, hr, rfl⟩, by show 1 = _; omega⟩
  · rw [if_neg y]
    rcases k with k | k
    · exact absurd k.1 y
    · exact ⟨Or.inr ⟨by show 0 < a.2 + 1; omega, k.2⟩, rfl⟩
theorem plF_ok (E : EV) (B : Int32) : ∀ f dep R row a, row < 10 ^ dep → dep + f ≤ 8 → plA a → plA (plF E B f dep R row a) ∧ (plF E B f dep R row a).2 ≤ a.2 + 2 ^ f := by
  intro f
  induction f with
  | zero =>
    intro dep R row a hr hd k
    have l : 10 ^ dep ≤ 10 ^ 8 := Nat.pow_le_pow_right (by omega) (by omega)
    have := plf_ok (row := row) (by omega) k
    exact ⟨this.1, by show (plf row a).2 ≤ a.2 + 1; omega⟩
  | succ f ih =>
    intro dep R row a hr hd k
    have e10 : 10 ^ (dep + 1) = 10 ^ dep * 10 := Nat.pow_succ ..
    have st : ∀ (b : Bool) (a : Int32 × Nat), plA a → plA (plD (plF E B f (dep + 1)) E (hb B dep) R row b a) ∧ (plD (plF E B f (dep + 1)) E (hb B dep) R row b a).2 ≤ a.2 + 2 ^ f := by
      intro b a k
      unfold plD
      by_cases y : iDone E (iTurn E b R) = flg (hb B dep)
      · rw [if_pos y]
        exact ih (dep + 1) _ _ a (by cases b <;> simp <;> omega) (by omega) k
      · rw [if_neg y]; exact ⟨k, Nat.le_add_right _ _⟩
    have s1 := st false a k
    have s2 := st true _ s1.1
    have e2 : 2 ^ (f + 1) = 2 ^ f * 2 := Nat.pow_succ ..
    exact ⟨s2.1, by show (plD (plF E B f (dep + 1)) E (hb B dep) R row true (plD (plF E B f (dep + 1)) E (hb B dep) R row false a)).2 ≤ _; omega⟩
def PPl (dep o j : Nat) : Prop := 275 + 5 * (dep + 1) ≤ o ∧ o < 320 ∨ PLw o ∨ o = 273 ∧ (j = 5 ∨ j = 6)
def PPn (o _j : Nat) : Prop := 273 ≤ o ∧ o < 320 ∨ PLw o
theorem CI_pn {S : GS} {h h' : ajH} {P : Nat → Nat → Prop} (c : CI S h) (f : FR h h' P) (p : ∀ o j, P o j → PPn o j) : CI S h' := CI_FR c f (fun o j z => by have y := p o j z; unfold PPn PLw at y; unfold b1 b2 b3 b4 b5 b6 b7 PLw; omega)
theorem PPl_n {dep o j : Nat} (z : PPl dep o j) : PPn o j := by unfold PPl PLw at z; unfold PPn PLw; omega
theorem sQ_pl {k : Nat} (hk : k ≤ 8) : sQ (275 + 5 * k) := by
  have : k = 0 ∨ k = 1 ∨ k = 2 ∨ k = 3 ∨ k = 4 ∨ k = 5 ∨ k = 6 ∨ k = 7 ∨ k = 8 := by omega
  rcases this with rfl | rfl | rfl | rfl | rfl | rfl | rfl | rfl | rfl <;> exact ⟨ajKc rfl, by omega, by omega⟩
/-- the plan at work -/
def plI (S : GS) (n : Nat) (B : Int32) (a : Int32 × Nat) (h : ajH) : Prop := ajI h 273 3 = nI n ∧ ajI h 273 4 = B ∧ ajR h 273 2 = gV S ∧ ajI h 273 5 = a.1 ∧ ajI h 273 6 = nI a.2
theorem S106_50 {S : GS} {n dep row f T : Nat} {B : Int32} {b : Bool} {R : Nat → Int32} {a : Int32 × Nat} {d : Nat} {h : ajH} {Q : Option Value → ajH → Prop} (vd : GVd S) (hz : 0 < gz S) (hd : dep + (f + 1) = n) (n8 : n ≤ 8) (hrow : row < 10 ^ dep) (hs : ajShp h) (c : CI S h) (cs : CS h (275 + 5 * dep) (gz S) R) (rv : RV (gz S) T R) (hT : T + f ≤ 100000) (pl : plI S n B a h) (ka : plA a) (hm : a.2 + 2 ^ f ≤ 256)
    (ih : ∀ (row : Nat) (a : Int32 × Nat) (h : ajH) (Q : Option Value → ajH → Prop) (R : Nat → Int32), row < 10 ^ (dep + 1) → ajShp h → CI S h → CS h (275 + 5 * (dep + 1)) (gz S) R → RV (gz S) (T + 1) R → plI S n B a h → plA a → a.2 + 2 ^ f ≤ 256 →
      (∀ h', FR h h' (PPl (dep + 1)) → CI S h' → plI S n B (plF (gE S) B f (dep + 1) R row a) h' → Q none h') → ajEv (d + f + 5) 106 0 [.ref 273, .int (nI (dep + 1)), .int (nI row), ajU, ajU, ajU] [] h Q)
    (H : ∀ h', FR h h' (PPl dep) → ajShp h' → CI S h' → plI S n B (plD (plF (gE S) B f (dep + 1)) (gE S) (hb B dep) R row b a) h' → ajEv (d + f + 6) 106 50 [.ref 273, .int (nI dep), .int (nI row), .ref (275 + 5 * (dep + 1)), .int (flg (hb B dep)), .int (flg b + 1)] [] h' Q) : ajEv (d + f + 6) 106 50 [.ref 273, .int (nI dep), .int (nI row), .ref (275 + 5 * (dep + 1)), .int (flg (hb B dep)), .int (flg b)] [] h Q := by
  have z8 := vd.z8
  have q1 := sQ_pl (show dep + 1 ≤ 8 by omega)
  have q0 := sQ_pl (show dep ≤ 8 by omega)
  refine W106_50 hs q1.1 ?_
  rw [if_neg (by cases b <;> decide), sr_N (by omega)]
  refine ⟨by rw [sr_in (by omega)]; omega, ?_⟩
  refine S62 (LG := fun _ _ => 0) q1 q0 (by omega) z8 hs cs rv.2.2.2.2.1 ?_
  intro h1 f1 cx1 s1
  refine ⟨rfl, ?_⟩
  have f1' : FR h h1 (PPl dep) := FR_mono f1 (fun o j z => by unfold PCc at z; unfold PPl; omega)
  have c1 := CI_pn c f1' (fun o j z => PPl_n z)
  have cs1 : CS h1 (275 + 5 * (dep + 1)) (gz S) R := cx1.1
  rw [(FR_R f1 (by unfold PCc; omega)).trans pl.2.2.1]
  refine S65 (E := gE S) (T := T) q1 wQ_4 rv (gE_ok vd) (gE_g vd) s1 (CI_CE c1.2.1 vd hz) (CI_CL c1.2.2.1 vd) cs1 ?_
  intro h2 f2 cs2 _ e14 _ s2
  refine ⟨rfl, ?_⟩
  have f2' : FR h1 h2 (PPl dep) := FR_mono f2 (fun o j z => by unfold PCp PLw at z; unfold PPl PLw; omega)
  have f12 : FR h h2 (PPl dep) := FR_trans f1' f2'
  have c2 := CI_pn c f12 (fun o j z => PPl_n z)
  have g2 : FR h h2 (fun o j => ¬ o = 273) := FR_trans (FR_mono f1 (fun o j z => by unfold PCc at z; omega)) (FR_mono f2 (fun o j z => by unfold PCp PLw at z; omega))
  have pl2 : plI S n B a h2 := ⟨(FR_I g2 (by omega)).trans pl.1, (FR_I g2 (by omega)).trans pl.2.1, (FR_R g2 (by omega)).trans pl.2.2.1, (FR_I g2 (by omega)).trans pl.2.2.2.1, (FR_I g2 (by omega)).trans pl.2.2.2.2⟩
  have rv2 : RV (gz S) (T + 1) (iPl (gE S) (iTurn (gE S) b R)) := RV_nx (gE_g vd) (gE_ok vd) z8 rv (by omega)
  rw [e14]
  have ed : plD (plF (gE S) B f (dep + 1)) (gE S) (hb B dep) R row b a = if iDone (gE S) (iTurn (gE S) b R) = flg (hb B dep) then plF (gE S) B f (dep + 1) (iPl (gE S) (iTurn (gE S) b R)) (row * 10 + (if b = true then 1 else 0)) a else a := rfl
  by_cases y : iDone (gE S) (iTurn (gE S) b R) = flg (hb B dep)
  · rw [if_neg (fun z => z y)]
    rw [ed, if_pos y] at H
    rw [nI_1, sl_10, sr_mul, show flg b = nI (if b = true then 1 else 0) by cases b <;> rfl, sr_add]
    have e10 : 10 ^ (dep + 1) = 10 ^ dep * 10 := Nat.pow_succ ..
    refine ih (row * 10 + (if b = true then 1 else 0)) a h2 _ _ (by cases b <;> simp <;> omega) s2 c2 cs2 rv2 pl2 ka hm ?_
    intro h3 f3 c3 pl3 s3
    refine ⟨rfl, ?_⟩
    have f13 : FR h h3 (PPl dep) := FR_trans f12 (FR_mono f3 (fun o j z => by unfold PPl PLw at z; unfold PPl PLw; omega))
    have r := H h3 f13 s3 c3 pl3
    rw [show flg b = nI (if b = true then 1 else 0) by cases b <;> rfl] at r
    exact r
  · rw [if_pos y]
    rw [ed, if_neg y] at H
    exact H h2 f12 s2 c2 pl2
theorem S106 {S : GS} {n : Nat} {B : Int32} (vd : GVd S) (hz : 0 < gz S) (n8 : n ≤ 8) {d : Nat} : ∀ (f dep row : Nat) (a : Int32 × Nat) (h : ajH) (Q : Option Value → ajH → Prop) (R : Nat → Int32) (T : Nat), dep + f = n → row < 10 ^ dep → ajShp h → CI S h → CS h (275 + 5 * dep) (gz S) R → RV (gz S) T R → T + f ≤ 100000 → plI S n B a h → plA a → a.2 + 2 ^ f ≤ 256 →
    (∀ h', FR h h' (PPl dep) → CI S h' → plI S n B (plF (gE S) B f dep R row a) h' → Q none h') → ajEv (d + f + 5) 106 0 [.ref 273, .int (nI dep), .int (nI row), ajU, ajU, ajU] [] h Q := by
  have z8 := vd.z8
  intro f
  induction f with
  | zero =>
    intro dep row a h Q R T hd hrow hs c cs rv hT pl ka hm H
    refine W106_0 hs ?_
    rw [pl.1, if_pos (by rw [sr_le (by omega) (by omega)]; omega)]
    refine W106_14 hs ?_
    refine W107_0 hs ?_
    rw [pl.2.2.2.2]
    have e : plF (gE S) B 0 dep R row a = plf row a := rfl
    rw [e] at H
    unfold plf at H
    have ha : a.2 < 257 := by omega
    by_cases y : a.2 = 0
    · rw [if_pos y] at H
      rw [y, if_neg (fun z => z rfl)]
      rintro _ rfl _ rfl s4
      refine ⟨rfl, ?_⟩
      have f4 : FR h (ajSI (ajSI h 273 5 (nI row)) 273 6 (ajI (ajSI h 273 5 (nI row)) 273 6 + 1)) (PPl dep) := FR_trans (FR_SI h (by unfold PPl; omega)) (FR_SI _ (by unfold PPl; omega))
      have e6 : ajI (ajSI (ajSI h 273 5 (nI row)) 273 6 (ajI (ajSI h 273 5 (nI row)) 273 6 + 1)) 273 6 = nI 1 := by
        rw [ajI_SI, if_pos ⟨rfl, rfl⟩, ajI_SI, if_neg (by omega), pl.2.2.2.2, y]; rfl
      have e5 : ajI (ajSI (ajSI h 273 5 (nI row)) 273 6 (ajI (ajSI h 273 5 (nI row)) 273 6 + 1)) 273 5 = nI row := by
        rw [ajI_SI, if_neg (by omega), ajI_SI, if_pos ⟨rfl, rfl⟩]
      have g4 : FR h (ajSI (ajSI h 273 5 (nI row)) 273 6 (ajI (ajSI h 273 5 (nI row)) 273 6 + 1)) (fun o j => o = 273 ∧ (j = 5 ∨ j = 6)) := FR_trans (FR_SI h (by omega)) (FR_SI _ (by omega))
      generalize ajSI (ajSI h 273 5 (nI row)) 273 6 (ajI (ajSI h 273 5 (nI row)) 273 6 + 1) = h4 at *
      exact H h4 f4 (CI_pn c f4 (fun o j z => PPl_n z)) ⟨(FR_I g4 (by omega)).trans pl.1, (FR_I g4 (by omega)).trans pl.2.1, (FR_R g4 (by omega)).trans pl.2.2.1, e5, e6⟩
    · rw [if_neg y] at H
      rw [if_pos (nI_ne0 (by omega) (by omega))]
      rintro _ rfl s4
      refine ⟨rfl, ?_⟩
      have f4 : FR h (ajSI h 273 6 (nI a.2 + 1)) (PPl dep) := FR_SI h (by unfold PPl; omega)
      have e6 : ajI (ajSI h 273 6 (nI a.2 + 1)) 273 6 = nI (a.2 + 1) := by rw [ajI_SI, if_pos ⟨rfl, rfl⟩, nI_1]
      have g4 : FR h (ajSI h 273 6 (nI a.2 + 1)) (fun o j => o = 273 ∧ j = 6) := FR_SI h (by omega)
      generalize ajSI h 273 6 (nI a.2 + 1) = h4 at *
      exact H h4 f4 (CI_pn c f4 (fun o j z => PPl_n z)) ⟨(FR_I g4 (by omega)).trans pl.1, (FR_I g4 (by omega)).trans pl.2.1, (FR_R g4 (by omega)).trans pl.2.2.1, (FR_I g4 (by omega)).trans pl.2.2.2.1, e6⟩
  | succ f ih =>
    intro dep row a h Q R T hd hrow hs c cs rv hT pl ka hm H
    have e2 : 2 ^ (f + 1) = 2 ^ f * 2 := Nat.pow_succ ..
    have ihh := fun (row : Nat) (a : Int32 × Nat) (h : ajH) (Q : Option Value → ajH → Prop) (R : Nat → Int32) (hr : row < 10 ^ (dep + 1)) (hs : ajShp h) (c : CI S h) (cs : CS h (275 + 5 * (dep + 1)) (gz S) R) (rv : RV (gz S) (T + 1) R) (pl : plI S n B a h) (ka : plA a) (hm : a.2 + 2 ^ f ≤ 256)
      (H : ∀ h', FR h h' (PPl (dep + 1)) → CI S h' → plI S n B (plF (gE S) B f (dep + 1) R row a) h' → Q none h') => ih (dep + 1) row a h Q R (T + 1) (by omega) hr hs c cs rv (by omega) pl ka hm H
    have st := fun (b : Bool) (a : Int32 × Nat) (k : plA a) => by
      have r := plF_ok (gE S) B f (dep + 1) (iPl (gE S) (iTurn (gE S) b R)) (row * 10 + (if b = true then 1 else 0)) a (by have : 10 ^ (dep + 1) = 10 ^ dep * 10 := Nat.pow_succ ..; cases b <;> simp <;> omega) (by omega) k
      exact (show plA (plD (plF (gE S) B f (dep + 1)) (gE S) (hb B dep) R row b a) ∧ (plD (plF (gE S) B f (dep + 1)) (gE S) (hb B dep) R row b a).2 ≤ a.2 + 2 ^ f by
        unfold plD
        by_cases y : iDone (gE S) (iTurn (gE S) b R) = flg (hb B dep)
        · rw [if_pos y]; exact r
        · rw [if_neg y]; exact ⟨k, Nat.le_add_right _ _⟩)
    have k1 := st false a ka
    have q1 := sQ_pl (show dep + 1 ≤ 8 by omega)
    have go : ajEv (d + f + 6) 106 50 [.ref 273, .int (nI dep), .int (nI row), .ref (275 + 5 * (dep + 1)), .int (flg (hb B dep)), .int (flg false)] [] h Q := by
      refine S106_50 vd hz hd n8 hrow hs c cs rv (by omega) pl ka (by omega) ihh ?_
      intro h1 f1 s1 c1 pl1
      have cs1 : CS h1 (275 + 5 * dep) (gz S) R := CS_FR cs f1 (fun j hj => by unfold PPl PLw; omega) (fun j => by unfold PPl PLw; omega)
      rw [show flg false + 1 = flg true from rfl]
      refine S106_50 vd hz hd n8 hrow s1 c1 cs1 rv (by omega) pl1 k1.1 (by omega) ihh ?_
      intro h2 f2 s2 c2 pl2
      refine W106_50 s2 q1.1 ?_
      rw [show flg true + 1 = (2 : Int32) from rfl, if_pos (by decide)]
      exact H h2 (FR_trans f1 f2) c2 pl2
    rw [show d + (f + 1) + 5 = d + f + 6 by omega]
    refine W106_0 hs ?_
    rw [pl.1, if_neg (by rw [sr_le (by omega) (by omega)]; omega), if_pos (by rw [sl_8, sr_lt (by omega) (by omega)]; omega), nI_1, sr_N (by omega)]
    refine ⟨by rw [sr_in (by omega)]; omega, ?_⟩
    rw [pl.2.1]
    cases e : hb B dep with
    | false =>
      rw [if_pos (by rw [hb_sh0 _ (by omega)]; exact e)]
      rw [e] at go
      exact go
    | true =>
      rw [if_neg (by rw [hb_sh0 _ (by omega), e]; exact fun z => by cases z)]
      rw [e] at go
      exact go
def plOK (S : GS) (v1 v2 v3 : Int32) : Bool := decide (0 < gz S) && rg 1 8 v1 && isp (2 ^ v1.toNatClampNeg) v2 && isp 2 v3
noncomputable def plP (S : GS) (v1 v2 : Int32) : Int32 × Nat := plF (gE S) v2 v1.toNatClampNeg 0 (gX S).1 0 (-1, 0)
noncomputable def aPlan (S : GS) (v1 v2 v3 : Int32) : Int32 := if plOK S v1 v2 v3 = true then (if ¬ v3 = 0 then nI (plP S v1 v2).2 else (plP S v1 v2).1) else -1
theorem pl_n {S : GS} {v1 v2 v3 : Int32} {h : ajH} {Q : Option Value → ajH → Prop} (H : Q (some (.int (aPlan S v1 v2 v3))) h) (e : plOK S v1 v2 v3 = false) : Q (some (.int (-1))) h := by
  unfold aPlan at H
  rw [e, if_neg (by decide)] at H
  exact H
theorem bt_8 : ∀ n ≤ 8, (1 : Int32) <<< (nI n &&& 31) = nI (2 ^ n) := by decide +kernel
theorem S104 {S : GS} {d : Nat} {v1 v2 v3 : Int32} {h : ajH} {Q : Option Value → ajH → Prop} (hs : ajShp h) (c : CI S h) (vd : GVd S)
    (H : ∀ h', FR h h' PPn → CI S h' → Q (some (.int (aPlan S v1 v2 v3))) h') : ajEv (d + 14) 104 0 [.ref 1, .int v1, .int v2, .int v3] [] h Q := by
  have z8 := vd.z8
  have H0 := H h (FR_refl _ _) c
  have er := rg_le (lo := 1) (hi := 8) (v := v1) (by omega) (by omega)
  refine W104_0 hs ?_
  refine S56 hs c.2.1 z8 ?_
  intro s1
  refine ⟨_, rfl, ?_⟩
  by_cases hz : 0 < gz S
  · rw [decide_eq_true hz, if_neg (by decide)]
    have en : plOK S v1 v2 v3 = false → Q (some (.int (-1))) h := fun e => pl_n H0 e
    by_cases y1 : v1 < 1
    · rw [if_pos y1]
      exact en (by unfold plOK rg; rw [decide_eq_true y1]; simp)
    · rw [if_neg y1]
      by_cases y2 : 8 < v1
      · rw [if_pos y2]
        exact en (by unfold plOK rg; rw [decide_eq_true y2]; simp)
      · rw [if_neg y2]
        have e1 : rg 1 8 v1 = true := by unfold rg; rw [decide_eq_false y1, decide_eq_false y2]; rfl
        cases e3 : isp 2 v3 with
        | false =>
          have H1 := en (by unfold plOK; rw [e3, Bool.and_false])
          rcases isp_2n e3 with y | y
          · rw [if_pos y]; exact H1
          · by_cases y0 : v3 < 0
            · rw [if_pos y0]; exact H1
            · rw [if_neg y0, if_neg (fa_nle y)]; exact H1
        | true =>
          obtain ⟨n, n1, n8, rfl⟩ := rg_k (lo := 1) (hi := 8) (by omega) (by omega) e1
          have h3 : ¬ v3 < 0 ∧ v3 ≤ 1 := by rcases isp_2 e3 with rfl | rfl <;> exact ⟨by decide, by decide⟩
          rw [if_neg h3.1, if_pos h3.2]
          have eN : (nI n).toNatClampNeg = n := sr_N (by omega)
          have p8 : 2 ^ n ≤ 2 ^ 8 := Nat.pow_le_pow_right (by omega) n8
          by_cases y4 : v2 < 0
          · rw [if_pos y4]
            refine en ?_
            unfold plOK isp; rw [if_pos y4]; simp
          · rw [if_neg y4, bt_8 n n8]
            by_cases y5 : v2 < nI (2 ^ n)
            · rw [if_pos y5]
              have e2 : isp (2 ^ n) v2 = true := by unfold isp; rw [if_neg y4, if_neg (fa_nle y5)]
              unfold aPlan plOK plP at H
              rw [decide_eq_true hz, e1, e3, eN, e2, if_pos (show (true && true && true && true) = true from rfl)] at H
              refine S64 s1 c.2.2.1 vd ?_
              intro s2
              refine ⟨_, rfl, ?_⟩
              refine W105_0 s2 (ajKc rfl) ?_
              rintro _ rfl
              have f0 : FR h (ajSR h 273 2 (gV S)) PPn := FR_SR h (by unfold PPn; omega)
              have r0 : ajR (ajSR h 273 2 (gV S)) 273 2 = gV S := by rw [ajR_SR, if_pos ⟨rfl, rfl⟩]
              refine ⟨by decide, ?_⟩
              rw [show 275 + 5 * (0 : Int32).toNatClampNeg = 275 from rfl]
              have c0 := CI_pn c f0 (fun o j z => z)
              have s0 : ajShp (ajSR h 273 2 (gV S)) := ajShpR s2 rfl (by rfl)
              generalize ajSR h 273 2 (gV S) = h0 at f0 r0 c0 s0
              refine S62 (LG := fun _ _ => 0) (sQ_pl (k := 0) (by omega)) sQ_54 (by omega) z8 s0 c0.2.2.2.1.1 (vd.xv hz).1.2.2.2.2.1 ?_
              intro h1 f1 cx1 s3
              refine ⟨rfl, ?_⟩
              rintro _ rfl _ rfl s4
              refine ⟨rfl, ?_⟩
              rintro _ rfl _ rfl
              have f1' : FR h0 h1 PPn := FR_mono f1 (fun o j z => by unfold PCc at z; unfold PPn; omega)
              have g2 : FR h1 (ajSI (ajSI (ajSI (ajSI h1 273 5 (-1)) 273 6 0) 273 3 (nI n)) 273 4 v2) (fun o j => o = 273 ∧ ¬ j = 2) := FR_trans (FR_trans (FR_trans (FR_SI _ (by omega)) (FR_SI _ (by omega))) (FR_SI _ (by omega))) (FR_SI _ (by omega))
              have s5 : ajShp (ajSI (ajSI (ajSI (ajSI h1 273 5 (-1)) 273 6 0) 273 3 (nI n)) 273 4 v2) := s4
              have pl : plI S n v2 (-1, 0) (ajSI (ajSI (ajSI (ajSI h1 273 5 (-1)) 273 6 0) 273 3 (nI n)) 273 4 v2) := by
                refine ⟨by rw [ajI_SI, if_neg (by omega), ajI_SI, if_pos ⟨rfl, rfl⟩], by rw [ajI_SI, if_pos ⟨rfl, rfl⟩], ?_, ?_, ?_⟩
                · rw [FR_R g2 (by omega), FR_R f1 (by unfold PCc; omega), r0]
                · rw [ajI_SI, if_neg (by omega), ajI_SI, if_neg (by omega), ajI_SI, if_neg (by omega), ajI_SI, if_pos ⟨rfl, rfl⟩]
                · rw [ajI_SI, if_neg (by omega), ajI_SI, if_neg (by omega), ajI_SI, if_pos ⟨rfl, rfl⟩]; rfl
              generalize ajSI (ajSI (ajSI (ajSI h1 273 5 (-1)) 273 6 0) 273 3 (nI n)) 273 4 v2 = h2 at g2 s5 pl
              have f02 : FR h h2 PPn := FR_trans (FR_trans f0 f1') (FR_mono g2 (fun o j z => by unfold PPn; omega))
              have c2 := CI_pn c f02 (fun o j z => z)
              have cs2 : CS h2 (275 + 5 * 0) (gz S) (gX S).1 := CS_FR cx1.1 g2 (fun j hj => by omega) (fun j => by omega)
              have sp : d + 13 = (d + (8 - n)) + n + 5 := by omega
              rw [sp]
              refine S106 (B := v2) vd hz n8 n 0 0 (-1, 0) h2 _ _ 1000 (by omega) (by omega) s5 c2 cs2 (vd.xv hz).1 (by omega) pl (Or.inl ⟨rfl, rfl⟩) (by show 0 + 2 ^ n ≤ 256; omega) ?_
              intro h3 f3 c3 pl3 s6
              refine ⟨rfl, ?_⟩
              have H1 := H h3 (FR_trans f02 (FR_mono f3 (fun o j z => PPl_n z))) c3
              by_cases y7 : v3 = 0
              · rw [if_neg (fun z => z y7), pl3.2.2.2.1]
                rw [if_neg (fun z => z y7)] at H1; exact H1
              · rw [if_pos y7, pl3.2.2.2.2]
                rw [if_pos y7] at H1; exact H1
            · rw [if_neg y5]
              refine en ?_
              unfold plOK isp
              rw [eN, if_neg y4, if_pos (Int32.not_lt.mp y5)]; simp
  · rw [decide_eq_false hz, if_pos (show flg false = 0 from rfl)]
    exact pl_n H0 (by unfold plOK; rw [decide_eq_false hz]; rfl)
