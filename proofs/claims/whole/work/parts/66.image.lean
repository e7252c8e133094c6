/-! Image, back, seen, on both sides. -/
def sI (S : GS) (b : Bool) (X : XT) : GS := (S.1, S.2.1, S.2.2.1, S.2.2.2.1, S.2.2.2.2.1, S.2.2.2.2.2.1, (b, X), S.2.2.2.2.2.2.2)
def sZ (S : GS) (n : Nat) (st : Nat → Nat) (sb : Nat → Bool) : GS := (S.1, S.2.1, S.2.2.1, S.2.2.2.1, S.2.2.2.2.1, S.2.2.2.2.2.1, S.2.2.2.2.2.2.1, (n, st, sb))
def gImage (S : GS) : GS := if 0 < gz S then sI S true (gX S) else S
def aImage (S : GS) : Int32 := if 0 < gz S then (gX S).1 21 else -1
theorem GVd_image {S : GS} (vd : GVd S) : GVd (gImage S) := by
  unfold gImage
  by_cases y : 0 < gz S
  · rw [if_pos y]
    exact ⟨vd.z8, vd.fo, vd.ru, vd.r0, vd.m4, vd.hl, vd.sl, vd.j4, vd.jn, vd.xv, vd.a4, fun z => by have z : gz S = 0 := z; omega, vd.ax, fun _ => vd.xv y, vd.ns, vd.st, vd.x0⟩
  · rw [if_neg y]; exact vd
theorem S134 {S : GS} {d : Nat} {h : ajH} {Q : Option Value → ajH → Prop} (hs : ajShp h) (c : CI S h) (vd : GVd S)
    (H : ∀ h', FR h h' (fun o j => o < 320) → CI (gImage S) h' → Q (some (.int (aImage S))) h') : ajEv (d + 2) 134 0 [.ref 1] [] h Q := by
  have z8 := vd.z8
  refine W134_0 hs ?_
  refine S56 hs c.2.1 z8 ?_
  intro s1
  refine ⟨_, rfl, ?_⟩
  unfold gImage aImage at H
  by_cases hz : 0 < gz S
  · rw [decide_eq_true hz, if_pos (by decide)]
    simp only [if_pos hz] at H
    refine S61 sQ_64 sQ_54 (by omega) z8 s1 c.2.2.2.1 (vd.xv hz).1.2.2.2.2.1 ?_
    intro h1 f1 cx1 s2
    refine ⟨rfl, ?_⟩
    rintro _ rfl
    have f2 : FR h1 (ajSI h1 1 14 1) (fun o j => o = 1 ∧ j = 14) := FR_SI h1 ⟨rfl, rfl⟩
    have e14 : ajI (ajSI h1 1 14 1) 1 14 = 1 := by rw [ajI_SI, if_pos ⟨rfl, rfl⟩]
    generalize ajSI h1 1 14 1 = h2 at f2 e14
    have k1 := c1_FR (c1_FR c.1 f1 (fun o j z => by unfold PCc at z; unfold b1; omega)) f2 (fun o j z => by unfold b1; omega)
    have k2 := c2_FR (c2_FR c.2.1 f1 (fun o j z => by unfold PCc at z; unfold b2; omega)) f2 (fun o j z => by unfold b2; omega)
    have k3 := c3_FR c.2.2.1 f1 (fun o j z => by unfold PCc at z; unfold b3; omega)
    have k4 := c4_FR (c4_FR c.2.2.2.1 f1 (fun o j z => by unfold PCc at z; unfold b4; omega)) f2 (fun o j z => by unfold b4; omega)
    have k5 := c5_FR (c5_FR c.2.2.2.2.1 f1 (fun o j z => by unfold PCc at z; unfold b5; omega)) f2 (fun o j z => by unfold b5; omega)
    have k7 := c7_FR (c7_FR c.2.2.2.2.2.2 f1 (fun o j z => by unfold PCc at z; unfold b7; omega)) f2 (fun o j z => by unfold b7; omega)
    have e21 : ajI h2 54 5 = (gX S).1 21 := k4.1.1.2.2.2.2.2.1
    rw [e21]
    obtain ⟨⟨e1, e2, e3, e4, e5⟩, m4, j4, lc, cj⟩ := k3
    refine H h2 (FR_trans (FR_mono f1 (fun o j z => by unfold PCc at z; omega)) (FR_mono f2 (fun o j z => by omega))) ⟨k1, k2, ⟨⟨(FR_I f2 (by omega)).trans e1, (FR_I f2 (by omega)).trans e2, (FR_I f2 (by omega)).trans e3, (FR_I f2 (by omega)).trans e4, e14⟩, m4, j4, LawsC_FR lc f2 (fun i hi => ⟨by omega, fun j => by omega⟩), fun i hi => CJ_FR' (cj i hi) f2 (by omega) (fun j => ⟨by omega, by omega⟩)⟩, k4, k5, fun _ => cX_FR cx1 f2 (fun o j z => by omega), k7⟩
  · rw [decide_eq_false hz, if_neg (show ¬ ¬ flg false = 0 from fun z => z rfl)]
    simp only [if_neg hz] at H
    exact H h (FR_refl _ _) c
theorem S247_16 {d : Nat} : ∀ (f v : Nat) (h : ajH) (Q : Option Value → ajH → Prop), v + f = 203 → ajShp h → (∀ k, k < v → ajI h 341 k = ajI h 331 k) →
    (∀ h', FR h h' (fun o j => o = 341 ∨ o = 320 ∧ j = 48) → ajI h' 320 48 = 1 → (∀ k, k < 203 → ajI h' 341 k = ajI h 331 k) → Q (some (.int (ajI h' 331 21))) h') → ajEv d 247 16 [.ref 320, .int (nI v)] [] h Q := by
  intro f
  induction f with
  | zero =>
    intro v h Q hv hs cp H
    refine W247_16 hs ?_
    rw [if_pos (by rw [sl_203, sr_le (by omega) (by omega)]; omega)]
    rintro _ rfl
    refine H _ (FR_SI h (Or.inr ⟨rfl, rfl⟩)) (by rw [ajI_SI, if_pos ⟨rfl, rfl⟩]) (fun k hk => ?_)
    rw [ajI_SI, if_neg (by omega)]; exact cp k (by omega)
  | succ f ih =>
    intro v h Q hv hs cp H
    refine W247_16 hs ?_
    rw [if_neg (by rw [sl_203, sr_le (by omega) (by omega)]; omega), sr_in (by omega), sr_N (by omega), nI_1]
    refine ⟨by omega, by omega, ?_⟩
    rintro _ rfl
    have f1 : FR h (ajSI h 341 v (ajI h 331 v)) (fun o j => o = 341 ∨ o = 320 ∧ j = 48) := FR_SI h (Or.inl rfl)
    refine ih (v + 1) _ Q (by omega) hs (fun k hk => ?_) (fun h' f2 e2 c2 => H h' (FR_trans f1 f2) e2 (fun k hk => ?_))
    · rw [ajI_SI, ajI_SI, if_neg (show ¬ (331 = 341 ∧ k = v) by omega)]
      by_cases y : k = v
      · rw [if_pos ⟨rfl, y⟩, y]
      · rw [if_neg (by omega)]; exact cp k (by omega)
    · rw [c2 k hk]; exact FR_I f1 (by omega)
theorem S247 {S : GS} {d : Nat} {h : ajH} {Q : Option Value → ajH → Prop} (hs : ajShp h) (c : MI S h) (vd : GVd S)
    (H : ∀ h', FR h h' (fun o j => 320 ≤ o ∧ o < 1000) → MI (gImage S) h' → Q (some (.int (aImage S))) h') : ajEv d 247 0 [.ref 320, ajU] [] h Q := by
  have z8 := vd.z8
  refine W247_0 hs ?_
  rintro _ rfl
  have c0 := MI_0 (x := 0) c
  have f0 : FR h (ajSI h 320 0 0) (fun o j => 320 ≤ o ∧ o < 1000) := FR_SI h (by omega)
  have s0 : ajShp (ajSI h 320 0 0) := hs
  generalize ajSI h 320 0 0 = h0 at c0 f0 s0
  rw [c0.2.1.1]
  unfold gImage aImage at H
  by_cases hz : 0 < gz S
  · rw [if_pos (nI_ne0 hz (by omega))]
    simp only [if_pos hz] at H
    refine S247_16 203 0 h0 Q (by omega) s0 (fun k hk => absurd hk (by omega)) ?_
    intro h1 f1 e48 cp
    obtain ⟨k1, k2, k3, k4, k5, k6, k7, k8⟩ := c0
    have k4' := r4_FR k4 f1 (fun o j z => by unfold d4; omega)
    obtain ⟨⟨e1, e2, e3, e4, e5⟩, j4, lc, cj⟩ := k3
    have e21 : ajI h1 331 21 = (gX S).1 21 := (mX0 k4').1 21 (by omega)
    rw [e21]
    exact H h1 (FR_trans f0 (FR_mono f1 (fun o j z => by omega))) ⟨r1_FR k1 f1 (fun o j z => by unfold d1; omega), r2_FR k2 f1 (fun o j z => by unfold d2; omega), ⟨⟨(FR_I f1 (by omega)).trans e1, (FR_I f1 (by omega)).trans e2, (FR_I f1 (by omega)).trans e3, (FR_I f1 (by omega)).trans e4, e48⟩, j4, LawsM_FR lc f1 (fun j => ⟨by omega, by omega⟩), fun i hi => ⟨(FR_I f1 (by omega)).trans (cj i hi).1, (cj i hi).2.1, fun k hk => ⟨(FR_I f1 (by omega)).trans ((cj i hi).2.2 k hk).1, (FR_I f1 (by omega)).trans ((cj i hi).2.2 k hk).2⟩⟩⟩, k4', r5_FR k5 f1 (fun o j z => by unfold d5; omega), fun _ => mX_cp k4 (fun k hk => by rw [Nat.zero_add]; exact cp k hk), r7_FR k7 f1 (fun o j z => by unfold d7; omega), r8_FR k8 f1 (fun o j z => by omega)⟩
  · have e0 : gz S = 0 := by omega
    rw [if_neg (by rw [e0]; exact fun z => z rfl)]
    simp only [if_neg hz] at H
    exact H h0 f0 c0
/-- back -/
def gBack (S : GS) : GS := if gio S = true then sX S (gIX S) 0 (gAX S) else S
def aBack (S : GS) : Int32 := if gio S = true then (gIX S).1 21 else -1
theorem gio_z {S : GS} (vd : GVd S) (e : gio S = true) : 0 < gz S := by
  rcases Nat.eq_zero_or_pos (gz S) with z | z
  · have := (vd.az z).2.1; rw [e] at this; cases this
  · exact z
theorem GVd_back {S : GS} (vd : GVd S) : GVd (gBack S) := by
  unfold gBack
  by_cases y : gio S = true
  · rw [if_pos y]
    exact GVd_sX vd (fun _ => vd.ix y) (gio_z vd y) (by omega) (fun _ => rfl) (fun i hi => absurd hi (by omega))
  · rw [if_neg y]; exact vd
theorem S135 {S : GS} {d : Nat} {h : ajH} {Q : Option Value → ajH → Prop} (hs : ajShp h) (c : CI S h) (vd : GVd S)
    (H : ∀ h', FR h h' (fun o j => o < 320) → CI (gBack S) h' → Q (some (.int (aBack S))) h') : ajEv (d + 2) 135 0 [.ref 1] [] h Q := by
  have z8 := vd.z8
  refine W135_0 hs ?_
  rw [c.2.2.1.1.2.2.2.2]
  unfold gBack aBack at H
  cases y : gio S with
  | true =>
    have hz := gio_z vd y
    rw [if_pos (by decide)]
    rw [if_pos y, if_pos y] at H
    refine S61 sQ_54 sQ_64 (by omega) z8 hs (c.2.2.2.2.2.1 y) (vd.ix y).1.2.2.2.2.1 ?_
    intro h1 f1 cx1 s2
    refine ⟨rfl, ?_⟩
    refine W46_0 s2 ?_
    rintro _ rfl s3
    refine ⟨rfl, ?_⟩
    have f2 : FR h1 (ajSI h1 69 2 0) (fun o j => o = 69 ∧ j = 2) := FR_SI h1 ⟨rfl, rfl⟩
    have cx2 : cX (ajSI h1 69 2 0) 54 (gz S) (gIX S) := cX_FR cx1 f2 (fun o j z => by omega)
    have f12 : FR h (ajSI h1 69 2 0) PHd := FR_trans (FR_mono f1 (fun o j z => by unfold PCc at z; unfold PHd PAc PTk PCp PLw; omega)) (FR_mono f2 (fun o j z => by unfold PHd PAc; omega))
    have e21 : ajI (ajSI h1 69 2 0) 54 5 = (gIX S).1 21 := cx2.1.1.2.2.2.2.2.1
    rw [e21]
    obtain ⟨_, _, p, hp, ep, _⟩ := c.2.2.2.2.1
    refine H _ (FR_mono f12 (fun o j z => by unfold PHd PAc PTk PCp PLw at z; omega)) (CI_sX c f12 (fun o j z => z) cx2 ⟨by rw [ajI_SI, if_pos ⟨rfl, rfl⟩]; rfl, by omega, p, hp, (FR_I f2 (by omega)).trans ((FR_I f1 (by unfold PCc; omega)).trans ep), fun i hi => absurd hi (by omega)⟩)
  | false =>
    rw [if_neg (show ¬ ¬ flg false = 0 from fun z => z rfl)]
    rw [y, if_neg (by decide), if_neg (by decide)] at H
    exact H h (FR_refl _ _) c
theorem S248_16 {d : Nat} : ∀ (f v : Nat) (h : ajH) (Q : Option Value → ajH → Prop), v + f = 203 → ajShp h → (∀ k, k < v → ajI h 331 k = ajI h 341 k) →
    (∀ h', FR h h' (fun o j => o = 331 ∨ o = 320 ∧ j = 39) → ajI h' 320 39 = 0 → (∀ k, k < 203 → ajI h' 331 k = ajI h 341 k) → Q (some (.int (ajI h' 331 21))) h') → ajEv d 248 16 [.ref 320, .int (nI v)] [] h Q := by
  intro f
  induction f with
  | zero =>
    intro v h Q hv hs cp H
    refine W248_16 hs ?_
    rw [if_pos (by rw [sl_203, sr_le (by omega) (by omega)]; omega)]
    rintro _ rfl
    refine H _ (FR_SI h (Or.inr ⟨rfl, rfl⟩)) (by rw [ajI_SI, if_pos ⟨rfl, rfl⟩]) (fun k hk => ?_)
    rw [ajI_SI, if_neg (by omega)]; exact cp k (by omega)
  | succ f ih =>
    intro v h Q hv hs cp H
    refine W248_16 hs ?_
    rw [if_neg (by rw [sl_203, sr_le (by omega) (by omega)]; omega), sr_in (by omega), sr_N (by omega), nI_1]
    refine ⟨by omega, by omega, ?_⟩
    rintro _ rfl
    have f1 : FR h (ajSI h 331 v (ajI h 341 v)) (fun o j => o = 331 ∨ o = 320 ∧ j = 39) := FR_SI h (Or.inl rfl)
    refine ih (v + 1) _ Q (by omega) hs (fun k hk => ?_) (fun h' f2 e2 c2 => H h' (FR_trans f1 f2) e2 (fun k hk => ?_))
    · rw [ajI_SI, ajI_SI, if_neg (show ¬ (341 = 331 ∧ k = v) by omega)]
      by_cases y : k = v
      · rw [if_pos ⟨rfl, y⟩, y]
      · rw [if_neg (by omega)]; exact cp k (by omega)
    · rw [c2 k hk]; exact FR_I f1 (by omega)
theorem S248 {S : GS} {d : Nat} {h : ajH} {Q : Option Value → ajH → Prop} (hs : ajShp h) (c : MI S h) (vd : GVd S)
    (H : ∀ h', FR h h' (fun o j => 320 ≤ o ∧ o < 1000) → MI (gBack S) h' → Q (some (.int (aBack S))) h') : ajEv d 248 0 [.ref 320, ajU] [] h Q := by
  refine W248_0 hs ?_
  rintro _ rfl
  have c0 := MI_0 (x := 0) c
  have f0 : FR h (ajSI h 320 0 0) (fun o j => 320 ≤ o ∧ o < 1000) := FR_SI h (by omega)
  have s0 : ajShp (ajSI h 320 0 0) := hs
  generalize ajSI h 320 0 0 = h0 at c0 f0 s0
  rw [c0.2.2.1.1.2.2.2.2]
  unfold gBack aBack at H
  cases y : gio S with
  | true =>
    rw [if_pos (by decide)]
    rw [if_pos y, if_pos y] at H
    refine S248_16 203 0 h0 Q (by omega) s0 (fun k hk => absurd hk (by omega)) ?_
    intro h1 f1 e39 cp
    have mx : mX h1 331 0 (gIX S) := mX_cp (c0.2.2.2.2.2.1 y) (fun k hk => by rw [Nat.zero_add]; exact cp k hk)
    rw [(mX0 mx).1 21 (by omega)]
    have f1' : FR h0 h1 PMd := FR_mono f1 (fun o j z => by unfold PMd PRm; omega)
    refine H h1 (FR_trans f0 (FR_mono f1 (fun o j z => by omega))) (MI_sX c0 f1' (fun o j z => z) mx ⟨e39, by omega, fun i hi => absurd hi (by omega)⟩ (MemoOK_FR c0.2.2.2.2.2.2.2 f1 (fun j => by omega)))
  | false =>
    rw [if_neg (show ¬ ¬ flg false = 0 from fun z => z rfl)]
    rw [y, if_neg (by decide), if_neg (by decide)] at H
    exact H h0 f0 c0
