/-! Which turn to ask about. -/
def cN (p : Nat → Bool) : Nat → Nat
  | 0 => 0
  | n + 1 => if p n = true then cN p n + 1 else cN p n
theorem cN_le (p : Nat → Bool) : ∀ n, cN p n ≤ n := by
  intro n
  induction n with
  | zero => exact Nat.le_refl 0
  | succ n ih => unfold cN; split <;> omega
def asS (fit dn : Nat → Bool) : Nat → Int32
  | 0 => 0
  | n + 1 => if fit n = true then (if dn n = true then asS fit dn n + 1 else asS fit dn n + -1) else asS fit dn n
theorem asS_c (fit dn : Nat → Bool) : ∀ n, asS fit dn n + nI (cN fit n) = nI (2 * cN (fun v => fit v && dn v) n) := by
  intro n
  induction n with
  | zero => rfl
  | succ n ih =>
    show (if fit n = true then (if dn n = true then asS fit dn n + 1 else asS fit dn n + -1) else asS fit dn n) + nI (if fit n = true then cN fit n + 1 else cN fit n) = nI (2 * (if (fit n && dn n) = true then cN (fun v => fit v && dn v) n + 1 else cN (fun v => fit v && dn v) n))
    cases e1 : fit n with
    | false =>
      rw [if_neg (by decide), if_neg (by decide), if_neg (by simp)]; exact ih
    | true =>
      rw [if_pos rfl, if_pos rfl]
      cases e2 : dn n with
      | false =>
        rw [if_neg (by decide), if_neg (by decide), ← nI_1, ← ih]
        rw [Int32.add_assoc, ← Int32.add_assoc (-1), Int32.add_comm (-1), Int32.add_assoc, show (-1 : Int32) + 1 = 0 from rfl, Int32.add_zero]
      | true =>
        rw [if_pos rfl, if_pos (by decide), ← nI_1, show 2 * (cN (fun v => fit v && dn v) n + 1) = 2 * cN (fun v => fit v && dn v) n + 2 by omega, ← sr_add, ← ih, show nI 2 = (1 : Int32) + 1 from rfl]
        rw [Int32.add_assoc, Int32.add_assoc, ← Int32.add_assoc (1 : Int32), Int32.add_comm (1 : Int32) (nI _), Int32.add_assoc]
def ab (x : Int32) : Int32 := if 0 ≤ x then x else 0 - x
noncomputable def fts (S : GS) (k v : Nat) : Bool := fitB S (iAt S k v)
noncomputable def dnt (S : GS) (k t v : Nat) : Bool := dnS (gE S) (t - 1) (iAt S k v)
noncomputable def asX (S : GS) (k t : Nat) : Int32 := ab (asS (fts S k) (dnt S k t) 10)
noncomputable def aaF (S : GS) (k : Nat) : Nat → Nat → Int32 → Int32 → Int32
  | 0, _, b, _ => b
  | f + 1, t, b, l => if b = -1 ∨ asX S k t < l then aaF S k f (t + 1) (nI t) (asX S k t) else aaF S k f (t + 1) b l
noncomputable def aAsk (S : GS) (v : Int32) : Int32 := if isp (gz S) v = true then (if cN (fts S v.toNatClampNeg) 10 = 0 then -1 else aaF S v.toNatClampNeg 20 1 (-1) 0) else -1
def PSg (o j : Nat) : Prop := PTr o j ∨ o = 271 ∧ j = 4 ∨ o = 272
theorem CI_sg {S : GS} {h h' : ajH} {P : Nat → Nat → Prop} (c : CI S h) (f : FR h h' P) (p : ∀ o j, P o j → PSg o j) : CI S h' := CI_FR c f (fun o j z => by have y := p o j z; unfold PSg PTr PLw at y; unfold b1 b2 b3 b4 b5 b6 b7 PLw; omega)
theorem S118_6 {S : GS} {d k : Nat} {h : ajH} {Q : Option Value → ajH → Prop} (hs : ajShp h) (e4 : ajI h 271 4 = nI (cN (fts S k) 10)) (e272 : ∀ j, j < 20 → ajI h 272 j = nI (cN (fun v => fts S k v && dnt S k (j + 1) v) 10)) (hM : ¬ cN (fts S k) 10 = 0) : ∀ (f j : Nat) (b l : Int32) (u4 : Value), j + f = 20 →
    Q (some (.int (aaF S k f (j + 1) b l))) h → ajEv d 118 6 [.ref 271, .int b, .int l, .int (nI j), u4] [] h Q := by
  have lM := cN_le (fts S k) 10
  intro f
  induction f with
  | zero =>
    intro j b l u4 hj H
    refine W118_6 hs ?_
    rw [if_pos (by rw [sl_20, sr_le (by omega) (by omega)]; omega)]
    exact H
  | succ f ih =>
    intro j b l u4 hj H
    refine W118_6 hs ?_
    rw [if_neg (by rw [sl_20, sr_le (by omega) (by omega)]; omega), e4, if_neg (by rw [show (0 : Int32) = nI 0 from rfl, sr_le (by omega) (by omega)]; omega)]
    have ex : (2 * nI (cN (fun v => fts S k v && dnt S k (j + 1) v) 10)) - nI (cN (fts S k) 10) = asS (fts S k) (dnt S k (j + 1)) 10 := by
      rw [show (2 : Int32) * nI (cN (fun v => fts S k v && dnt S k (j + 1) v) 10) = nI (2 * cN (fun v => fts S k v && dnt S k (j + 1) v) 10) by rw [sl_2, sr_mul], ← asS_c, Int32.add_sub_cancel]
    have es : aaF S k (f + 1) (j + 1) b l = if b = -1 ∨ asX S k (j + 1) < l then aaF S k f (j + 1 + 1) (nI (j + 1)) (asX S k (j + 1)) else aaF S k f (j + 1 + 1) b l := rfl
    rw [es] at H
    rw [sr_N (by omega), e272 j (by omega), ex]
    refine ⟨by rw [sr_in (by omega)]; omega, ?_⟩
    have ea : (if 0 ≤ asS (fts S k) (dnt S k (j + 1)) 10 then asS (fts S k) (dnt S k (j + 1)) 10 else 0 - asS (fts S k) (dnt S k (j + 1)) 10) = asX S k (j + 1) := rfl
    rw [ea]
    have take : (b = -1 ∨ asX S k (j + 1) < l) → ajEv d 118 48 [.ref 271, .int b, .int l, .int (nI j), .int (asX S k (j + 1))] [] h Q := by
      intro y
      rw [if_pos y] at H
      refine W118_48 hs ?_
      rw [nI_1]
      exact ih (j + 1) _ _ _ (by omega) H
    by_cases y0 : b = -1
    · rw [if_pos y0]
      exact take (Or.inl y0)
    · rw [if_neg y0]
      by_cases y1 : l ≤ asX S k (j + 1)
      · rw [if_pos y1, nI_1]
        rw [if_neg (fun z => z.elim y0 (fun u => fa_nle u y1))] at H
        exact ih (j + 1) _ _ _ (by omega) H
      · rw [if_neg y1]
        exact take (Or.inr (Int32.not_le.mp y1))
theorem S117_12 {d : Nat} {m : Int32} {G : Nat → Nat} : ∀ (f j : Nat) (h : ajH) (Q : Option Value → ajH → Prop), j + f = 20 → ajShp h → (∀ i, i < 20 → ajI h 272 i = nI (if i < j ∧ hb m i = true then G i + 1 else G i)) →
    (∀ h', FR h h' (fun o _ => o = 272) → (∀ i, i < 20 → ajI h' 272 i = nI (if hb m i = true then G i + 1 else G i)) → Q none h') → ajEv d 117 12 [.ref 271, .int m, .int (nI j)] [] h Q := by
  intro f
  induction f with
  | zero =>
    intro j h Q hj hs e H
    refine W117_12 hs ?_
    rw [if_pos (by rw [sl_20, sr_le (by omega) (by omega)]; omega)]
    refine H h (FR_refl _ _) (fun i hi => ?_)
    rw [e i hi]
    by_cases y : hb m i = true
    · rw [if_pos ⟨by omega, y⟩, if_pos y]
    · rw [if_neg (fun z => y z.2), if_neg y]
  | succ f ih =>
    intro j h Q hj hs e H
    refine W117_12 hs ?_
    rw [if_neg (by rw [sl_20, sr_le (by omega) (by omega)]; omega), sr_in (by omega), sr_N (by omega), e j (by omega), if_neg (by omega), hb_shr _ (by omega), nI_1]
    refine ⟨by omega, by omega, ?_⟩
    rintro _ rfl
    have f1 : FR h (ajSI h 272 j (nI (G j) + (if hb m j = true then 1 else 0))) (fun o _ => o = 272) := FR_SI h rfl
    refine ih (j + 1) _ Q (by omega) hs (fun i hi => ?_) (fun h' g e' => H h' (FR_trans f1 g) e')
    rw [ajI_SI, e i hi]
    by_cases y : i = j
    · subst y
      rw [if_pos ⟨rfl, rfl⟩]
      by_cases y2 : hb m i = true
      · rw [if_pos y2, if_pos ⟨by omega, y2⟩, nI_1]
      · rw [if_neg y2, if_neg (fun z => y2 z.2), Int32.add_zero]
    · rw [if_neg (fun z => y z.2)]
      by_cases y2 : i < j ∧ hb m i = true
      · rw [if_pos y2, if_pos ⟨by omega, y2.2⟩]
      · rw [if_neg y2, if_neg (fun z => y2 ⟨by omega, z.2⟩)]
theorem S116_7 {d : Nat} : ∀ (f j : Nat) (h : ajH) (Q : Option Value → ajH → Prop), j + f = 20 → ajShp h → (∀ i, i < j → ajI h 272 i = 0) →
    (∀ h', FR h h' (fun o _ => o = 272) → (∀ i, i < 20 → ajI h' 272 i = 0) → Q none h') → ajEv d 116 7 [.ref 271, .int (nI j)] [] h Q := by
  intro f
  induction f with
  | zero =>
    intro j h Q hj hs e H
    refine W116_7 hs ?_
    rw [if_pos (by rw [sl_20, sr_le (by omega) (by omega)]; omega)]
    exact H h (FR_refl _ _) (fun i hi => e i (by omega))
  | succ f ih =>
    intro j h Q hj hs e H
    refine W116_7 hs ?_
    rw [if_neg (by rw [sl_20, sr_le (by omega) (by omega)]; omega), sr_in (by omega), sr_N (by omega), nI_1]
    refine ⟨by omega, ?_⟩
    rintro _ rfl
    have f1 : FR h (ajSI h 272 j 0) (fun o _ => o = 272) := FR_SI h rfl
    refine ih (j + 1) _ Q (by omega) hs (fun i hi => ?_) (fun h' g e' => H h' (FR_trans f1 g) e')
    rw [ajI_SI]
    by_cases y : i = j
    · rw [if_pos ⟨rfl, y⟩]
    · rw [if_neg (fun z => y z.2)]; exact e i (by omega)
theorem S115_19 {S : GS} {d k : Nat} (vd : GVd S) (hk : k < gz S) : ∀ (f v : Nat) (h : ajH) (Q : Option Value → ajH → Prop) (u3 : Value), v + f = 10 → ajShp h → CI S h → ajI h 271 4 = nI (cN (fts S k) v) → (∀ j, j < 20 → ajI h 272 j = nI (cN (fun w => fts S k w && dnt S k (j + 1) w) v)) →
    (∀ h', FR h h' PSg → CI S h' → Q (some (.int (if cN (fts S k) 10 = 0 then -1 else aaF S k 20 1 (-1) 0))) h') → ajEv (d + 6) 115 19 [.ref 1, .int (nI k), .int (nI v), u3] [] h Q := by
  have z8 := vd.z8
  intro f
  induction f with
  | zero =>
    intro v h Q u3 hv hs c e4 e272 H
    obtain rfl : v = 10 := by omega
    have lM := cN_le (fts S k) 10
    have H0 := H h (FR_refl _ _) c
    refine W115_19 hs ?_
    rw [if_pos (by rw [sl_9, sr_lt (by omega) (by omega)]; omega)]
    refine W118_0 hs ?_
    by_cases y : cN (fts S k) 10 = 0
    · refine W118_6 hs ?_
      rw [if_neg (by decide), e4, y, if_pos (by decide)]
      intro s1
      refine ⟨_, rfl, ?_⟩
      rw [if_pos y] at H0; exact H0
    · refine S118_6 hs e4 e272 y 20 0 _ _ _ (by omega) ?_
      intro s1
      refine ⟨_, rfl, ?_⟩
      rw [if_neg y] at H0; exact H0
  | succ f ih =>
    intro v h Q u3 hv hs c e4 e272 H
    refine W115_19 hs ?_
    rw [if_neg (by rw [sl_9, sr_lt (by omega) (by omega)]; omega), sl_20]
    refine S113 vd hk (by omega) (by omega) hs c ?_
    intro h1 f1 c1 s1
    refine ⟨_, rfl, ?_⟩
    refine S114 s1 c1.2.2.2.2.2.2 vd (fun i hi => (vd.st i hi).2) (by omega) ?_
    intro s2
    refine ⟨_, rfl, ?_⟩
    have f1' : FR h h1 PSg := FR_mono f1 (fun o j z => Or.inl z)
    have e4' : ajI h1 271 4 = nI (cN (fts S k) v) := (FR_I f1 (by unfold PTr PLw; omega)).trans e4
    have e272' : ∀ j, j < 20 → ajI h1 272 j = nI (cN (fun w => fts S k w && dnt S k (j + 1) w) v) := fun j hj => (FR_I f1 (by unfold PTr PLw; omega)).trans (e272 j hj)
    have hp : ∀ j, j < 20 → hb (paF (gE S) 20 0 (iAt S k v) 0) j = dnt S k (j + 1) v := fun j hj => by
      rw [hb_paF _ _ _ _ _ _ (by omega) (by omega), hb_0, decide_eq_true (show 0 ≤ j by omega), decide_eq_true (show j < 0 + 20 by omega)]
      show (false || (true && true && dnS (gE S) (j - 0) (iAt S k v))) = dnS (gE S) (j + 1 - 1) (iAt S k v)
      simp
    have cs : ∀ p : Nat → Bool, cN p (v + 1) = if p v = true then cN p v + 1 else cN p v := fun p => rfl
    show (if flg (fts S k v) = 0 then _ else _)
    cases ef : fts S k v with
    | false =>
      rw [if_pos (show flg false = 0 from rfl), nI_1]
      refine ih (v + 1) h1 Q _ (by omega) s2 c1 ?_ (fun j hj => ?_) (fun h' g c' => H h' (FR_trans f1' g) c')
      · rw [cs, ef, if_neg (by decide)]; exact e4'
      · rw [cs, ef, Bool.false_and, if_neg (by decide)]; exact e272' j hj
    | true =>
      rw [if_neg (by decide)]
      refine W117_0 s2 ?_
      rintro _ rfl
      rw [e4', nI_1]
      have f2 : FR h1 (ajSI h1 271 4 (nI (cN (fts S k) v + 1))) (fun o j => o = 271 ∧ j = 4) := FR_SI h1 ⟨rfl, rfl⟩
      have s3 : ajShp (ajSI h1 271 4 (nI (cN (fts S k) v + 1))) := s2
      have e5 : ajI (ajSI h1 271 4 (nI (cN (fts S k) v + 1))) 271 4 = nI (cN (fts S k) v + 1) := by rw [ajI_SI, if_pos ⟨rfl, rfl⟩]
      generalize ajSI h1 271 4 (nI (cN (fts S k) v + 1)) = h2 at f2 s3 e5
      refine S117_12 (G := fun j => cN (fun w => fts S k w && dnt S k (j + 1) w) v) 20 0 h2 _ (by omega) s3 (fun i hi => by rw [if_neg (by omega), FR_I f2 (by omega)]; exact e272' i hi) ?_
      intro h3 f3 e3 s4
      refine ⟨rfl, ?_⟩
      rw [nI_1]
      have f13 : FR h1 h3 PSg := FR_trans (FR_mono f2 (fun o j z => by unfold PSg; omega)) (FR_mono f3 (fun o j z => by unfold PSg; omega))
      refine ih (v + 1) h3 Q _ (by omega) s4 (CI_sg c1 f13 (fun o j z => z)) ?_ (fun j hj => ?_) (fun h' g c' => H h' (FR_trans f1' (FR_trans f13 g)) c')
      · rw [cs, ef, if_pos rfl, FR_I f3 (by omega)]; exact e5
      · rw [cs, ef, Bool.true_and, e3 j hj, hp j hj]
theorem S115 {S : GS} {d : Nat} {v : Int32} {h : ajH} {Q : Option Value → ajH → Prop} (hs : ajShp h) (c : CI S h) (vd : GVd S)
    (H : ∀ h', FR h h' PSg → CI S h' → Q (some (.int (aAsk S v))) h') : ajEv (d + 6) 115 0 [.ref 1, .int v, ajU, ajU] [] h Q := by
  have z8 := vd.z8
  refine W115_0 hs ?_
  refine S58 hs c.2.1 ?_
  intro s1
  refine ⟨_, rfl, ?_⟩
  unfold aAsk at H
  cases e1 : isp (gz S) v with
  | false =>
    rw [if_neg (show ¬ ¬ flg false = 0 from fun z => z rfl)]
    rw [e1, if_neg (by decide)] at H
    exact H h (FR_refl _ _) c
  | true =>
    rw [if_pos (by decide)]
    obtain ⟨k, hk, rfl⟩ := isp_k z8 e1
    rw [e1, if_pos rfl, sr_N (by omega)] at H
    refine W116_0 s1 ?_
    rintro _ rfl
    have f1 : FR h (ajSI h 271 4 0) (fun o j => o = 271 ∧ j = 4) := FR_SI h ⟨rfl, rfl⟩
    have s2 : ajShp (ajSI h 271 4 0) := s1
    have e4 : ajI (ajSI h 271 4 0) 271 4 = 0 := by rw [ajI_SI, if_pos ⟨rfl, rfl⟩]
    generalize ajSI h 271 4 0 = h1 at f1 s2 e4
    refine S116_7 20 0 h1 _ (by omega) s2 (fun i hi => absurd hi (by omega)) ?_
    intro h2 f2 e2 s3
    refine ⟨rfl, ?_⟩
    have f12 : FR h h2 PSg := FR_trans (FR_mono f1 (fun o j z => by unfold PSg; omega)) (FR_mono f2 (fun o j z => by unfold PSg; omega))
    exact S115_19 vd hk 10 0 h2 Q _ (by omega) s3 (CI_sg c f12 (fun o j z => z)) ((FR_I f2 (by omega)).trans e4) e2 (fun h' g c' => H h' (FR_trans f12 g) c')
theorem S230_43 {S : GS} {d k t : Nat} {b l : Int32} {h : ajH} {Q : Option Value → ajH → Prop} (vd : GVd S) (hs : ajShp h) (c : MI S h) (e : ∀ w, w < 10 → ajI h 340 w = paF (gE S) 20 1 (iAt S k w) 0) (t1 : 1 ≤ t) (t20 : t ≤ 20)
    (H1 : cN (fts S k) 10 = 0 → Q (some (.int (-1))) h) (H2 : ¬ cN (fts S k) 10 = 0 → ∀ u6 u7, (if b = -1 ∨ asX S k t < l then ajEv (d + 1) 230 27 [.ref 320, ajU, .int (nI t), .int (asX S k t), .int (nI (t + 1)), .int (asX S k t), u6, u7] [] h Q else ajEv (d + 1) 230 27 [.ref 320, ajU, .int b, .int l, .int (nI (t + 1)), .int (asX S k t), u6, u7] [] h Q)) : ∀ (f v : Nat) (u1 : Value), v + f = 10 →
    ajEv (d + 1) 230 43 [.ref 320, u1, .int b, .int l, .int (nI t), .int (asS (fts S k) (dnt S k t) v), .int (if cN (fts S k) v = 0 then 0 else 1), .int (nI v)] [] h Q := by
  intro f
  induction f with
  | zero =>
    intro v u1 hv
    obtain rfl : v = 10 := by omega
    refine W230_43 hs ?_
    rw [if_pos (by decide)]
    by_cases y : cN (fts S k) 10 = 0
    · rw [if_pos y, if_neg (fun z => z rfl)]
      exact H1 y
    · rw [if_neg y, if_pos (by decide)]
      have r := H2 y
      have ea : (if 0 ≤ asS (fts S k) (dnt S k t) 10 then asS (fts S k) (dnt S k t) 10 else 0 - asS (fts S k) (dnt S k t) 10) = asX S k t := rfl
      rw [ea, nI_1]
      by_cases y0 : b = -1
      · rw [if_pos y0]
        simp only [if_pos (Or.inl y0 : b = -1 ∨ asX S k t < l)] at r
        exact r _ _
      · rw [if_neg y0]
        by_cases y1 : asX S k t < l
        · rw [if_pos y1]
          simp only [if_pos (Or.inr y1 : b = -1 ∨ asX S k t < l)] at r
          exact r _ _
        · rw [if_neg y1]
          simp only [if_neg (show ¬ (b = -1 ∨ asX S k t < l) from fun z => z.elim y0 y1)] at r
          exact r _ _
  | succ f ih =>
    intro v u1 hv
    refine W230_43 hs ?_
    rw [if_neg (by rw [sl_9, sr_lt (by omega) (by omega)]; omega)]
    refine S229 vd hs c.2.2.2.2.2.2.1 (by omega) (e v (by omega)) ?_
    intro s1
    refine ⟨_, rfl, ?_⟩
    have ih1 := ih (v + 1) ajU (by omega)
    have es : asS (fts S k) (dnt S k t) (v + 1) = if fts S k v = true then (if dnt S k t v = true then asS (fts S k) (dnt S k t) v + 1 else asS (fts S k) (dnt S k t) v + -1) else asS (fts S k) (dnt S k t) v := rfl
    have cs : cN (fts S k) (v + 1) = if fts S k v = true then cN (fts S k) v + 1 else cN (fts S k) v := rfl
    show (if ¬ flg (fts S k v) = 0 then _ else _)
    cases ef : fts S k v with
    | false =>
      rw [if_neg (show ¬ ¬ flg false = 0 from fun z => z rfl), nI_1]
      rw [es, if_neg (show ¬ fts S k v = true by rw [ef]; decide), cs, if_neg (show ¬ fts S k v = true by rw [ef]; decide)] at ih1
      exact ih1
    | true =>
      rw [if_pos (by decide)]
      rw [es, if_pos ef, cs, if_pos ef, if_neg (show ¬ cN (fts S k) v + 1 = 0 by omega)] at ih1
      refine ⟨by rw [sr_in (by omega)]; omega, ?_⟩
      rw [sr_N (by omega), e v (by omega)]
      refine S154 s1 (by omega) ?_
      intro s2
      refine ⟨_, rfl, ?_⟩
      rw [hb_20 _ _ t1 t20, nI_1]
      show (if flg (dnt S k t v) = 0 then _ else _)
      cases ed : dnt S k t v with
      | false =>
        rw [if_pos (show flg false = 0 from rfl)]
        rw [if_neg (show ¬ dnt S k t v = true by rw [ed]; decide)] at ih1
        exact ih1
      | true =>
        rw [if_neg (by decide)]
        rw [if_pos ed] at ih1
        exact ih1
theorem S230_27 {S : GS} {d k : Nat} {h : ajH} {Q : Option Value → ajH → Prop} (vd : GVd S) (hs : ajShp h) (c : MI S h) (e : ∀ w, w < 10 → ajI h 340 w = paF (gE S) 20 1 (iAt S k w) 0) (hM : ¬ cN (fts S k) 10 = 0) : ∀ (f t : Nat) (b l : Int32) (u1 u5 u6 u7 : Value), t + f = 21 → 1 ≤ t →
    Q (some (.int (aaF S k f t b l))) h → ajEv (d + 1) 230 27 [.ref 320, u1, .int b, .int l, .int (nI t), u5, u6, u7] [] h Q := by
  intro f
  induction f with
  | zero =>
    intro t b l u1 u5 u6 u7 ht t1 H
    refine W230_27 hs ?_
    rw [if_pos (by rw [sl_20, sr_lt (by omega) (by omega)]; omega)]
    exact H
  | succ f ih =>
    intro t b l u1 u5 u6 u7 ht t1 H
    refine W230_27 hs ?_
    rw [if_neg (by rw [sl_20, sr_lt (by omega) (by omega)]; omega)]
    refine S230_43 vd hs c e t1 (by omega) (fun z => absurd z hM) (fun _ u6 u7 => ?_) 10 0 _ (by omega)
    have es : aaF S k (f + 1) t b l = if b = -1 ∨ asX S k t < l then aaF S k f (t + 1) (nI t) (asX S k t) else aaF S k f (t + 1) b l := rfl
    rw [es] at H
    by_cases y : b = -1 ∨ asX S k t < l
    · rw [if_pos y]; rw [if_pos y] at H
      exact ih (t + 1) _ _ _ _ _ _ (by omega) (by omega) H
    · rw [if_neg y]; rw [if_neg y] at H
      exact ih (t + 1) _ _ _ _ _ _ (by omega) (by omega) H
theorem S230 {S : GS} {d : Nat} {v : Int32} {h : ajH} {Q : Option Value → ajH → Prop} (hs : ajShp h) (c : MI S h) (vd : GVd S)
    (H : ∀ h', FR h h' PMv → MI S h' → Q (some (.int (aAsk S v))) h') : ajEv (d + 39) 230 0 [.ref 320, .int v, ajU, ajU, ajU, ajU, ajU, ajU] [] h Q := by
  have z8 := vd.z8
  refine W230_0 hs ?_
  rintro _ rfl
  have c0 := MI_0 (x := 0) c
  have f0 : FR h (ajSI h 320 0 0) PMv := FR_SI h (by unfold PMv PMt; omega)
  have s0 : ajShp (ajSI h 320 0 0) := hs
  generalize ajSI h 320 0 0 = h0 at c0 f0 s0
  refine S179 s0 c0.2.1 ?_
  intro s1
  refine ⟨_, rfl, ?_⟩
  unfold aAsk at H
  cases e1 : isp (gz S) v with
  | false =>
    rw [if_neg (show ¬ ¬ flg false = 0 from fun z => z rfl)]
    rw [e1, if_neg (by decide)] at H
    exact H h0 f0 c0
  | true =>
    rw [if_pos (by decide)]
    obtain ⟨k, hk, rfl⟩ := isp_k z8 e1
    rw [e1, if_pos rfl, sr_N (by omega)] at H
    refine S228 vd hk s1 c0 ?_
    intro h1 f1 c1 e340 s2
    refine ⟨rfl, ?_⟩
    have H1 := H h1 (FR_trans f0 f1) c1
    by_cases y : cN (fts S k) 10 = 0
    · rw [if_pos y] at H1
      refine W230_27 s2 ?_
      rw [if_neg (by decide)]
      exact S230_43 vd s2 c1 e340 (t := 1) (by omega) (by omega) (fun _ => H1) (fun z => absurd y z) 10 0 _ (by omega)
    · rw [if_neg y] at H1
      exact S230_27 vd s2 c1 e340 y 20 1 _ _ _ _ _ _ (by omega) (by omega) H1
