/-! Turns and stops by which told things are done, the reference. -/
def PMp (left o j : Nat) : Prop := Pst 332 o j ∨ o = 332 ∨ o = 338 ∧ j < 22 * (left + 1) ∨ o = 320 ∧ (j = 0 ∨ j = 42 ∨ j = 43)
def PMq (o j : Nat) : Prop := Pst 332 o j ∨ o = 332 ∨ o = 338 ∨ o = 320 ∧ (j = 0 ∨ j = 42 ∨ j = 43)
theorem PMp_q {left o j : Nat} (z : PMp left o j) : PMq o j := by unfold PMp Pst PY at z; unfold PMq Pst PY; omega
theorem MI_pq {S : GS} {h h' : ajH} {P : Nat → Nat → Prop} (c : MI S h) (f : FR h h' P) (p : ∀ o j, P o j → PMq o j) (e8 : r8 S h') : MI S h' := MI_FR c f (fun o j z => by have y := p o j z; unfold PMq Pst PY at y; unfold d1 d2 d3 d4 d5 d6 d7; omega) e8
def plM (a : Int32 × Nat) (h : ajH) : Prop := ajI h 320 42 = a.1 ∧ ajI h 320 43 = nI a.2
theorem S223_32 {d left n row : Nat} {B : Int32} {R : Nat → Int32} (h8 : left ≤ 8) : ∀ (f v : Nat) (h : ajH) (Q : Option Value → ajH → Prop) (u6 : Value), v + f = 22 → ajShp h → RW h 332 R → (∀ k, k < v → ajI h 338 (22 * left + k) = R k) →
    (∀ h', FR h h' (fun o j => o = 338 ∧ j < 22 * (left + 1)) → ajShp h' → (∀ k, k < 22 → ajI h' 338 (22 * left + k) = R k) → ajEv (d + 1) 223 67 [.ref 320, .int (nI left), .int (nI n), .int B, .int (nI row), .int 0, ajU] [] h' Q) →
    ajEv (d + 1) 223 32 [.ref 320, .int (nI left), .int (nI n), .int B, .int (nI row), .int (nI v), u6] [] h Q := by
  intro f
  induction f with
  | zero =>
    intro v h Q u6 hv hs rw cp H
    refine W223_32 hs ?_
    rw [if_pos (by rw [sl_22, sr_le (by omega) (by omega)]; omega)]
    exact H h (FR_refl _ _) hs (fun k hk => cp k (by omega))
  | succ f ih =>
    intro v h Q u6 hv hs rw cp H
    refine W223_32 hs ?_
    rw [if_neg (by rw [sl_22, sr_le (by omega) (by omega)]; omega), sr_in (by omega), sr_N (by omega), sl_22, sr_mul, sr_add, sr_in (by omega), sr_N (by omega), rw v (by omega), nI_1]
    refine ⟨by omega, by omega, ?_⟩
    rintro _ rfl
    have f1 : FR h (ajSI h 338 (22 * left + v) (R v)) (fun o j => o = 338 ∧ j < 22 * (left + 1)) := FR_SI h ⟨rfl, by omega⟩
    have s1 : ajShp (ajSI h 338 (22 * left + v) (R v)) := hs
    refine ih (v + 1) _ Q _ (by omega) s1 (fun k hk => (by rw [ajI_SI, if_neg (by omega)]; exact rw k hk)) (fun k hk => ?_) (fun h' f' s' cp' => H h' (FR_trans f1 f') s' cp')
    rw [ajI_SI]
    by_cases y : k = v
    · rw [if_pos ⟨rfl, by omega⟩, y]
    · rw [if_neg (by omega)]; exact cp k (by omega)
theorem S223_76 {d left n row : Nat} {B : Int32} {R : Nat → Int32} {b : Bool} (h8 : left ≤ 8) : ∀ (f v : Nat) (h : ajH) (Q : Option Value → ajH → Prop), v + f = 22 → ajShp h → (∀ k, k < 22 → ajI h 338 (22 * left + k) = R k) → (∀ k, k < v → ajI h 332 k = R k) →
    (∀ h' (u6 : Value), FR h h' (fun o _ => o = 332) → ajShp h' → RW h' 332 R → ajEv (d + 1) 223 124 [.ref 320, .int (nI left), .int (nI n), .int B, .int (nI row), .int (flg b), u6] [.int (flg b), .ref 332, .ref 320] h' Q) →
    ajEv (d + 1) 223 76 [.ref 320, .int (nI left), .int (nI n), .int B, .int (nI row), .int (flg b), .int (nI v)] [] h Q := by
  intro f
  induction f with
  | zero =>
    intro v h Q hv hs cp rw H
    refine W223_76 hs ?_
    rw [if_pos (by rw [sl_22, sr_le (by omega) (by omega)]; omega)]
    have r := H h (.int (nI v)) (FR_refl _ _) hs (fun k hk => rw k (by omega))
    cases b with
    | false => rw [if_pos (show ¬ flg false = 1 by decide)]; exact r
    | true => rw [if_neg (show ¬ ¬ flg true = 1 from fun z => z rfl)]; exact r
  | succ f ih =>
    intro v h Q hv hs cp rw H
    refine W223_76 hs ?_
    rw [if_neg (by rw [sl_22, sr_le (by omega) (by omega)]; omega), sl_22, sr_mul, sr_add, sr_in (by omega), sr_in (by omega), sr_N (by omega), sr_N (by omega), cp v (by omega), nI_1]
    refine ⟨by omega, by omega, ?_⟩
    rintro _ rfl
    have f1 : FR h (ajSI h 332 v (R v)) (fun o _ => o = 332) := FR_SI h rfl
    have s1 : ajShp (ajSI h 332 v (R v)) := hs
    refine ih (v + 1) _ Q (by omega) s1 (fun k hk => by rw [ajI_SI, if_neg (by omega)]; exact cp k hk) (fun k hk => ?_) (fun h' u6 f' s' rw' => H h' u6 (FR_trans f1 f') s' rw')
    rw [ajI_SI]
    by_cases y : k = v
    · rw [if_pos ⟨rfl, y⟩, y]
    · rw [if_neg (by omega)]; exact rw k (by omega)
theorem S223_67 {S : GS} {n dep left row T : Nat} {B : Int32} {b : Bool} {R : Nat → Int32} {a : Int32 × Nat} {d : Nat} {h : ajH} {Q : Option Value → ajH → Prop} {u6 : Value} (vd : GVd S) (hz : 0 < gz S) (hd : dep + (left + 1) = n) (n8 : n ≤ 8) (hrow : row < 10 ^ dep) (hs : ajShp h) (c : MI S h) (cp : ∀ k, k < 22 → ajI h 338 (22 * (left + 1) + k) = R k) (rv : RV (gz S) T R) (hT : T + left ≤ 100000) (pl : plM a h) (ka : plA a) (hm : a.2 + 2 ^ left ≤ 256)
    (ih : ∀ (row : Nat) (a : Int32 × Nat) (h : ajH) (Q : Option Value → ajH → Prop) (R : Nat → Int32), row < 10 ^ (dep + 1) → ajShp h → MI S h → RW h 332 R → RV (gz S) (T + 1) R → plM a h → plA a → a.2 + 2 ^ left ≤ 256 →
      (∀ h', FR h h' (PMp left) → MI S h' → plM (plF (gE S) B left (dep + 1) R row a) h' → Q none h') → ajEv (d + left + 38) 223 0 [.ref 320, .int (nI left), .int (nI n), .int B, .int (nI row), ajU, ajU] [] h Q)
    (H : ∀ h' (u6 : Value), FR h h' (PMp (left + 1)) → ajShp h' → MI S h' → (∀ k, k < 22 → ajI h' 338 (22 * (left + 1) + k) = R k) → plM (plD (plF (gE S) B left (dep + 1)) (gE S) (hb B dep) R row b a) h' → ajEv (d + left + 39) 223 67 [.ref 320, .int (nI (left + 1)), .int (nI n), .int B, .int (nI row), .int (flg b + 1), u6] [] h' Q) : ajEv (d + left + 39) 223 67 [.ref 320, .int (nI (left + 1)), .int (nI n), .int B, .int (nI row), .int (flg b), u6] [] h Q := by
  have z8 := vd.z8
  refine W223_67 hs ?_
  rw [if_neg (by cases b <;> decide)]
  refine S223_76 (by omega) 22 0 h Q (by omega) hs cp (fun k hk => absurd hk (by omega)) ?_
  intro h1 u6 f1 s1 rw1
  have f1' : FR h h1 (PMp (left + 1)) := FR_mono f1 (fun o j z => Or.inr (Or.inl z))
  have c1 : MI S h1 := MI_pq c f1' (fun o j z => PMp_q z) (r8_FR c.2.2.2.2.2.2.2 f1 (fun o j z => by omega))
  refine W223_124 s1 ?_
  refine mTr s1 c1 vd hz rv (by omega) rw1 ?_
  intro h2 f2 c2 rw2 _ _ s2
  refine ⟨_, rfl, ?_⟩
  have f2' : FR h1 h2 (PMp (left + 1)) := FR_mono f2 (fun o j z => by unfold PMt Pst PY at z; unfold PMp Pst PY; omega)
  have f12 : FR h h2 (PMp (left + 1)) := FR_trans f1' f2'
  have cp2 : ∀ k, k < 22 → ajI h2 338 (22 * (left + 1) + k) = R k := fun k hk => ((FR_I f2 (by unfold PMt Pst PY; omega)).trans (FR_I f1 (by omega))).trans (cp k hk)
  have pl2 : plM a h2 := ⟨((FR_I f2 (by unfold PMt Pst PY; omega)).trans (FR_I f1 (by omega))).trans pl.1, ((FR_I f2 (by unfold PMt Pst PY; omega)).trans (FR_I f1 (by omega))).trans pl.2⟩
  have rv2 : RV (gz S) (T + 1) (iPl (gE S) (iTurn (gE S) b R)) := RV_nx (gE_g vd) (gE_ok vd) z8 rv (by omega)
  rw [sr_sub (by omega), show n - (left + 1) = dep by omega, hb_shr _ (by omega), show (if hb B dep = true then (1 : Int32) else 0) = flg (hb B dep) from rfl]
  have ed : plD (plF (gE S) B left (dep + 1)) (gE S) (hb B dep) R row b a = if iDone (gE S) (iTurn (gE S) b R) = flg (hb B dep) then plF (gE S) B left (dep + 1) (iPl (gE S) (iTurn (gE S) b R)) (row * 10 + (if b = true then 1 else 0)) a else a := rfl
  by_cases y : iDone (gE S) (iTurn (gE S) b R) = flg (hb B dep)
  · rw [if_neg (fun z => z y)]
    rw [ed, if_pos y] at H
    have e10 : 10 ^ (dep + 1) = 10 ^ dep * 10 := Nat.pow_succ ..
    rw [show nI (left + 1) - 1 = nI left by rw [sl_1, sr_sub (by omega)]; rfl, sl_10, sr_mul, show flg b = nI (if b = true then 1 else 0) by cases b <;> rfl, sr_add, show 10 * row + (if b = true then 1 else 0) = row * 10 + (if b = true then 1 else 0) by omega]
    refine ih (row * 10 + (if b = true then 1 else 0)) a h2 _ _ (by cases b <;> simp <;> omega) s2 c2 rw2 rv2 pl2 ka hm ?_
    intro h3 f3 c3 pl3 s3
    refine ⟨rfl, ?_⟩
    have f13 : FR h h3 (PMp (left + 1)) := FR_trans f12 (FR_mono f3 (fun o j z => by unfold PMp Pst PY at z; unfold PMp Pst PY; omega))
    have r := H h3 ajU f13 s3 c3 (fun k hk => (FR_I f3 (by unfold PMp Pst PY; omega)).trans (cp2 k hk)) pl3
    rw [show flg b = nI (if b = true then 1 else 0) by cases b <;> rfl] at r
    exact r
  · rw [if_pos y]
    rw [ed, if_neg y] at H
    exact H h2 ajU f12 s2 c2 cp2 pl2
theorem S223 {S : GS} {n : Nat} {B : Int32} (vd : GVd S) (hz : 0 < gz S) (n8 : n ≤ 8) {d : Nat} : ∀ (left dep row : Nat) (a : Int32 × Nat) (h : ajH) (Q : Option Value → ajH → Prop) (R : Nat → Int32) (T : Nat), dep + left = n → row < 10 ^ dep → ajShp h → MI S h → RW h 332 R → RV (gz S) T R → T + left ≤ 100000 → plM a h → plA a → a.2 + 2 ^ left ≤ 256 →
    (∀ h', FR h h' (PMp left) → MI S h' → plM (plF (gE S) B left dep R row a) h' → Q none h') → ajEv (d + left + 38) 223 0 [.ref 320, .int (nI left), .int (nI n), .int B, .int (nI row), ajU, ajU] [] h Q := by
  have z8 := vd.z8
  intro left
  induction left with
  | zero =>
    intro dep row a h Q R T hd hrow hs c rw rv hT pl ka hm H
    refine W223_0 hs ?_
    rw [if_neg (show ¬ ¬ nI 0 = 0 from fun z => z rfl), pl.1, pl.2]
    have e : plF (gE S) B 0 dep R row a = plf row a := rfl
    rw [e] at H
    unfold plf at H
    by_cases y : a.2 = 0
    · rw [if_pos y] at H
      have k1 : a.1 = -1 := by
        rcases ka with k | k
        · exact k.2
        · omega
      rw [k1, if_neg (fun z => z rfl)]
      rintro _ rfl _ rfl
      have f4 : FR h (ajSI (ajSI h 320 42 (nI row)) 320 43 (ajI (ajSI h 320 42 (nI row)) 320 43 + 1)) (PMp 0) := FR_trans (FR_SI h (by unfold PMp; omega)) (FR_SI _ (by unfold PMp; omega))
      have e6 : ajI (ajSI (ajSI h 320 42 (nI row)) 320 43 (ajI (ajSI h 320 42 (nI row)) 320 43 + 1)) 320 43 = nI 1 := by
        rw [ajI_SI, if_pos ⟨rfl, rfl⟩, ajI_SI, if_neg (by omega), pl.2, y]; rfl
      have e5 : ajI (ajSI (ajSI h 320 42 (nI row)) 320 43 (ajI (ajSI h 320 42 (nI row)) 320 43 + 1)) 320 42 = nI row := by
        rw [ajI_SI, if_neg (by omega), ajI_SI, if_pos ⟨rfl, rfl⟩]
      have g4 : FR h (ajSI (ajSI h 320 42 (nI row)) 320 43 (ajI (ajSI h 320 42 (nI row)) 320 43 + 1)) (fun o j => o = 320 ∧ (j = 42 ∨ j = 43)) := FR_trans (FR_SI h (by omega)) (FR_SI _ (by omega))
      generalize ajSI (ajSI h 320 42 (nI row)) 320 43 (ajI (ajSI h 320 42 (nI row)) 320 43 + 1) = h4 at *
      exact H h4 f4 (MI_pq c f4 (fun o j z => PMp_q z) (r8_FR c.2.2.2.2.2.2.2 g4 (fun o j z => by omega))) ⟨e5, e6⟩
    · rw [if_neg y] at H
      have k1 : ¬ a.1 = -1 := by
        rcases ka with k | k
        · exact absurd k.1 y
        · obtain ⟨_, r, hr, e⟩ := k
          rw [e, show (-1 : Int32) = nI 4294967295 from rfl]
          intro z
          have z2 := congrArg Int32.toInt z
          rw [sr_toInt (by omega)] at z2
          have : (nI 4294967295).toInt = -1 := rfl
          omega
      rw [if_pos k1]
      rintro _ rfl
      have f4 : FR h (ajSI h 320 43 (nI a.2 + 1)) (PMp 0) := FR_SI h (by unfold PMp; omega)
      have e6 : ajI (ajSI h 320 43 (nI a.2 + 1)) 320 43 = nI (a.2 + 1) := by rw [ajI_SI, if_pos ⟨rfl, rfl⟩, nI_1]
      have g4 : FR h (ajSI h 320 43 (nI a.2 + 1)) (fun o j => o = 320 ∧ j = 43) := FR_SI h (by omega)
      generalize ajSI h 320 43 (nI a.2 + 1) = h4 at *
      exact H h4 f4 (MI_pq c f4 (fun o j z => PMp_q z) (r8_FR c.2.2.2.2.2.2.2 g4 (fun o j z => by omega))) ⟨(FR_I g4 (by omega)).trans pl.1, e6⟩
  | succ left ih =>
    intro dep row a h Q R T hd hrow hs c rw rv hT pl ka hm H
    have e2 : 2 ^ (left + 1) = 2 ^ left * 2 := Nat.pow_succ ..
    have ihh := fun (row : Nat) (a : Int32 × Nat) (h : ajH) (Q : Option Value → ajH → Prop) (R : Nat → Int32) (hr : row < 10 ^ (dep + 1)) (hs : ajShp h) (c : MI S h) (rw : RW h 332 R) (rv : RV (gz S) (T + 1) R) (pl : plM a h) (ka : plA a) (hm : a.2 + 2 ^ left ≤ 256)
      (H : ∀ h', FR h h' (PMp left) → MI S h' → plM (plF (gE S) B left (dep + 1) R row a) h' → Q none h') => ih (dep + 1) row a h Q R (T + 1) (by omega) hr hs c rw rv (by omega) pl ka hm H
    have st := fun (b : Bool) (a : Int32 × Nat) (k : plA a) => by
      have r := plF_ok (gE S) B left (dep + 1) (iPl (gE S) (iTurn (gE S) b R)) (row * 10 + (if b = true then 1 else 0)) a (by have : 10 ^ (dep + 1) = 10 ^ dep * 10 := Nat.pow_succ ..; cases b <;> simp <;> omega) (by omega) k
      exact (show plA (plD (plF (gE S) B left (dep + 1)) (gE S) (hb B dep) R row b a) ∧ (plD (plF (gE S) B left (dep + 1)) (gE S) (hb B dep) R row b a).2 ≤ a.2 + 2 ^ left by
        unfold plD
        by_cases y : iDone (gE S) (iTurn (gE S) b R) = flg (hb B dep)
        · rw [if_pos y]; exact r
        · rw [if_neg y]; exact ⟨k, Nat.le_add_right _ _⟩)
    have k1 := st false a ka
    rw [show d + (left + 1) + 38 = d + left + 39 by omega]
    refine W223_0 hs ?_
    rw [if_pos (nI_ne0 (by omega) (by omega))]
    refine S223_32 (by omega) 22 0 h Q _ (by omega) hs rw (fun k hk => absurd hk (by omega)) ?_
    intro h0 f0 s0 cp0
    have f0' : FR h h0 (PMp (left + 1)) := FR_mono f0 (fun o j z => by unfold PMp; omega)
    have c0 : MI S h0 := MI_pq c f0' (fun o j z => PMp_q z) (r8_FR c.2.2.2.2.2.2.2 f0 (fun o j z => by omega))
    have pl0 : plM a h0 := ⟨(FR_I f0 (by omega)).trans pl.1, (FR_I f0 (by omega)).trans pl.2⟩
    rw [show (0 : Int32) = flg false from rfl]
    refine S223_67 vd hz hd n8 hrow s0 c0 cp0 rv (by omega) pl0 ka (by omega) ihh ?_
    intro h1 u6 f1 s1 c1 cp1 pl1
    rw [show flg false + 1 = flg true from rfl]
    refine S223_67 vd hz hd n8 hrow s1 c1 cp1 rv (by omega) pl1 k1.1 (by omega) ihh ?_
    intro h2 u6 f2 s2 c2 cp2 pl2
    refine W223_67 s2 ?_
    rw [show flg true + 1 = (2 : Int32) from rfl, if_pos (by decide)]
    exact H h2 (FR_trans f0' (FR_trans f1 f2)) c2 pl2
theorem S222 {S : GS} {d : Nat} {v1 v2 v3 : Int32} {h : ajH} {Q : Option Value → ajH → Prop} (hs : ajShp h) (c : MI S h) (vd : GVd S)
    (H : ∀ h', FR h h' PMq → MI S h' → Q (some (.int (aPlan S v1 v2 v3))) h') : ajEv (d + 47) 222 0 [.ref 320, .int v1, .int v2, .int v3] [] h Q := by
  have z8 := vd.z8
  refine W222_0 hs ?_
  rintro _ rfl
  have c0 := MI_0 (x := 0) c
  have f0 : FR h (ajSI h 320 0 0) PMq := FR_SI h (by unfold PMq; omega)
  have s0 : ajShp (ajSI h 320 0 0) := hs
  generalize ajSI h 320 0 0 = h0 at c0 f0 s0
  have H0 := H h0 f0 c0
  rw [c0.2.1.1]
  by_cases hz : 0 < gz S
  · rw [if_neg (nI_ne0 hz (by omega))]
    refine S145r (lo := 1) (hi := 8) s0 ?_
    intro s1
    refine ⟨_, rfl, ?_⟩
    cases e1 : rg 1 8 v1 with
    | false =>
      rw [if_pos (show flg false = 0 from rfl)]
      exact pl_n H0 (by unfold plOK; rw [e1]; simp)
    | true =>
      rw [if_neg (by decide)]
      obtain ⟨n, n1, n8, rfl⟩ := rg_k (lo := 1) (hi := 8) (by omega) (by omega) e1
      have p8 : 2 ^ n ≤ 2 ^ 8 := Nat.pow_le_pow_right (by omega) n8
      have p1 : 1 ≤ 2 ^ n := Nat.one_le_two_pow
      have eN : (nI n).toNatClampNeg = n := sr_N (by omega)
      refine S145 (lo := 0) (hi := ((1 : Int32) <<< (nI n &&& 31)) - 1) s1 ?_
      intro s2
      refine ⟨_, rfl, ?_⟩
      rw [bt_8 n n8, in_isp (n := 2 ^ n) (by omega)]
      cases e2 : isp (2 ^ n) v2 with
      | false =>
        rw [if_pos (show flg false = 0 from rfl)]
        exact pl_n H0 (by unfold plOK; rw [eN, e2]; simp)
      | true =>
        rw [if_neg (by decide)]
        refine S145 (lo := 0) (hi := 1) s2 ?_
        intro s3
        refine ⟨_, rfl, ?_⟩
        have q2 := in_isp (n := 2) (v := v3) (by omega)
        rw [show nI 2 - 1 = (1 : Int32) from rfl] at q2
        rw [q2]
        cases e3 : isp 2 v3 with
        | false =>
          rw [if_neg (show ¬ ¬ flg false = 0 from fun z => z rfl)]
          exact pl_n H0 (by unfold plOK; rw [e3, Bool.and_false])
        | true =>
          rw [if_pos (by decide)]
          unfold aPlan plOK plP at H
          rw [decide_eq_true hz, e1, e3, eN, e2, if_pos (show (true && true && true && true) = true from rfl)] at H
          refine mFo s3 c0 ?_
          intro h1 f1 c1 rw1 s4
          refine ⟨rfl, ?_⟩
          rintro _ rfl _ rfl
          have f1' : FR h0 h1 PMq := FR_mono f1 (fun o j z => by unfold PMt Pst PY at z; unfold PMq Pst PY; omega)
          have g2 : FR h1 (ajSI (ajSI h1 320 42 (-1)) 320 43 0) (fun o j => o = 320 ∧ (j = 42 ∨ j = 43)) := FR_trans (FR_SI _ (by omega)) (FR_SI _ (by omega))
          have s5 : ajShp (ajSI (ajSI h1 320 42 (-1)) 320 43 0) := s4
          have pl : plM (-1, 0) (ajSI (ajSI h1 320 42 (-1)) 320 43 0) := by
            refine ⟨by rw [ajI_SI, if_neg (by omega), ajI_SI, if_pos ⟨rfl, rfl⟩], by rw [ajI_SI, if_pos ⟨rfl, rfl⟩]; rfl⟩
          generalize ajSI (ajSI h1 320 42 (-1)) 320 43 0 = h2 at g2 s5 pl
          have g2' : FR h1 h2 PMq := FR_mono g2 (fun o j z => by unfold PMq; omega)
          have c2 : MI S h2 := MI_pq c1 g2' (fun o j z => z) (r8_FR c1.2.2.2.2.2.2.2 g2 (fun o j z => by omega))
          have rw2 : RW h2 332 (gX S).1 := fun k hk => (FR_I g2 (by omega)).trans (rw1 k hk)
          have sp : d + 46 = (d + (8 - n)) + n + 38 := by omega
          rw [sp]
          refine S223 (B := v2) vd hz n8 n 0 0 (-1, 0) h2 _ _ 1000 (by omega) (by omega) s5 c2 rw2 (vd.xv hz).1 (by omega) pl (Or.inl ⟨rfl, rfl⟩) (by show 0 + 2 ^ n ≤ 256; omega) ?_
          intro h3 f3 c3 pl3 s6
          refine ⟨rfl, ?_⟩
          have H1 := H h3 (FR_trans f0 (FR_trans f1' (FR_trans g2' (FR_mono f3 (fun o j z => PMp_q z))))) c3
          by_cases y7 : v3 = 0
          · rw [if_neg (fun z => z y7), pl3.1]
            rw [if_neg (fun z => z y7)] at H1; exact H1
          · rw [if_pos y7, pl3.2]
            rw [if_pos y7] at H1; exact H1
  · rw [show gz S = 0 by omega, if_pos (show nI 0 = 0 from rfl)]
    exact pl_n H0 (by unfold plOK; rw [decide_eq_false hz]; rfl)
