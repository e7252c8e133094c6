/-! Whose opinion it was, the reference. -/
def PMv (o j : Nat) : Prop := PMt o j ∨ o = 340
theorem MI_vw {S : GS} {h h' : ajH} {P : Nat → Nat → Prop} (c : MI S h) (f : FR h h' P) (p : ∀ o j, P o j → PMv o j) (e8 : r8 S h') : MI S h' := MI_FR c f (fun o j z => by have y := p o j z; unfold PMv PMt Pst PY at y; unfold d1 d2 d3 d4 d5 d6 d7; omega) e8
theorem sh_b {x : Int32} {i : Nat} (a : Int32) (hx : x = 0 ∨ x = 1) (hi : i < 32) : a ||| (x <<< (nI i &&& 31)) = if x = 0 then a else a ||| bt i := by
  rcases hx with rfl | rfl
  · rw [if_pos rfl]
    refine hb_ext fun j hj => ?_
    rw [hb_or]
    have : hb ((0 : Int32) <<< (nI i &&& 31)) j = false := (by decide +kernel : ∀ i < 32, ∀ j < 32, hb ((0 : Int32) <<< (nI i &&& 31)) j = false) i hi j hj
    rw [this, Bool.or_false]
  · rw [if_neg (by decide), bt_def]
theorem S228_36 {S : GS} {d k v : Nat} (vd : GVd S) (hz : 0 < gz S) (hv : v < 10) : ∀ (f i : Nat) (h : ajH) (Q : Option Value → ajH → Prop) (R : Nat → Int32) (T : Nat) (a : Int32), i + f = 21 → ajShp h → MI S h → RV (gz S) T R → T + f ≤ 100000 → RW h 332 R → ajI h 340 v = a →
    (∀ h' (u3 : Value), FR h h' (fun o j => PMt o j ∨ o = 340 ∧ j = v) → ajShp h' → MI S h' → ajI h' 340 v = paF (gE S) f i R a → ajEv (d + 38) 228 2 [.ref 320, .int (nI k), .int (nI (v + 1)), u3] [] h' Q) → ajEv (d + 38) 228 36 [.ref 320, .int (nI k), .int (nI v), .int (nI i)] [] h Q := by
  have z8 := vd.z8
  intro f
  induction f with
  | zero =>
    intro i h Q R T a hi hs c rv hT rw ea H
    refine W228_36 hs ?_
    rw [if_pos (by rw [sl_20, sr_lt (by omega) (by omega)]; omega), nI_1]
    exact H h _ (FR_refl _ _) hs c ea
  | succ f ih =>
    intro i h Q R T a hi hs c rv hT mw ea H
    refine W228_36 hs ?_
    rw [if_neg (by rw [sl_20, sr_lt (by omega) (by omega)]; omega)]
    refine ⟨by rw [sr_in (by omega)]; omega, ?_⟩
    refine mTr (s := false) hs c vd hz rv (by omega) mw ?_
    intro h1 f1 c1 mw1 _ _ s1
    refine ⟨_, rfl, ?_⟩
    rw [iTurn_f] at mw1 ⊢
    refine ⟨by rw [sr_in (by omega)]; omega, ?_⟩
    rintro _ rfl
    have rv1 : RV (gz S) (T + 1) (iNx (gE S) R) := RV_nx (gE_g vd) (gE_ok vd) z8 rv (by omega)
    rw [sr_N (by omega), ea, sh_b a (iDone_b _ _) (by omega), nI_1]
    generalize ex : (if iDone (gE S) (iGo (eN (gE S)) R) = 0 then a else a ||| bt i) = x
    have f2 : FR h1 (ajSI h1 340 v x) (fun o j => o = 340 ∧ j = v) := FR_SI h1 ⟨rfl, rfl⟩
    have s2 : ajShp (ajSI h1 340 v x) := s1
    have e2 : ajI (ajSI h1 340 v x) 340 v = x := by rw [ajI_SI, if_pos ⟨rfl, rfl⟩]
    generalize ajSI h1 340 v x = h2 at f2 s2 e2
    have c2 : MI S h2 := MI_vw c1 f2 (fun o j z => Or.inr z.1) (r8_FR c1.2.2.2.2.2.2.2 f2 (fun o j z => by omega))
    have mw2 : RW h2 332 (iNx (gE S) R) := fun j hj => (FR_I f2 (by omega)).trans (mw1 j hj)
    have es : paF (gE S) (f + 1) i R a = paF (gE S) f (i + 1) (iNx (gE S) R) x := by rw [← ex]; rfl
    rw [es] at H
    exact ih (i + 1) h2 Q _ (T + 1) _ (by omega) s2 c2 rv1 (by omega) mw2 e2 (fun h' u3 g s' c' e' => H h' u3 (FR_trans (FR_mono f1 (fun o j z => Or.inl z)) (FR_trans (FR_mono f2 (fun o j z => Or.inr z)) g)) s' c' e')
theorem S228_2 {S : GS} {d k : Nat} (vd : GVd S) (hk : k < gz S) : ∀ (f v : Nat) (h : ajH) (Q : Option Value → ajH → Prop) (u3 : Value), v + f = 10 → ajShp h → MI S h → (∀ w, w < v → ajI h 340 w = paF (gE S) 20 1 (iAt S k w) 0) →
    (∀ h', FR h h' PMv → MI S h' → (∀ w, w < 10 → ajI h' 340 w = paF (gE S) 20 1 (iAt S k w) 0) → Q none h') → ajEv (d + 38) 228 2 [.ref 320, .int (nI k), .int (nI v), u3] [] h Q := by
  have z8 := vd.z8
  have hz : 0 < gz S := by omega
  intro f
  induction f with
  | zero =>
    intro v h Q u3 hv hs c e H
    refine W228_2 hs ?_
    rw [if_pos (by rw [sl_9, sr_lt (by omega) (by omega)]; omega)]
    exact H h (FR_refl _ _) c (fun w hw => e w (by omega))
  | succ f ih =>
    intro v h Q u3 hv hs c e H
    refine W228_2 hs ?_
    rw [if_neg (by rw [sl_9, sr_lt (by omega) (by omega)]; omega)]
    refine S177 (LG := fun _ _ => 0) (RU := gRU S) (FO := gFO S) (Or.inr rfl) z8 hs ⟨c.2.1.1, fun j hj => c.2.1.2.1 j hj (Or.inl hz), fun i hi => c.2.1.2.2 i hi 1 (by omega)⟩ ?_
    intro h1 f1 mx1 s1
    refine ⟨rfl, ?_⟩
    rw [sl_2, sr_mul, Int32.add_zero, sr_in (by omega), sr_in (by omega), sr_N (by omega), sr_N (by omega)]
    refine ⟨by omega, ?_⟩
    rintro _ rfl
    refine ⟨by omega, ?_⟩
    rintro _ rfl
    have f2 : FR h1 (ajSI (ajSI h1 332 (2 * k) (nI v)) 340 v 0) (fun o j => o = 332 ∧ j = 2 * k ∨ o = 340 ∧ j = v) := FR_trans (FR_SI h1 (Or.inl ⟨rfl, rfl⟩)) (FR_SI _ (Or.inr ⟨rfl, rfl⟩))
    have s2 : ajShp (ajSI (ajSI h1 332 (2 * k) (nI v)) 340 v 0) := s1
    have e2 : ajI (ajSI (ajSI h1 332 (2 * k) (nI v)) 340 v 0) 340 v = 0 := by rw [ajI_SI, if_pos ⟨rfl, rfl⟩]
    have e3 : ajI (ajSI (ajSI h1 332 (2 * k) (nI v)) 340 v 0) 332 (2 * k) = nI v := by rw [ajI_SI, if_neg (by omega), ajI_SI, if_pos ⟨rfl, rfl⟩]
    generalize ajSI (ajSI h1 332 (2 * k) (nI v)) 340 v 0 = h2 at f2 s2 e2 e3
    have f1' : FR h h1 PMv := FR_mono f1 (fun o j z => by unfold PMv PMt; omega)
    have f2' : FR h1 h2 PMv := FR_mono f2 (fun o j z => by unfold PMv PMt; omega)
    have c1 : MI S h1 := MI_vw c f1' (fun o j z => z) (r8_FR c.2.2.2.2.2.2.2 f1 (fun o j z => by omega))
    have c2 : MI S h2 := MI_vw c1 f2' (fun o j z => z) (r8_FR c1.2.2.2.2.2.2.2 f2 (fun o j z => by omega))
    have mw2 : RW h2 332 (iAt S k v) := fun j hj => by
      by_cases y : j = 2 * k
      · rw [y, iAt_k z8 hk]; exact e3
      · rw [FR_I f2 (by omega), iAt_e y]; exact (mX0 mx1).1 j hj
    rw [show (1 : Int32) = nI 1 from rfl]
    refine S228_36 vd hz (by omega) 20 1 h2 Q _ 1000 0 (by omega) s2 c2 (iAt_rv vd hz (by omega)) (by omega) mw2 e2 ?_
    intro h3 u3 f3 s3 c3 e3'
    refine ih (v + 1) h3 Q u3 (by omega) s3 c3 (fun w hw => ?_) (fun h' g c' e' => H h' (FR_trans f1' (FR_trans f2' (FR_trans (FR_mono f3 (fun o j z => Or.imp_right (fun y => y.1) z)) g))) c' e')
    by_cases y : w = v
    · rw [y]; exact e3'
    · rw [FR_I f3 (by unfold PMt Pst PY; omega), FR_I f2 (by omega), FR_I f1 (by omega)]
      exact e w (by omega)
theorem S228 {S : GS} {d k : Nat} {h : ajH} {Q : Option Value → ajH → Prop} (vd : GVd S) (hk : k < gz S) (hs : ajShp h) (c : MI S h)
    (H : ∀ h', FR h h' PMv → MI S h' → (∀ w, w < 10 → ajI h' 340 w = paF (gE S) 20 1 (iAt S k w) 0) → Q none h') : ajEv (d + 38) 228 0 [.ref 320, .int (nI k), ajU, ajU] [] h Q := by
  refine W228_0 hs ?_
  exact S228_2 vd hk 10 0 h Q _ (by omega) hs c (fun w hw => absurd hw (by omega)) H
theorem hb_20 (E : EV) (R : Nat → Int32) {t : Nat} (h1 : 1 ≤ t) (h2 : t ≤ 20) : hb (paF E 20 1 R 0) t = dnS E (t - 1) R := by
  rw [hb_paF _ _ _ _ _ _ (by omega) (by omega), hb_0, decide_eq_true h1, decide_eq_true (show t < 1 + 20 by omega)]; simp
theorem S229_2 {S : GS} {d v : Nat} {R : Nat → Int32} {h : ajH} {Q : Option Value → ajH → Prop} (vd : GVd S) (hs : ajShp h) (c : r7 S h) (hv : v < 10) (e : ajI h 340 v = paF (gE S) 20 1 R 0)
    (H : Q (some (.int (flg (fitB S R)))) h) : ∀ (f i : Nat), i + f = gns S → (∀ w, w < i → dnS (gE S) (gst S w - 1) R = gsb S w) → ajEv d 229 2 [.ref 320, .int (nI v), .int (nI i)] [] h Q := by
  have n10 := vd.ns
  intro f
  induction f with
  | zero =>
    intro i hi k
    refine W229_2 hs ?_
    rw [c.1, if_pos (by rw [sr_le (by omega) (by omega)]; omega)]
    unfold fitB at H
    rw [decide_eq_true (fun w hw => k w (by omega))] at H
    exact H
  | succ f ih =>
    intro i hi k
    have st := vd.st i (by omega)
    have e7 := c.2.2 i (by omega)
    refine W229_2 hs ?_
    rw [c.1, if_neg (by rw [sr_le (by omega) (by omega)]; omega), sl_2, sr_mul, sl_1, sr_add, sr_in (by omega), sr_in (by omega), sr_in (by omega), sr_N (by omega), sr_N (by omega), sr_N (by omega), ← sl_1, e, e7.1, e7.2, hb_shr _ (by omega), hb_20 _ _ st.1 st.2, nI_1]
    refine ⟨by omega, by omega, by omega, ?_⟩
    have q : ∀ a b : Bool, ((if a = true then (1 : Int32) else 0) = flg b) = (a = b) := by intro a b; cases a <;> cases b <;> simp <;> decide
    by_cases y : dnS (gE S) (gst S i - 1) R = gsb S i
    · rw [if_pos ((q _ _).mpr y)]
      exact ih (i + 1) (by omega) (fun w hw => by
        by_cases z : w = i
        · rw [z]; exact y
        · exact k w (by omega))
    · rw [if_neg (fun z => y ((q _ _).mp z))]
      unfold fitB at H
      rw [decide_eq_false (fun z => y (z i (by omega)))] at H
      exact H
theorem S229 {S : GS} {d v : Nat} {R : Nat → Int32} {h : ajH} {Q : Option Value → ajH → Prop} (vd : GVd S) (hs : ajShp h) (c : r7 S h) (hv : v < 10) (e : ajI h 340 v = paF (gE S) 20 1 R 0)
    (H : Q (some (.int (flg (fitB S R)))) h) : ajEv d 229 0 [.ref 320, .int (nI v), ajU] [] h Q := by
  refine W229_0 hs ?_
  exact S229_2 vd hs c hv e H (gns S) 0 (by omega) (fun w hw => absurd hw (by omega))
theorem S227_30 {S : GS} {d k : Nat} {i : Int32} {h : ajH} {Q : Option Value → ajH → Prop} (vd : GVd S) (hs : ajShp h) (c : MI S h) (e : ∀ w, w < 10 → ajI h 340 w = paF (gE S) 20 1 (iAt S k w) 0) : ∀ (f v n : Nat) (u1 : Value), v + f = 10 →
    Q (some (.int (vwF S k i f v n))) h → ajEv (d + 1) 227 30 [.ref 320, u1, .int i, .int (nI n), .int (nI v)] [] h Q := by
  intro f
  induction f with
  | zero =>
    intro v n u1 hv H
    refine W227_30 hs ?_
    rw [if_pos (by rw [sl_9, sr_lt (by omega) (by omega)]; omega)]
    unfold vwF at H
    by_cases y : i = -1
    · rw [if_neg (fun z => z y)]; rw [if_pos y] at H; exact H
    · rw [if_pos y]; rw [if_neg y] at H; exact H
  | succ f ih =>
    intro v n u1 hv H
    refine W227_30 hs ?_
    rw [if_neg (by rw [sl_9, sr_lt (by omega) (by omega)]; omega)]
    refine S229 vd hs c.2.2.2.2.2.2.1 (by omega) (e v (by omega)) ?_
    intro s1
    refine ⟨_, rfl, ?_⟩
    have es : vwF S k i (f + 1) v n = if fitB S (iAt S k v) = true then (if nI n = i then nI v else vwF S k i f (v + 1) (n + 1)) else vwF S k i f (v + 1) n := rfl
    rw [es] at H
    cases ef : fitB S (iAt S k v) with
    | false =>
      rw [if_neg (show ¬ ¬ flg false = 0 from fun z => z rfl), nI_1]
      rw [ef, if_neg (by decide)] at H
      exact ih (v + 1) n _ (by omega) H
    | true =>
      rw [if_pos (by decide)]
      rw [if_pos ef] at H
      by_cases y : nI n = i
      · rw [if_neg (fun z => z y)]
        rw [if_pos y] at H
        exact H
      · rw [if_pos y, nI_1, nI_1]
        rw [if_neg y] at H
        exact ih (v + 1) (n + 1) _ (by omega) H
theorem S227 {S : GS} {d : Nat} {v1 v2 : Int32} {h : ajH} {Q : Option Value → ajH → Prop} (hs : ajShp h) (c : MI S h) (vd : GVd S)
    (H : ∀ h', FR h h' PMv → MI S h' → Q (some (.int (aViews S v1 v2))) h') : ajEv (d + 39) 227 0 [.ref 320, .int v1, .int v2, ajU, ajU] [] h Q := by
  have z8 := vd.z8
  refine W227_0 hs ?_
  rintro _ rfl
  have c0 := MI_0 (x := 0) c
  have f0 : FR h (ajSI h 320 0 0) PMv := FR_SI h (by unfold PMv PMt; omega)
  have s0 : ajShp (ajSI h 320 0 0) := hs
  generalize ajSI h 320 0 0 = h0 at c0 f0 s0
  have H0 := H h0 f0 c0
  refine S179 s0 c0.2.1 ?_
  intro s1
  refine ⟨_, rfl, ?_⟩
  cases e1 : isp (gz S) v1 with
  | false =>
    rw [if_pos (show flg false = 0 from rfl)]
    exact vw_n H0 (by rw [e1]; rfl)
  | true =>
    rw [if_neg (by decide)]
    obtain ⟨k, hk, rfl⟩ := isp_k z8 e1
    by_cases y : -1 ≤ v2
    · rw [if_pos y]
      unfold aViews at H
      rw [e1, decide_eq_true y, if_pos (show (true && true) = true from rfl), sr_N (by omega)] at H
      refine S228 vd hk s1 c0 ?_
      intro h1 f1 c1 e340 s2
      refine ⟨rfl, ?_⟩
      exact S227_30 vd s2 c1 e340 10 0 0 _ (by omega) (H h1 (FR_trans f0 f1) c1)
    · rw [if_neg y]
      exact vw_n H0 (by rw [decide_eq_false y, Bool.and_false])
