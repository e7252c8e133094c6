/-! The law's loop: both sides answer alike, script by script (printed by wip/gen/loop.py). -/
def PcA (o _j : Nat) : Prop := o < 320
def PrA (o _j : Nat) : Prop := 320 ≤ o ∧ o < 1000
theorem pc_PHd : ∀ o j, PHd o j → PcA o j := fun o j z => by unfold PHd PAc PTk PCp PLw at z; unfold PcA; omega
theorem pc_PTr : ∀ o j, PTr o j → PcA o j := fun o j z => by unfold PTr PLw at z; unfold PcA; omega
theorem pc_PTx : ∀ o j, PTx o j → PcA o j := fun o j z => by unfold PTx PWh P3 PJ at z; unfold PcA; omega
theorem pc_PTt : ∀ o j, PTt o j → PcA o j := fun o j z => by unfold PTt at z; unfold PcA; omega
theorem pc_P62 : ∀ o j, P62 o j → PcA o j := fun o j z => by unfold P62 at z; unfold PcA; omega
theorem pc_PPn : ∀ o j, PPn o j → PcA o j := fun o j z => by unfold PPn PLw at z; unfold PcA; omega
theorem pc_PSg : ∀ o j, PSg o j → PcA o j := fun o j z => by unfold PSg PTr PLw at z; unfold PcA; omega
theorem pc_PT : ∀ o j, PT o j → PcA o j := fun o j z => by unfold PT at z; unfold PcA; omega
theorem pr_PMd : ∀ o j, PMd o j → PrA o j := fun o j z => by unfold PMd Pst PY PRm at z; unfold PrA; omega
theorem pr_PMt : ∀ o j, PMt o j → PrA o j := fun o j z => by unfold PMt Pst PY at z; unfold PrA; omega
theorem pr_PFm : ∀ o j, PFm o j → PrA o j := fun o j z => by unfold PFm PM Pg PL at z; unfold PrA; omega
theorem pr_PTu : ∀ o j, PTu o j → PrA o j := fun o j z => by unfold PTu at z; unfold PrA; omega
theorem pr_PMy : ∀ o j, PMy o j → PrA o j := fun o j z => by unfold PMy PMd Pst PY PRm at z; unfold PrA; omega
theorem pr_PMq : ∀ o j, PMq o j → PrA o j := fun o j z => by unfold PMq Pst PY at z; unfold PrA; omega
theorem pr_PMv : ∀ o j, PMv o j → PrA o j := fun o j z => by unfold PMv PMt Pst PY at z; unfold PrA; omega
theorem pr_P333t : ∀ o j, P333t o j → PrA o j := fun o j z => by unfold P333t at z; unfold PrA; omega
theorem pr_PU0 : ∀ o j, PU0 o j → PrA o j := fun o j z => by unfold PU0 at z; unfold PrA; omega
theorem MI_c {S : GS} {h h' : ajH} (c : MI S h) (f : FR h h' PcA) : MI S h' := MI_FR8 c f (fun o j z => by unfold PcA at z; unfold d1 d2 d3 d4 d5 d6 d7; omega)
theorem CI_r {S : GS} {h h' : ajH} (c : CI S h) (f : FR h h' PrA) : CI S h' := CI_FR c f (fun o j z => by unfold PrA at z; unfold b1 b2 b3 b4 b5 b6 b7 PLw; omega)
theorem CI_tp {S : GS} {T : TP} {h h' : ajH} (c : CI S h) (f : FR h h' PT) (tc : TC T h') : CI (T, S.2) h' := by
  obtain ⟨⟨t, sc, sa⟩, k2, k3, k4, k5, k6, k7⟩ := c
  exact ⟨⟨tc, SC_FR sc f (fun o j ho z => by unfold PT at z; omega), SA_FR sa f (fun o j ho z => by unfold PT at z; omega)⟩, c2_FR k2 f (fun o j z => by unfold PT at z; unfold b2; omega), c3_FR k3 f (fun o j z => by unfold PT at z; unfold b3; omega), c4_FR k4 f (fun o j z => by unfold PT at z; unfold b4; omega), c5_FR k5 f (fun o j z => by unfold PT at z; unfold b5; omega), c6_FR k6 f (fun o j z => by unfold PT at z; unfold b6; omega), c7_FR k7 f (fun o j z => by unfold PT at z; unfold b7; omega)⟩
theorem MI_tp {S : GS} {T : TP} {h h' : ajH} (c : MI S h) (f : FR h h' PU0) (tc : TM T h') : MI (T, S.2) h' := by
  obtain ⟨⟨t, sc⟩, k2, k3, k4, k5, k6, k7, k8⟩ := c
  exact ⟨⟨tc, SC_FR sc f (fun o j ho z => by unfold PU0 at z; omega)⟩, r2_FR k2 f (fun o j z => by unfold PU0 at z; unfold d2; omega), r3_FR k3 f (fun o j z => by unfold PU0 at z; unfold d3; omega), r4_FR k4 f (fun o j z => by unfold PU0 at z; unfold d4; omega), r5_FR k5 f (fun o j z => by unfold PU0 at z; unfold d5; omega), r6_FR k6 f (fun o j z => by unfold PU0 at z; unfold d6; omega), r7_FR k7 f (fun o j z => by unfold PU0 at z; unfold d7; omega), r8_FR k8 f (fun o j z => by unfold PU0 at z; omega)⟩
theorem ajEv_keep {d a : Nat} {ps : List Value} {h : ajH} {Q : Option Value → ajH → Prop} (hqm : ajQuM a = true) (s : ajShp h) (hw : ajEv d a 0 ps [] h (fun r h' => ajShp h' → Q r h')) : ajEv d a 0 ps [] h Q := by
  obtain ⟨r, h', e, q⟩ := hw
  exact ⟨r, h', e, q (ajLim_keep hqm s e)⟩
/-- both sides stand, at step t of the loop -/
def Iv (L W0 t : Nat) (S : GS) (h : ajH) : Prop := ajShp h ∧ CI S h ∧ MI S h ∧ GVd S ∧ ajQ h = L ∧ ajX h ≤ t ∧ ajW h ≤ W0 + 6 * t
theorem inL {L t k : Nat} {h : ajH} (hL : L ≤ 3072) (ht : 6 * t + 6 ≤ L) (hQ : ajQ h = L) (hk : k < 6) : ajIn (nI (6 * t) + nI k) (ajLen h 1100) := by
  rw [show ajLen h 1100 = ajQ h from rfl, hQ, sr_add, sr_in (by omega)]
  omega
theorem fr_Q {h h' : ajH} {P : Nat → Nat → Prop} (f : FR h h' P) : ajQ h' = ajQ h ∧ ajX h' = ajX h ∧ ajW h' = ajW h := by
  refine ⟨?_, ?_, ?_⟩
  · show h'.1.2.2.2 = h.1.2.2.2
    rw [f.1]
  · show h'.1.2.1 = h.1.2.1
    rw [f.1]
  · show h'.1.2.2.1 = h.1.2.2.1
    rw [f.1]
def Nx (L W0 t d : Nat) (Q : Option Value → ajH → Prop) : Prop := ∀ (S' : GS) (h' : ajH) (u5 u6 : Value), Iv L W0 (t + 1) S' h' → ajEv (d + 61) 263 1481 [.ref 1100, .ref 1, .ref 320, .ref 342, .int (nI (6 * t)), u5, u6] [] h' Q
theorem iv_go {L W0 t : Nat} {S S' : GS} {h h1 h2 : ajH} {P1 P2 : Nat → Nat → Prop} (iv : Iv L W0 t S h) (f1 : FR h h1 P1) (f2 : FR h1 h2 P2) (s2 : ajShp h2) (c2 : CI S' h2) (m2 : MI S' h2) (vd : GVd S') : Iv L W0 (t + 1) S' h2 := by
  obtain ⟨_, _, _, _, hQ, hX, hW⟩ := iv
  have q1 := fr_Q f1
  have q2 := fr_Q f2
  exact ⟨s2, c2, m2, vd, by omega, by omega, by omega⟩
theorem LW_208 {L W0 t d : Nat} {S : GS} {h : ajH} {Q : Option Value → ajH → Prop} {u5 u6 : Value} (hL : L ≤ 3072) (ht : 6 * t + 6 ≤ L) (iv : Iv L W0 t S h) (nx : Nx L W0 t d Q) : ajEv (d + 61) 263 208 [.ref 1100, .ref 1, .ref 320, .ref 342, .int (nI (6 * t)), u5, u6] [] h Q := by
  obtain ⟨hs, ci, mi, vd, hQ, hX, hW⟩ := id iv
  refine W263_208 hs ?_
  refine ⟨inL (k := 1) hL ht hQ (by omega), inL (k := 2) hL ht hQ (by omega), inL (k := 3) hL ht hQ (by omega), inL (k := 4) hL ht hQ (by omega), inL (k := 5) hL ht hQ (by omega), ?_⟩
  refine S10 (d := d + 59) (T := gT S) hs ci.1.1 ?_
  intro h1 f1 c1 s1
  refine ⟨_, rfl, ?_⟩
  have c1 := CI_tp ci f1 c1
  have f1 : FR h h1 PcA := FR_mono f1 pc_PT
  have hQ1 : ajQ h1 = L := (fr_Q f1).1.trans hQ
  have e1 : ∀ j, ajI h1 1100 j = ajI h 1100 j := fun j => FR_I f1 (by unfold PcA; omega)
  have m1 := MI_c mi f1
  refine ⟨inL (k := 1) hL ht hQ1 (by omega), inL (k := 2) hL ht hQ1 (by omega), inL (k := 3) hL ht hQ1 (by omega), inL (k := 4) hL ht hQ1 (by omega), inL (k := 5) hL ht hQ1 (by omega), ?_⟩
  simp only [e1]
  refine S140 (d := d + 59) (T := gT S) s1 m1.1.1 ?_
  intro h2 f2 t2 s2
  refine ⟨_, rfl, ?_⟩
  rw [if_pos rfl]
  exact nx _ h2 _ _ (iv_go iv f1 f2 s2 (CI_r c1 (FR_mono f2 pr_PU0)) (MI_tp m1 f2 t2) (show GVd (_, S.2) from vd))
theorem LW_281 {L W0 t d : Nat} {S : GS} {h : ajH} {Q : Option Value → ajH → Prop} {u5 u6 : Value} (hL : L ≤ 3072) (ht : 6 * t + 6 ≤ L) (iv : Iv L W0 t S h) (nx : Nx L W0 t d Q) : ajEv (d + 61) 263 281 [.ref 1100, .ref 1, .ref 320, .ref 342, .int (nI (6 * t)), u5, u6] [] h Q := by
  obtain ⟨hs, ci, mi, vd, hQ, hX, hW⟩ := id iv
  refine W263_281 hs ?_
  refine ⟨inL (k := 1) hL ht hQ (by omega), ?_⟩
  refine S13 (d := d + 60) (T := gT S) hs ci.1.1 ?_
  intro h1 f1 c1 s1
  refine ⟨_, rfl, ?_⟩
  have c1 := CI_tp ci f1 c1
  have f1 : FR h h1 PcA := FR_mono f1 pc_PT
  have hQ1 : ajQ h1 = L := (fr_Q f1).1.trans hQ
  have e1 : ∀ j, ajI h1 1100 j = ajI h 1100 j := fun j => FR_I f1 (by unfold PcA; omega)
  have m1 := MI_c mi f1
  refine ⟨inL (k := 1) hL ht hQ1 (by omega), ?_⟩
  simp only [e1]
  refine S143 (d := d + 60) (T := gT S) s1 m1.1.1 ?_
  intro h2 f2 t2 s2
  refine ⟨_, rfl, ?_⟩
  rw [if_pos rfl]
  exact nx _ h2 _ _ (iv_go iv f1 f2 s2 (CI_r c1 (FR_mono f2 pr_PU0)) (MI_tp m1 f2 t2) (show GVd (_, S.2) from vd))
theorem LW_306 {L W0 t d : Nat} {S : GS} {h : ajH} {Q : Option Value → ajH → Prop} {u5 u6 : Value} (hL : L ≤ 3072) (ht : 6 * t + 6 ≤ L) (iv : Iv L W0 t S h) (nx : Nx L W0 t d Q) : ajEv (d + 61) 263 306 [.ref 1100, .ref 1, .ref 320, .ref 342, .int (nI (6 * t)), u5, u6] [] h Q := by
  obtain ⟨hs, ci, mi, vd, hQ, hX, hW⟩ := id iv
  refine W263_306 hs ?_
  refine ⟨inL (k := 1) hL ht hQ (by omega), ?_⟩
  refine S14 (d := d + 18) hs ci ?_
  intro h1 f1 c1 s1
  refine ⟨_, rfl, ?_⟩
  have f1 : FR h h1 PcA := FR_mono f1 pc_PTx
  have hQ1 : ajQ h1 = L := (fr_Q f1).1.trans hQ
  have e1 : ∀ j, ajI h1 1100 j = ajI h 1100 j := fun j => FR_I f1 (by unfold PcA; omega)
  have m1 := MI_c mi f1
  refine ⟨inL (k := 1) hL ht hQ1 (by omega), ?_⟩
  simp only [e1]
  refine S144 (d := d + 20) s1 m1 ?_
  intro h2 f2 m2 _ s2
  refine ⟨_, rfl, ?_⟩
  rw [if_pos rfl]
  exact nx _ h2 _ _ (iv_go iv f1 f2 s2 (CI_r c1 (FR_mono f2 pr_PFm)) m2 vd)
theorem LW_331 {L W0 t d : Nat} {S : GS} {h : ajH} {Q : Option Value → ajH → Prop} {u5 u6 : Value} (hL : L ≤ 3072) (ht : 6 * t + 6 ≤ L) (iv : Iv L W0 t S h) (nx : Nx L W0 t d Q) : ajEv (d + 61) 263 331 [.ref 1100, .ref 1, .ref 320, .ref 342, .int (nI (6 * t)), u5, u6] [] h Q := by
  obtain ⟨hs, ci, mi, vd, hQ, hX, hW⟩ := id iv
  refine W263_331 hs ?_
  refine ⟨inL (k := 1) hL ht hQ (by omega), ?_⟩
  refine S42 (d := d + 18) hs ci vd ?_
  intro h1 f1 c1 s1
  refine ⟨_, rfl, ?_⟩
  have f1 : FR h h1 PcA := FR_mono f1 pc_PTt
  have hQ1 : ajQ h1 = L := (fr_Q f1).1.trans hQ
  have e1 : ∀ j, ajI h1 1100 j = ajI h 1100 j := fun j => FR_I f1 (by unfold PcA; omega)
  have m1 := MI_c mi f1
  refine ⟨inL (k := 1) hL ht hQ1 (by omega), ?_⟩
  simp only [e1]
  refine S176 (d := d + 19) s1 m1 vd ?_
  intro h2 f2 m2 s2
  refine ⟨_, rfl, ?_⟩
  rw [if_pos rfl]
  exact nx _ h2 _ _ (iv_go iv f1 f2 s2 (CI_r c1 (FR_mono f2 pr_PTu)) m2 (GVd_text vd))
theorem LW_424 {L W0 t d : Nat} {S : GS} {h : ajH} {Q : Option Value → ajH → Prop} {u5 u6 : Value} (hL : L ≤ 3072) (ht : 6 * t + 6 ≤ L) (iv : Iv L W0 t S h) (nx : Nx L W0 t d Q) : ajEv (d + 61) 263 424 [.ref 1100, .ref 1, .ref 320, .ref 342, .int (nI (6 * t)), u5, u6] [] h Q := by
  obtain ⟨hs, ci, mi, vd, hQ, hX, hW⟩ := id iv
  refine W263_424 hs ?_
  refine ⟨inL (k := 1) hL ht hQ (by omega), ?_⟩
  refine S52 (d := d + 60) hs ci ?_
  intro h1 f1 c1 s1
  refine ⟨_, rfl, ?_⟩
  have f1 : FR h h1 PcA := FR_mono f1 (fun o j z => by unfold PcA; omega)
  have hQ1 : ajQ h1 = L := (fr_Q f1).1.trans hQ
  have e1 : ∀ j, ajI h1 1100 j = ajI h 1100 j := fun j => FR_I f1 (by unfold PcA; omega)
  have m1 := MI_c mi f1
  refine ⟨inL (k := 1) hL ht hQ1 (by omega), ?_⟩
  simp only [e1]
  refine S184 (d := d + 59) s1 m1 vd ?_
  intro h2 f2 m2 s2
  refine ⟨_, rfl, ?_⟩
  rw [if_pos rfl]
  exact nx _ h2 _ _ (iv_go iv f1 f2 s2 (CI_r c1 (FR_mono f2 (fun o j z => by unfold PrA; omega))) m2 (GVd_law vd))
theorem LW_449 {L W0 t d : Nat} {S : GS} {h : ajH} {Q : Option Value → ajH → Prop} {u5 u6 : Value} (hL : L ≤ 3072) (ht : 6 * t + 6 ≤ L) (iv : Iv L W0 t S h) (nx : Nx L W0 t d Q) : ajEv (d + 61) 263 449 [.ref 1100, .ref 1, .ref 320, .ref 342, .int (nI (6 * t)), u5, u6] [] h Q := by
  obtain ⟨hs, ci, mi, vd, hQ, hX, hW⟩ := id iv
  refine W263_449 hs ?_
  refine ⟨inL (k := 1) hL ht hQ (by omega), ?_⟩
  refine S53 (d := d + 60) hs ci ?_
  intro h1 f1 c1 s1
  refine ⟨_, rfl, ?_⟩
  have f1 : FR h h1 PcA := FR_mono f1 (fun o j z => by unfold PcA; omega)
  have hQ1 : ajQ h1 = L := (fr_Q f1).1.trans hQ
  have e1 : ∀ j, ajI h1 1100 j = ajI h 1100 j := fun j => FR_I f1 (by unfold PcA; omega)
  have m1 := MI_c mi f1
  refine ⟨inL (k := 1) hL ht hQ1 (by omega), ?_⟩
  simp only [e1]
  refine S185 (d := d + 59) s1 m1 ?_
  intro h2 f2 m2 s2
  refine ⟨_, rfl, ?_⟩
  rw [if_pos rfl]
  exact nx _ h2 _ _ (iv_go iv f1 f2 s2 (CI_r c1 (FR_mono f2 (fun o j z => by unfold PrA; omega))) m2 (GVd_slip vd))
theorem LW_474 {L W0 t d : Nat} {S : GS} {h : ajH} {Q : Option Value → ajH → Prop} {u5 u6 : Value} (hL : L ≤ 3072) (ht : 6 * t + 6 ≤ L) (iv : Iv L W0 t S h) (nx : Nx L W0 t d Q) : ajEv (d + 61) 263 474 [.ref 1100, .ref 1, .ref 320, .ref 342, .int (nI (6 * t)), u5, u6] [] h Q := by
  obtain ⟨hs, ci, mi, vd, hQ, hX, hW⟩ := id iv
  refine W263_474 hs ?_
  refine S54 (d := d + 53) hs ci vd ?_
  intro h1 f1 c1 s1
  refine ⟨_, rfl, ?_⟩
  have f1 : FR h h1 PcA := FR_mono f1 pc_PHd
  have hQ1 : ajQ h1 = L := (fr_Q f1).1.trans hQ
  have m1 := MI_c mi f1
  refine S186 (d := d + 21) s1 m1 vd ?_
  intro h2 f2 m2 s2
  refine ⟨_, rfl, ?_⟩
  rw [if_pos rfl]
  exact nx _ h2 _ _ (iv_go iv f1 f2 s2 (CI_r c1 (FR_mono f2 pr_PMd)) m2 (GVd_hand vd (by omega)))
theorem LW_487 {L W0 t d : Nat} {S : GS} {h : ajH} {Q : Option Value → ajH → Prop} {u5 u6 : Value} (hL : L ≤ 3072) (ht : 6 * t + 6 ≤ L) (iv : Iv L W0 t S h) (nx : Nx L W0 t d Q) : ajEv (d + 61) 263 487 [.ref 1100, .ref 1, .ref 320, .ref 342, .int (nI (6 * t)), u5, u6] [] h Q := by
  obtain ⟨hs, ci, mi, vd, hQ, hX, hW⟩ := id iv
  refine W263_487 hs ?_
  refine S83 (d := d + 53) hs ci vd ?_
  intro h1 f1 c1 s1
  refine ⟨_, rfl, ?_⟩
  have f1 : FR h h1 PcA := FR_mono f1 pc_PHd
  have hQ1 : ajQ h1 = L := (fr_Q f1).1.trans hQ
  have m1 := MI_c mi f1
  refine S197 (d := d + 21) s1 m1 vd ?_
  intro h2 f2 m2 s2
  refine ⟨_, rfl, ?_⟩
  rw [if_pos rfl]
  exact nx _ h2 _ _ (iv_go iv f1 f2 s2 (CI_r c1 (FR_mono f2 pr_PMd)) m2 (GVd_hand vd (by omega)))
theorem LW_500 {L W0 t d : Nat} {S : GS} {h : ajH} {Q : Option Value → ajH → Prop} {u5 u6 : Value} (hL : L ≤ 3072) (ht : 6 * t + 6 ≤ L) (iv : Iv L W0 t S h) (nx : Nx L W0 t d Q) : ajEv (d + 61) 263 500 [.ref 1100, .ref 1, .ref 320, .ref 342, .int (nI (6 * t)), u5, u6] [] h Q := by
  obtain ⟨hs, ci, mi, vd, hQ, hX, hW⟩ := id iv
  refine W263_500 hs ?_
  refine ⟨inL (k := 1) hL ht hQ (by omega), ?_⟩
  refine S84 (d := d + 53) hs ci vd ?_
  intro h1 f1 c1 s1
  refine ⟨_, rfl, ?_⟩
  have f1 : FR h h1 PcA := FR_mono f1 pc_PHd
  have hQ1 : ajQ h1 = L := (fr_Q f1).1.trans hQ
  have e1 : ∀ j, ajI h1 1100 j = ajI h 1100 j := fun j => FR_I f1 (by unfold PcA; omega)
  have m1 := MI_c mi f1
  refine ⟨inL (k := 1) hL ht hQ1 (by omega), ?_⟩
  simp only [e1]
  refine S199 (d := d + 58) s1 m1 vd ?_
  intro h2 f2 m2 s2
  refine ⟨_, rfl, ?_⟩
  rw [if_pos rfl]
  exact nx _ h2 _ _ (iv_go iv f1 f2 s2 (CI_r c1 (FR_mono f2 pr_PMd)) m2 (GVd_hand vd (by omega)))
theorem LW_525 {L W0 t d : Nat} {S : GS} {h : ajH} {Q : Option Value → ajH → Prop} {u5 u6 : Value} (hL : L ≤ 3072) (ht : 6 * t + 6 ≤ L) (iv : Iv L W0 t S h) (nx : Nx L W0 t d Q) : ajEv (d + 61) 263 525 [.ref 1100, .ref 1, .ref 320, .ref 342, .int (nI (6 * t)), u5, u6] [] h Q := by
  obtain ⟨hs, ci, mi, vd, hQ, hX, hW⟩ := id iv
  refine W263_525 hs ?_
  refine ⟨inL (k := 1) hL ht hQ (by omega), ?_⟩
  refine S85 (d := d + 53) hs ci vd ?_
  intro h1 f1 c1 s1
  refine ⟨_, rfl, ?_⟩
  have f1 : FR h h1 PcA := FR_mono f1 pc_PHd
  have hQ1 : ajQ h1 = L := (fr_Q f1).1.trans hQ
  have e1 : ∀ j, ajI h1 1100 j = ajI h 1100 j := fun j => FR_I f1 (by unfold PcA; omega)
  have m1 := MI_c mi f1
  refine ⟨inL (k := 1) hL ht hQ1 (by omega), ?_⟩
  simp only [e1]
  refine S202 (d := d + 58) s1 m1 vd ?_
  intro h2 f2 m2 s2
  refine ⟨_, rfl, ?_⟩
  rw [if_pos rfl]
  exact nx _ h2 _ _ (iv_go iv f1 f2 s2 (CI_r c1 (FR_mono f2 pr_PMd)) m2 (GVd_hand vd (by omega)))
theorem LW_591 {L W0 t d : Nat} {S : GS} {h : ajH} {Q : Option Value → ajH → Prop} {u5 u6 : Value} (hL : L ≤ 3072) (ht : 6 * t + 6 ≤ L) (iv : Iv L W0 t S h) (nx : Nx L W0 t d Q) : ajEv (d + 61) 263 591 [.ref 1100, .ref 1, .ref 320, .ref 342, .int (nI (6 * t)), u5, u6] [] h Q := by
  obtain ⟨hs, ci, mi, vd, hQ, hX, hW⟩ := id iv
  refine W263_591 hs ?_
  refine ⟨inL (k := 1) hL ht hQ (by omega), ?_⟩
  refine S87 (d := d + 57) hs ci vd ?_
  intro h1 f1 c1 s1
  refine ⟨_, rfl, ?_⟩
  have f1 : FR h h1 PcA := FR_mono f1 pc_PHd
  have hQ1 : ajQ h1 = L := (fr_Q f1).1.trans hQ
  have e1 : ∀ j, ajI h1 1100 j = ajI h 1100 j := fun j => FR_I f1 (by unfold PcA; omega)
  have m1 := MI_c mi f1
  refine ⟨inL (k := 1) hL ht hQ1 (by omega), ?_⟩
  simp only [e1]
  refine S206 (d := d + 59) s1 m1 vd ?_
  intro h2 f2 m2 s2
  refine ⟨_, rfl, ?_⟩
  rw [if_pos rfl]
  exact nx _ h2 _ _ (iv_go iv f1 f2 s2 (CI_r c1 (FR_mono f2 pr_PMd)) m2 (GVd_wet vd))
theorem LW_616 {L W0 t d : Nat} {S : GS} {h : ajH} {Q : Option Value → ajH → Prop} {u5 u6 : Value} (hL : L ≤ 3072) (ht : 6 * t + 6 ≤ L) (iv : Iv L W0 t S h) (nx : Nx L W0 t d Q) : ajEv (d + 61) 263 616 [.ref 1100, .ref 1, .ref 320, .ref 342, .int (nI (6 * t)), u5, u6] [] h Q := by
  obtain ⟨hs, ci, mi, vd, hQ, hX, hW⟩ := id iv
  refine W263_616 hs ?_
  refine ⟨inL (k := 1) hL ht hQ (by omega), ?_⟩
  refine S88 (d := d + 57) hs ci vd ?_
  intro h1 f1 c1 s1
  refine ⟨_, rfl, ?_⟩
  have f1 : FR h h1 PcA := FR_mono f1 pc_PHd
  have hQ1 : ajQ h1 = L := (fr_Q f1).1.trans hQ
  have e1 : ∀ j, ajI h1 1100 j = ajI h 1100 j := fun j => FR_I f1 (by unfold PcA; omega)
  have m1 := MI_c mi f1
  refine ⟨inL (k := 1) hL ht hQ1 (by omega), ?_⟩
  simp only [e1]
  refine S207 (d := d + 59) s1 m1 vd ?_
  intro h2 f2 m2 s2
  refine ⟨_, rfl, ?_⟩
  rw [if_pos rfl]
  exact nx _ h2 _ _ (iv_go iv f1 f2 s2 (CI_r c1 (FR_mono f2 pr_PMd)) m2 (GVd_give vd))
theorem LW_641 {L W0 t d : Nat} {S : GS} {h : ajH} {Q : Option Value → ajH → Prop} {u5 u6 : Value} (hL : L ≤ 3072) (ht : 6 * t + 6 ≤ L) (iv : Iv L W0 t S h) (nx : Nx L W0 t d Q) : ajEv (d + 61) 263 641 [.ref 1100, .ref 1, .ref 320, .ref 342, .int (nI (6 * t)), u5, u6] [] h Q := by
  obtain ⟨hs, ci, mi, vd, hQ, hX, hW⟩ := id iv
  refine W263_641 hs ?_
  refine ⟨inL (k := 1) hL ht hQ (by omega), inL (k := 2) hL ht hQ (by omega), inL (k := 3) hL ht hQ (by omega), ?_⟩
  refine S89 (d := d + 55) hs ci vd ?_
  intro h1 f1 c1 s1
  refine ⟨_, rfl, ?_⟩
  have f1 : FR h h1 PcA := FR_mono f1 pc_PHd
  have hQ1 : ajQ h1 = L := (fr_Q f1).1.trans hQ
  have e1 : ∀ j, ajI h1 1100 j = ajI h 1100 j := fun j => FR_I f1 (by unfold PcA; omega)
  have m1 := MI_c mi f1
  refine ⟨inL (k := 1) hL ht hQ1 (by omega), inL (k := 2) hL ht hQ1 (by omega), inL (k := 3) hL ht hQ1 (by omega), ?_⟩
  simp only [e1]
  refine S208 (d := d + 21) s1 m1 vd ?_
  intro h2 f2 m2 s2
  refine ⟨_, rfl, ?_⟩
  rw [if_pos rfl]
  exact nx _ h2 _ _ (iv_go iv f1 f2 s2 (CI_r c1 (FR_mono f2 pr_PMy)) m2 (GVd_year vd))
theorem LW_710 {L W0 t d : Nat} {S : GS} {h : ajH} {Q : Option Value → ajH → Prop} {u5 u6 : Value} (hL : L ≤ 3072) (ht : 6 * t + 6 ≤ L) (iv : Iv L W0 t S h) (nx : Nx L W0 t d Q) : ajEv (d + 61) 263 710 [.ref 1100, .ref 1, .ref 320, .ref 342, .int (nI (6 * t)), u5, u6] [] h Q := by
  obtain ⟨hs, ci, mi, vd, hQ, hX, hW⟩ := id iv
  refine W263_710 hs ?_
  refine S92 (d := d + 57) hs ci vd ?_
  intro h1 f1 c1 s1
  refine ⟨_, rfl, ?_⟩
  have f1 : FR h h1 PcA := FR_mono f1 pc_PHd
  have hQ1 : ajQ h1 = L := (fr_Q f1).1.trans hQ
  have m1 := MI_c mi f1
  refine S210 (d := d + 60) s1 m1 vd ?_
  intro h2 f2 m2 s2
  refine ⟨_, rfl, ?_⟩
  rw [if_pos rfl]
  exact nx _ h2 _ _ (iv_go iv f1 f2 s2 (CI_r c1 (FR_mono f2 pr_PMd)) m2 (GVd_undo vd))
theorem LW_723 {L W0 t d : Nat} {S : GS} {h : ajH} {Q : Option Value → ajH → Prop} {u5 u6 : Value} (hL : L ≤ 3072) (ht : 6 * t + 6 ≤ L) (iv : Iv L W0 t S h) (nx : Nx L W0 t d Q) : ajEv (d + 61) 263 723 [.ref 1100, .ref 1, .ref 320, .ref 342, .int (nI (6 * t)), u5, u6] [] h Q := by
  obtain ⟨hs, ci, mi, vd, hQ, hX, hW⟩ := id iv
  refine W263_723 hs ?_
  refine ⟨inL (k := 1) hL ht hQ (by omega), inL (k := 2) hL ht hQ (by omega), ?_⟩
  refine S94 (d := d + 59) hs ci vd ?_
  intro s1
  refine ⟨_, rfl, ?_⟩
  have f1 : FR h h PcA := FR_refl _ _
  have c1 := ci
  have hQ1 := hQ
  have m1 := MI_c mi f1
  refine ⟨inL (k := 1) hL ht hQ1 (by omega), inL (k := 2) hL ht hQ1 (by omega), ?_⟩
  refine S211 (d := d + 59) s1 m1 vd ?_
  intro h2 f2 m2 s2
  refine ⟨_, rfl, ?_⟩
  rw [if_pos rfl]
  exact nx _ h2 _ _ (iv_go iv f1 f2 s2 (CI_r c1 (FR_mono f2 (fun o j z => by unfold PrA; omega))) m2 vd)
theorem LW_760 {L W0 t d : Nat} {S : GS} {h : ajH} {Q : Option Value → ajH → Prop} {u5 u6 : Value} (hL : L ≤ 3072) (ht : 6 * t + 6 ≤ L) (iv : Iv L W0 t S h) (nx : Nx L W0 t d Q) : ajEv (d + 61) 263 760 [.ref 1100, .ref 1, .ref 320, .ref 342, .int (nI (6 * t)), u5, u6] [] h Q := by
  obtain ⟨hs, ci, mi, vd, hQ, hX, hW⟩ := id iv
  refine W263_760 hs ?_
  refine ⟨inL (k := 1) hL ht hQ (by omega), inL (k := 2) hL ht hQ (by omega), inL (k := 3) hL ht hQ (by omega), ?_⟩
  refine S97 (d := d + 59) hs ci vd ?_
  intro s1
  refine ⟨_, rfl, ?_⟩
  have f1 : FR h h PcA := FR_refl _ _
  have c1 := ci
  have hQ1 := hQ
  have m1 := MI_c mi f1
  refine ⟨inL (k := 1) hL ht hQ1 (by omega), inL (k := 2) hL ht hQ1 (by omega), inL (k := 3) hL ht hQ1 (by omega), ?_⟩
  refine S212 (d := d + 59) s1 m1 vd ?_
  intro h2 f2 m2 s2
  refine ⟨_, rfl, ?_⟩
  rw [if_pos rfl]
  exact nx _ h2 _ _ (iv_go iv f1 f2 s2 (CI_r c1 (FR_mono f2 (fun o j z => by unfold PrA; omega))) m2 vd)
theorem LW_809 {L W0 t d : Nat} {S : GS} {h : ajH} {Q : Option Value → ajH → Prop} {u5 u6 : Value} (hL : L ≤ 3072) (ht : 6 * t + 6 ≤ L) (iv : Iv L W0 t S h) (nx : Nx L W0 t d Q) : ajEv (d + 61) 263 809 [.ref 1100, .ref 1, .ref 320, .ref 342, .int (nI (6 * t)), u5, u6] [] h Q := by
  obtain ⟨hs, ci, mi, vd, hQ, hX, hW⟩ := id iv
  refine W263_809 hs ?_
  refine ⟨inL (k := 1) hL ht hQ (by omega), inL (k := 2) hL ht hQ (by omega), ?_⟩
  refine S99 (d := d + 54) hs ci vd ?_
  intro h1 f1 c1 s1
  refine ⟨_, rfl, ?_⟩
  have f1 : FR h h1 PcA := FR_mono f1 pc_PTr
  have hQ1 : ajQ h1 = L := (fr_Q f1).1.trans hQ
  have e1 : ∀ j, ajI h1 1100 j = ajI h 1100 j := fun j => FR_I f1 (by unfold PcA; omega)
  have m1 := MI_c mi f1
  refine ⟨inL (k := 1) hL ht hQ1 (by omega), inL (k := 2) hL ht hQ1 (by omega), ?_⟩
  simp only [e1]
  refine S214 (d := d + 20) s1 m1 vd ?_
  intro h2 f2 m2 s2
  refine ⟨_, rfl, ?_⟩
  rw [if_pos rfl]
  exact nx _ h2 _ _ (iv_go iv f1 f2 s2 (CI_r c1 (FR_mono f2 pr_PMt)) m2 vd)
theorem LW_846 {L W0 t d : Nat} {S : GS} {h : ajH} {Q : Option Value → ajH → Prop} {u5 u6 : Value} (hL : L ≤ 3072) (ht : 6 * t + 6 ≤ L) (iv : Iv L W0 t S h) (nx : Nx L W0 t d Q) : ajEv (d + 61) 263 846 [.ref 1100, .ref 1, .ref 320, .ref 342, .int (nI (6 * t)), u5, u6] [] h Q := by
  obtain ⟨hs, ci, mi, vd, hQ, hX, hW⟩ := id iv
  refine W263_846 hs ?_
  refine ⟨inL (k := 1) hL ht hQ (by omega), ?_⟩
  refine S100 (d := d + 53) hs ci vd ?_
  intro h1 f1 c1 s1
  refine ⟨_, rfl, ?_⟩
  have f1 : FR h h1 PcA := FR_mono f1 pc_PHd
  have hQ1 : ajQ h1 = L := (fr_Q f1).1.trans hQ
  have e1 : ∀ j, ajI h1 1100 j = ajI h 1100 j := fun j => FR_I f1 (by unfold PcA; omega)
  have m1 := MI_c mi f1
  refine ⟨inL (k := 1) hL ht hQ1 (by omega), ?_⟩
  simp only [e1]
  refine S218 (d := d + 20) s1 m1 vd ?_
  intro h2 f2 m2 s2
  refine ⟨_, rfl, ?_⟩
  rw [if_pos rfl]
  exact nx _ h2 _ _ (iv_go iv f1 f2 s2 (CI_r c1 (FR_mono f2 pr_PMd)) m2 (GVd_perf vd))
theorem LW_871 {L W0 t d : Nat} {S : GS} {h : ajH} {Q : Option Value → ajH → Prop} {u5 u6 : Value} (hL : L ≤ 3072) (ht : 6 * t + 6 ≤ L) (iv : Iv L W0 t S h) (nx : Nx L W0 t d Q) : ajEv (d + 61) 263 871 [.ref 1100, .ref 1, .ref 320, .ref 342, .int (nI (6 * t)), u5, u6] [] h Q := by
  obtain ⟨hs, ci, mi, vd, hQ, hX, hW⟩ := id iv
  refine W263_871 hs ?_
  refine ⟨inL (k := 1) hL ht hQ (by omega), inL (k := 2) hL ht hQ (by omega), ?_⟩
  refine S101 (d := d + 58) hs ci vd ?_
  intro h1 f1 c1 s1
  refine ⟨_, rfl, ?_⟩
  have f1 : FR h h1 PcA := FR_mono f1 (fun o j z => z)
  have hQ1 : ajQ h1 = L := (fr_Q f1).1.trans hQ
  have e1 : ∀ j, ajI h1 1100 j = ajI h 1100 j := fun j => FR_I f1 (by unfold PcA; omega)
  have m1 := MI_c mi f1
  refine ⟨inL (k := 1) hL ht hQ1 (by omega), inL (k := 2) hL ht hQ1 (by omega), ?_⟩
  simp only [e1]
  refine S219 (d := d + 56) s1 m1 vd ?_
  intro h2 f2 m2 s2
  refine ⟨_, rfl, ?_⟩
  rw [if_pos rfl]
  exact nx _ h2 _ _ (iv_go iv f1 f2 s2 (CI_r c1 (FR_mono f2 (fun o j z => z))) m2 vd)
theorem LW_908 {L W0 t d : Nat} {S : GS} {h : ajH} {Q : Option Value → ajH → Prop} {u5 u6 : Value} (hL : L ≤ 3072) (ht : 6 * t + 6 ≤ L) (iv : Iv L W0 t S h) (nx : Nx L W0 t d Q) : ajEv (d + 61) 263 908 [.ref 1100, .ref 1, .ref 320, .ref 342, .int (nI (6 * t)), u5, u6] [] h Q := by
  obtain ⟨hs, ci, mi, vd, hQ, hX, hW⟩ := id iv
  refine W263_908 hs ?_
  refine S102 (d := d + 56) hs ci vd ?_
  intro h1 f1 c1 s1
  refine ⟨_, rfl, ?_⟩
  have f1 : FR h h1 PcA := FR_mono f1 pc_P62
  have hQ1 : ajQ h1 = L := (fr_Q f1).1.trans hQ
  have m1 := MI_c mi f1
  refine S220 (d := d + 55) s1 m1 vd ?_
  intro h2 f2 m2 s2
  refine ⟨_, rfl, ?_⟩
  rw [if_pos rfl]
  exact nx _ h2 _ _ (iv_go iv f1 f2 s2 (CI_r c1 (FR_mono f2 pr_P333t)) m2 vd)
theorem LW_921 {L W0 t d : Nat} {S : GS} {h : ajH} {Q : Option Value → ajH → Prop} {u5 u6 : Value} (hL : L ≤ 3072) (ht : 6 * t + 6 ≤ L) (iv : Iv L W0 t S h) (nx : Nx L W0 t d Q) : ajEv (d + 61) 263 921 [.ref 1100, .ref 1, .ref 320, .ref 342, .int (nI (6 * t)), u5, u6] [] h Q := by
  obtain ⟨hs, ci, mi, vd, hQ, hX, hW⟩ := id iv
  refine W263_921 hs ?_
  refine ⟨inL (k := 1) hL ht hQ (by omega), inL (k := 2) hL ht hQ (by omega), inL (k := 3) hL ht hQ (by omega), ?_⟩
  refine S104 (d := d + 46) hs ci vd ?_
  intro h1 f1 c1 s1
  refine ⟨_, rfl, ?_⟩
  have f1 : FR h h1 PcA := FR_mono f1 pc_PPn
  have hQ1 : ajQ h1 = L := (fr_Q f1).1.trans hQ
  have e1 : ∀ j, ajI h1 1100 j = ajI h 1100 j := fun j => FR_I f1 (by unfold PcA; omega)
  have m1 := MI_c mi f1
  refine ⟨inL (k := 1) hL ht hQ1 (by omega), inL (k := 2) hL ht hQ1 (by omega), inL (k := 3) hL ht hQ1 (by omega), ?_⟩
  simp only [e1]
  refine S222 (d := d + 13) s1 m1 vd ?_
  intro h2 f2 m2 s2
  refine ⟨_, rfl, ?_⟩
  rw [if_pos rfl]
  exact nx _ h2 _ _ (iv_go iv f1 f2 s2 (CI_r c1 (FR_mono f2 pr_PMq)) m2 vd)
theorem LW_970 {L W0 t d : Nat} {S : GS} {h : ajH} {Q : Option Value → ajH → Prop} {u5 u6 : Value} (hL : L ≤ 3072) (ht : 6 * t + 6 ≤ L) (iv : Iv L W0 t S h) (nx : Nx L W0 t d Q) : ajEv (d + 61) 263 970 [.ref 1100, .ref 1, .ref 320, .ref 342, .int (nI (6 * t)), u5, u6] [] h Q := by
  obtain ⟨hs, ci, mi, vd, hQ, hX, hW⟩ := id iv
  refine W263_970 hs ?_
  refine ⟨inL (k := 1) hL ht hQ (by omega), ?_⟩
  refine S108 (d := d + 55) hs ci vd ?_
  intro h1 f1 c1 s1
  refine ⟨_, rfl, ?_⟩
  have f1 : FR h h1 PcA := FR_mono f1 pc_PTr
  have hQ1 : ajQ h1 = L := (fr_Q f1).1.trans hQ
  have e1 : ∀ j, ajI h1 1100 j = ajI h 1100 j := fun j => FR_I f1 (by unfold PcA; omega)
  have m1 := MI_c mi f1
  refine ⟨inL (k := 1) hL ht hQ1 (by omega), ?_⟩
  simp only [e1]
  refine S224 (d := d + 22) s1 m1 vd ?_
  intro h2 f2 m2 s2
  refine ⟨_, rfl, ?_⟩
  rw [if_pos rfl]
  exact nx _ h2 _ _ (iv_go iv f1 f2 s2 (CI_r c1 (FR_mono f2 pr_PMt)) m2 vd)
theorem LW_1048 {L W0 t d : Nat} {S : GS} {h : ajH} {Q : Option Value → ajH → Prop} {u5 u6 : Value} (hL : L ≤ 3072) (ht : 6 * t + 6 ≤ L) (iv : Iv L W0 t S h) (nx : Nx L W0 t d Q) : ajEv (d + 61) 263 1048 [.ref 1100, .ref 1, .ref 320, .ref 342, .int (nI (6 * t)), u5, u6] [] h Q := by
  obtain ⟨hs, ci, mi, vd, hQ, hX, hW⟩ := id iv
  refine W263_1048 hs ?_
  refine ⟨inL (k := 1) hL ht hQ (by omega), inL (k := 2) hL ht hQ (by omega), ?_⟩
  refine S112 (d := d + 54) hs ci vd ?_
  intro h1 f1 c1 s1
  refine ⟨_, rfl, ?_⟩
  have f1 : FR h h1 PcA := FR_mono f1 pc_PTr
  have hQ1 : ajQ h1 = L := (fr_Q f1).1.trans hQ
  have e1 : ∀ j, ajI h1 1100 j = ajI h 1100 j := fun j => FR_I f1 (by unfold PcA; omega)
  have m1 := MI_c mi f1
  refine ⟨inL (k := 1) hL ht hQ1 (by omega), inL (k := 2) hL ht hQ1 (by omega), ?_⟩
  simp only [e1]
  refine S227 (d := d + 21) s1 m1 vd ?_
  intro h2 f2 m2 s2
  refine ⟨_, rfl, ?_⟩
  rw [if_pos rfl]
  exact nx _ h2 _ _ (iv_go iv f1 f2 s2 (CI_r c1 (FR_mono f2 pr_PMv)) m2 vd)
theorem LW_1085 {L W0 t d : Nat} {S : GS} {h : ajH} {Q : Option Value → ajH → Prop} {u5 u6 : Value} (hL : L ≤ 3072) (ht : 6 * t + 6 ≤ L) (iv : Iv L W0 t S h) (nx : Nx L W0 t d Q) : ajEv (d + 61) 263 1085 [.ref 1100, .ref 1, .ref 320, .ref 342, .int (nI (6 * t)), u5, u6] [] h Q := by
  obtain ⟨hs, ci, mi, vd, hQ, hX, hW⟩ := id iv
  refine W263_1085 hs ?_
  refine ⟨inL (k := 1) hL ht hQ (by omega), ?_⟩
  refine S115 (d := d + 54) hs ci vd ?_
  intro h1 f1 c1 s1
  refine ⟨_, rfl, ?_⟩
  have f1 : FR h h1 PcA := FR_mono f1 pc_PSg
  have hQ1 : ajQ h1 = L := (fr_Q f1).1.trans hQ
  have e1 : ∀ j, ajI h1 1100 j = ajI h 1100 j := fun j => FR_I f1 (by unfold PcA; omega)
  have m1 := MI_c mi f1
  refine ⟨inL (k := 1) hL ht hQ1 (by omega), ?_⟩
  simp only [e1]
  refine S230 (d := d + 21) s1 m1 vd ?_
  intro h2 f2 m2 s2
  refine ⟨_, rfl, ?_⟩
  rw [if_pos rfl]
  exact nx _ h2 _ _ (iv_go iv f1 f2 s2 (CI_r c1 (FR_mono f2 pr_PMv)) m2 vd)
theorem LW_1110 {L W0 t d : Nat} {S : GS} {h : ajH} {Q : Option Value → ajH → Prop} {u5 u6 : Value} (hL : L ≤ 3072) (ht : 6 * t + 6 ≤ L) (iv : Iv L W0 t S h) (nx : Nx L W0 t d Q) : ajEv (d + 61) 263 1110 [.ref 1100, .ref 1, .ref 320, .ref 342, .int (nI (6 * t)), u5, u6] [] h Q := by
  obtain ⟨hs, ci, mi, vd, hQ, hX, hW⟩ := id iv
  refine W263_1110 hs ?_
  refine ⟨inL (k := 1) hL ht hQ (by omega), ?_⟩
  refine S119 (d := d + 59) hs ci vd ?_
  intro s1
  refine ⟨_, rfl, ?_⟩
  have f1 : FR h h PcA := FR_refl _ _
  have c1 := ci
  have hQ1 := hQ
  have m1 := MI_c mi f1
  refine ⟨inL (k := 1) hL ht hQ1 (by omega), ?_⟩
  refine S231 (d := d + 59) s1 m1 vd ?_
  intro h2 f2 m2 s2
  refine ⟨_, rfl, ?_⟩
  rw [if_pos rfl]
  exact nx _ h2 _ _ (iv_go iv f1 f2 s2 (CI_r c1 (FR_mono f2 (fun o j z => by unfold PrA; omega))) m2 vd)
theorem LW_1135 {L W0 t d : Nat} {S : GS} {h : ajH} {Q : Option Value → ajH → Prop} {u5 u6 : Value} (hL : L ≤ 3072) (ht : 6 * t + 6 ≤ L) (iv : Iv L W0 t S h) (nx : Nx L W0 t d Q) : ajEv (d + 61) 263 1135 [.ref 1100, .ref 1, .ref 320, .ref 342, .int (nI (6 * t)), u5, u6] [] h Q := by
  obtain ⟨hs, ci, mi, vd, hQ, hX, hW⟩ := id iv
  refine W263_1135 hs ?_
  refine ⟨inL (k := 1) hL ht hQ (by omega), inL (k := 2) hL ht hQ (by omega), ?_⟩
  refine S120 (d := d + 56) hs ci vd ?_
  intro h1 f1 c1 s1
  refine ⟨_, rfl, ?_⟩
  have f1 : FR h h1 PcA := FR_mono f1 pc_PTr
  have hQ1 : ajQ h1 = L := (fr_Q f1).1.trans hQ
  have e1 : ∀ j, ajI h1 1100 j = ajI h 1100 j := fun j => FR_I f1 (by unfold PcA; omega)
  have m1 := MI_c mi f1
  refine ⟨inL (k := 1) hL ht hQ1 (by omega), inL (k := 2) hL ht hQ1 (by omega), ?_⟩
  simp only [e1]
  refine S232 (d := d + 22) s1 m1 vd ?_
  intro h2 f2 m2 s2
  refine ⟨_, rfl, ?_⟩
  rw [if_pos rfl]
  exact nx _ h2 _ _ (iv_go iv f1 f2 s2 (CI_r c1 (FR_mono f2 pr_PMt)) m2 vd)
theorem LW_1172 {L W0 t d : Nat} {S : GS} {h : ajH} {Q : Option Value → ajH → Prop} {u5 u6 : Value} (hL : L ≤ 3072) (ht : 6 * t + 6 ≤ L) (iv : Iv L W0 t S h) (nx : Nx L W0 t d Q) : ajEv (d + 61) 263 1172 [.ref 1100, .ref 1, .ref 320, .ref 342, .int (nI (6 * t)), u5, u6] [] h Q := by
  obtain ⟨hs, ci, mi, vd, hQ, hX, hW⟩ := id iv
  refine W263_1172 hs ?_
  refine ⟨inL (k := 1) hL ht hQ (by omega), ?_⟩
  refine S122 (d := d + 56) hs ci vd ?_
  intro h1 f1 c1 s1
  refine ⟨_, rfl, ?_⟩
  have f1 : FR h h1 PcA := FR_mono f1 pc_PTr
  have hQ1 : ajQ h1 = L := (fr_Q f1).1.trans hQ
  have e1 : ∀ j, ajI h1 1100 j = ajI h 1100 j := fun j => FR_I f1 (by unfold PcA; omega)
  have m1 := MI_c mi f1
  refine ⟨inL (k := 1) hL ht hQ1 (by omega), ?_⟩
  simp only [e1]
  refine S233 (d := d + 22) s1 m1 vd ?_
  intro h2 f2 m2 s2
  refine ⟨_, rfl, ?_⟩
  rw [if_pos rfl]
  exact nx _ h2 _ _ (iv_go iv f1 f2 s2 (CI_r c1 (FR_mono f2 pr_PMt)) m2 vd)
theorem LW_1197 {L W0 t d : Nat} {S : GS} {h : ajH} {Q : Option Value → ajH → Prop} {u5 u6 : Value} (hL : L ≤ 3072) (ht : 6 * t + 6 ≤ L) (iv : Iv L W0 t S h) (nx : Nx L W0 t d Q) : ajEv (d + 61) 263 1197 [.ref 1100, .ref 1, .ref 320, .ref 342, .int (nI (6 * t)), u5, u6] [] h Q := by
  obtain ⟨hs, ci, mi, vd, hQ, hX, hW⟩ := id iv
  refine W263_1197 hs ?_
  refine ⟨inL (k := 1) hL ht hQ (by omega), inL (k := 2) hL ht hQ (by omega), inL (k := 3) hL ht hQ (by omega), inL (k := 4) hL ht hQ (by omega), inL (k := 5) hL ht hQ (by omega), ?_⟩
  refine S123 (d := d + 57) hs ci vd ?_
  intro h1 f1 c1 s1
  refine ⟨_, rfl, ?_⟩
  have f1 : FR h h1 PcA := FR_mono f1 pc_P62
  have hQ1 : ajQ h1 = L := (fr_Q f1).1.trans hQ
  have e1 : ∀ j, ajI h1 1100 j = ajI h 1100 j := fun j => FR_I f1 (by unfold PcA; omega)
  have m1 := MI_c mi f1
  refine ⟨inL (k := 1) hL ht hQ1 (by omega), inL (k := 2) hL ht hQ1 (by omega), inL (k := 3) hL ht hQ1 (by omega), inL (k := 4) hL ht hQ1 (by omega), inL (k := 5) hL ht hQ1 (by omega), ?_⟩
  simp only [e1]
  refine S234 (d := d + 55) s1 m1 vd ?_
  intro h2 f2 m2 s2
  refine ⟨_, rfl, ?_⟩
  rw [if_pos rfl]
  exact nx _ h2 _ _ (iv_go iv f1 f2 s2 (CI_r c1 (FR_mono f2 pr_P333t)) m2 vd)
theorem LW_1270 {L W0 t d : Nat} {S : GS} {h : ajH} {Q : Option Value → ajH → Prop} {u5 u6 : Value} (hL : L ≤ 3072) (ht : 6 * t + 6 ≤ L) (iv : Iv L W0 t S h) (nx : Nx L W0 t d Q) : ajEv (d + 61) 263 1270 [.ref 1100, .ref 1, .ref 320, .ref 342, .int (nI (6 * t)), u5, u6] [] h Q := by
  obtain ⟨hs, ci, mi, vd, hQ, hX, hW⟩ := id iv
  refine W263_1270 hs ?_
  refine ⟨inL (k := 1) hL ht hQ (by omega), inL (k := 2) hL ht hQ (by omega), inL (k := 3) hL ht hQ (by omega), ?_⟩
  refine S126 (d := d + 57) hs ci vd ?_
  intro h1 f1 c1 s1
  refine ⟨_, rfl, ?_⟩
  have f1 : FR h h1 PcA := FR_mono f1 pc_P62
  have hQ1 : ajQ h1 = L := (fr_Q f1).1.trans hQ
  have e1 : ∀ j, ajI h1 1100 j = ajI h 1100 j := fun j => FR_I f1 (by unfold PcA; omega)
  have m1 := MI_c mi f1
  refine ⟨inL (k := 1) hL ht hQ1 (by omega), inL (k := 2) hL ht hQ1 (by omega), inL (k := 3) hL ht hQ1 (by omega), ?_⟩
  simp only [e1]
  refine S237 (d := d + 55) s1 m1 vd ?_
  intro h2 f2 m2 s2
  refine ⟨_, rfl, ?_⟩
  rw [if_pos rfl]
  exact nx _ h2 _ _ (iv_go iv f1 f2 s2 (CI_r c1 (FR_mono f2 pr_P333t)) m2 vd)
theorem LW_1319 {L W0 t d : Nat} {S : GS} {h : ajH} {Q : Option Value → ajH → Prop} {u5 u6 : Value} (hL : L ≤ 3072) (ht : 6 * t + 6 ≤ L) (iv : Iv L W0 t S h) (nx : Nx L W0 t d Q) : ajEv (d + 61) 263 1319 [.ref 1100, .ref 1, .ref 320, .ref 342, .int (nI (6 * t)), u5, u6] [] h Q := by
  obtain ⟨hs, ci, mi, vd, hQ, hX, hW⟩ := id iv
  refine W263_1319 hs ?_
  refine ⟨inL (k := 1) hL ht hQ (by omega), inL (k := 2) hL ht hQ (by omega), inL (k := 3) hL ht hQ (by omega), ?_⟩
  refine S127 (d := d + 58) hs ci vd ?_
  intro s1
  refine ⟨_, rfl, ?_⟩
  have f1 : FR h h PcA := FR_refl _ _
  have c1 := ci
  have hQ1 := hQ
  have m1 := MI_c mi f1
  refine ⟨inL (k := 1) hL ht hQ1 (by omega), inL (k := 2) hL ht hQ1 (by omega), inL (k := 3) hL ht hQ1 (by omega), ?_⟩
  refine S238 (d := d + 50) s1 m1 vd ?_
  intro h2 f2 m2 s2
  refine ⟨_, rfl, ?_⟩
  rw [if_pos rfl]
  exact nx _ h2 _ _ (iv_go iv f1 f2 s2 (CI_r c1 (FR_mono f2 (fun o j z => by unfold PrA; omega))) m2 vd)
theorem LW_1368 {L W0 t d : Nat} {S : GS} {h : ajH} {Q : Option Value → ajH → Prop} {u5 u6 : Value} (hL : L ≤ 3072) (ht : 6 * t + 6 ≤ L) (iv : Iv L W0 t S h) (nx : Nx L W0 t d Q) : ajEv (d + 61) 263 1368 [.ref 1100, .ref 1, .ref 320, .ref 342, .int (nI (6 * t)), u5, u6] [] h Q := by
  obtain ⟨hs, ci, mi, vd, hQ, hX, hW⟩ := id iv
  refine W263_1368 hs ?_
  refine ⟨inL (k := 1) hL ht hQ (by omega), inL (k := 2) hL ht hQ (by omega), ?_⟩
  refine S129 (d := d + 59) hs ci vd ?_
  intro s1
  refine ⟨_, rfl, ?_⟩
  have f1 : FR h h PcA := FR_refl _ _
  have c1 := ci
  have hQ1 := hQ
  have m1 := MI_c mi f1
  refine ⟨inL (k := 1) hL ht hQ1 (by omega), inL (k := 2) hL ht hQ1 (by omega), ?_⟩
  refine S240 (d := d + 59) s1 m1 vd ?_
  intro h2 f2 m2 s2
  refine ⟨_, rfl, ?_⟩
  rw [if_pos rfl]
  exact nx _ h2 _ _ (iv_go iv f1 f2 s2 (CI_r c1 (FR_mono f2 (fun o j z => by unfold PrA; omega))) m2 vd)
theorem LW_1405 {L W0 t d : Nat} {S : GS} {h : ajH} {Q : Option Value → ajH → Prop} {u5 u6 : Value} (hL : L ≤ 3072) (ht : 6 * t + 6 ≤ L) (iv : Iv L W0 t S h) (nx : Nx L W0 t d Q) : ajEv (d + 61) 263 1405 [.ref 1100, .ref 1, .ref 320, .ref 342, .int (nI (6 * t)), u5, u6] [] h Q := by
  obtain ⟨hs, ci, mi, vd, hQ, hX, hW⟩ := id iv
  refine W263_1405 hs ?_
  refine ⟨inL (k := 1) hL ht hQ (by omega), ?_⟩
  refine S130 (d := d + 55) hs ci vd ?_
  intro h1 f1 c1 s1
  refine ⟨_, rfl, ?_⟩
  have f1 : FR h h1 PcA := FR_mono f1 pc_PTr
  have hQ1 : ajQ h1 = L := (fr_Q f1).1.trans hQ
  have e1 : ∀ j, ajI h1 1100 j = ajI h 1100 j := fun j => FR_I f1 (by unfold PcA; omega)
  have m1 := MI_c mi f1
  refine ⟨inL (k := 1) hL ht hQ1 (by omega), ?_⟩
  simp only [e1]
  refine S241 (d := d + 21) s1 m1 vd ?_
  intro h2 f2 m2 s2
  refine ⟨_, rfl, ?_⟩
  rw [if_pos rfl]
  exact nx _ h2 _ _ (iv_go iv f1 f2 s2 (CI_r c1 (FR_mono f2 pr_PMt)) m2 vd)
theorem LW_1430 {L W0 t d : Nat} {S : GS} {h : ajH} {Q : Option Value → ajH → Prop} {u5 u6 : Value} (hL : L ≤ 3072) (ht : 6 * t + 6 ≤ L) (iv : Iv L W0 t S h) (nx : Nx L W0 t d Q) : ajEv (d + 61) 263 1430 [.ref 1100, .ref 1, .ref 320, .ref 342, .int (nI (6 * t)), u5, u6] [] h Q := by
  obtain ⟨hs, ci, mi, vd, hQ, hX, hW⟩ := id iv
  refine W263_1430 hs ?_
  refine S134 (d := d + 58) hs ci vd ?_
  intro h1 f1 c1 s1
  refine ⟨_, rfl, ?_⟩
  have f1 : FR h h1 PcA := FR_mono f1 (fun o j z => z)
  have hQ1 : ajQ h1 = L := (fr_Q f1).1.trans hQ
  have m1 := MI_c mi f1
  refine S247 (d := d + 60) s1 m1 vd ?_
  intro h2 f2 m2 s2
  refine ⟨_, rfl, ?_⟩
  rw [if_pos rfl]
  exact nx _ h2 _ _ (iv_go iv f1 f2 s2 (CI_r c1 (FR_mono f2 (fun o j z => z))) m2 (GVd_image vd))
theorem LW_1443 {L W0 t d : Nat} {S : GS} {h : ajH} {Q : Option Value → ajH → Prop} {u5 u6 : Value} (hL : L ≤ 3072) (ht : 6 * t + 6 ≤ L) (iv : Iv L W0 t S h) (nx : Nx L W0 t d Q) : ajEv (d + 61) 263 1443 [.ref 1100, .ref 1, .ref 320, .ref 342, .int (nI (6 * t)), u5, u6] [] h Q := by
  obtain ⟨hs, ci, mi, vd, hQ, hX, hW⟩ := id iv
  refine W263_1443 hs ?_
  refine S135 (d := d + 58) hs ci vd ?_
  intro h1 f1 c1 s1
  refine ⟨_, rfl, ?_⟩
  have f1 : FR h h1 PcA := FR_mono f1 (fun o j z => z)
  have hQ1 : ajQ h1 = L := (fr_Q f1).1.trans hQ
  have m1 := MI_c mi f1
  refine S248 (d := d + 60) s1 m1 vd ?_
  intro h2 f2 m2 s2
  refine ⟨_, rfl, ?_⟩
  rw [if_pos rfl]
  exact nx _ h2 _ _ (iv_go iv f1 f2 s2 (CI_r c1 (FR_mono f2 (fun o j z => z))) m2 (GVd_back vd))
theorem LW_1456 {L W0 t d : Nat} {S : GS} {h : ajH} {Q : Option Value → ajH → Prop} {u5 u6 : Value} (hL : L ≤ 3072) (ht : 6 * t + 6 ≤ L) (iv : Iv L W0 t S h) (nx : Nx L W0 t d Q) : ajEv (d + 61) 263 1456 [.ref 1100, .ref 1, .ref 320, .ref 342, .int (nI (6 * t)), u5, u6] [] h Q := by
  obtain ⟨hs, ci, mi, vd, hQ, hX, hW⟩ := id iv
  refine W263_1456 hs ?_
  refine ⟨inL (k := 1) hL ht hQ (by omega), ?_⟩
  refine S136 (d := d + 59) hs ci vd ?_
  intro s1
  refine ⟨_, rfl, ?_⟩
  have f1 : FR h h PcA := FR_refl _ _
  have c1 := ci
  have hQ1 := hQ
  have m1 := MI_c mi f1
  refine ⟨inL (k := 1) hL ht hQ1 (by omega), ?_⟩
  refine S249 (d := d + 60) s1 m1 ?_
  intro h2 f2 m2 s2
  refine ⟨_, rfl, ?_⟩
  rw [if_pos rfl]
  exact nx _ h2 _ _ (iv_go iv f1 f2 s2 (CI_r c1 (FR_mono f2 (fun o j z => by unfold PrA; omega))) m2 vd)
theorem LW_550 {L W0 t d : Nat} {S : GS} {h : ajH} {Q : Option Value → ajH → Prop} {u5 u6 : Value} (hL : L ≤ 3072) (ht : 6 * t + 6 ≤ L) (iv : Iv L W0 t S h) (nx : Nx L W0 t d Q) : ajEv (d + 61) 263 550 [.ref 1100, .ref 1, .ref 320, .ref 342, .int (nI (6 * t)), u5, u6] [] h Q := by
  obtain ⟨hs, ci, mi, vd, hQ, hX, hW⟩ := id iv
  refine W263_550 hs ?_
  refine ⟨inL (k := 1) hL ht hQ (by omega), ?_⟩
  have go : ∀ b : Bool, (if ajI h 1100 (nI (6 * t) + 1).toNatClampNeg = 0 then false else true) = b → ∀ u5 u6, ajEv (d + 61) 263 565 [.ref 1100, .ref 1, .ref 320, .ref 342, .int (nI (6 * t)), u5, u6] [.int (flg b), .ref 1] h Q := by
    intro b hb u5 u6
    refine W263_565 hs ?_
    refine ⟨ajOKw hs (ajKwi (ajKc rfl)), ?_⟩
    refine S86 (d := d + 57) hs ci vd ?_
    intro h1 f1 c1 s1
    refine ⟨_, rfl, ?_⟩
    have f1 : FR h h1 PcA := FR_mono f1 pc_PHd
    have hQ1 : ajQ h1 = L := (fr_Q f1).1.trans hQ
    have e1 : ∀ j, ajI h1 1100 j = ajI h 1100 j := fun j => FR_I f1 (by unfold PcA; omega)
    have m1 := MI_c mi f1
    refine ⟨inL (k := 1) hL ht hQ1 (by omega), ?_⟩
    simp only [e1]
    have fin : ∀ u5 u6, ajEv (d + 61) 263 583 [.ref 1100, .ref 1, .ref 320, .ref 342, .int (nI (6 * t)), u5, u6] [.int (flg b), .ref 320, .int (flg (vtOK S b))] h1 Q := by
      intro u5 u6
      refine W263_583 s1 ?_
      refine ⟨ajOKw s1 (ajKwi (ajKc rfl)), ?_⟩
      refine S205 (d := d + 59) s1 m1 vd ?_
      intro h2 f2 m2 s2
      refine ⟨_, rfl, ?_⟩
      rw [if_pos rfl]
      exact nx _ h2 _ _ (iv_go iv f1 f2 s2 (CI_r c1 (FR_mono f2 pr_PMd)) m2 (GVd_vote vd))
    by_cases y : ajI h 1100 (nI (6 * t) + 1).toNatClampNeg = 0
    · rw [if_pos y] at hb ⊢
      subst hb
      exact fin _ _
    · rw [if_neg y] at hb ⊢
      subst hb
      exact fin _ _
  by_cases y : ajI h 1100 (nI (6 * t) + 1).toNatClampNeg = 0
  · rw [if_pos y]
    exact go false (if_pos y) _ _
  · rw [if_neg y]
    exact go true (if_neg y) _ _
theorem LW_995 {L W0 t d : Nat} {S : GS} {h : ajH} {Q : Option Value → ajH → Prop} {u5 u6 : Value} (hL : L ≤ 3072) (ht : 6 * t + 6 ≤ L) (iv : Iv L W0 t S h) (nx : Nx L W0 t d Q) : ajEv (d + 61) 263 995 [.ref 1100, .ref 1, .ref 320, .ref 342, .int (nI (6 * t)), u5, u6] [] h Q := by
  obtain ⟨hs, ci, mi, vd, hQ, hX, hW⟩ := id iv
  refine W263_995 hs ?_
  refine ⟨inL (k := 1) hL ht hQ (by omega), inL (k := 2) hL ht hQ (by omega), ?_⟩
  have go : ∀ b : Bool, (if ajI h 1100 (nI (6 * t) + 2).toNatClampNeg = 0 then false else true) = b → ∀ u5 u6, ajEv (d + 61) 263 1016 [.ref 1100, .ref 1, .ref 320, .ref 342, .int (nI (6 * t)), u5, u6] [.int (flg b), .int (ajI h 1100 (nI (6 * t) + 1).toNatClampNeg), .ref 1] h Q := by
    intro b hb u5 u6
    refine W263_1016 hs ?_
    refine ⟨ajOKw hs (ajKwi (ajKc rfl)), ?_⟩
    refine S110 (d := d + 59) hs ci vd ?_
    intro h1 f1 c1 s1
    refine ⟨_, rfl, ?_⟩
    have f1 : FR h h1 PcA := FR_mono f1 (fun o j z => z)
    have hQ1 : ajQ h1 = L := (fr_Q f1).1.trans hQ
    have e1 : ∀ j, ajI h1 1100 j = ajI h 1100 j := fun j => FR_I f1 (by unfold PcA; omega)
    have m1 := MI_c mi f1
    refine ⟨inL (k := 1) hL ht hQ1 (by omega), inL (k := 2) hL ht hQ1 (by omega), ?_⟩
    simp only [e1]
    have fin : ∀ u5 u6, ajEv (d + 61) 263 1040 [.ref 1100, .ref 1, .ref 320, .ref 342, .int (nI (6 * t)), u5, u6] [.int (flg b), .int (ajI h 1100 (nI (6 * t) + 1).toNatClampNeg), .ref 320, .int (aSeen S (ajI h 1100 (nI (6 * t) + 1).toNatClampNeg))] h1 Q := by
      intro u5 u6
      refine W263_1040 s1 ?_
      refine ⟨ajOKw s1 (ajKwi (ajKc rfl)), ?_⟩
      refine S226 (d := d + 59) s1 m1 vd ?_
      intro h2 f2 m2 s2
      refine ⟨_, rfl, ?_⟩
      rw [if_pos rfl]
      exact nx _ h2 _ _ (iv_go iv f1 f2 s2 (CI_r c1 (FR_mono f2 (fun o j z => z))) m2 (GVd_seen vd))
    by_cases y : ajI h 1100 (nI (6 * t) + 2).toNatClampNeg = 0
    · rw [if_pos y] at hb ⊢
      subst hb
      exact fin _ _
    · rw [if_neg y] at hb ⊢
      subst hb
      exact fin _ _
  by_cases y : ajI h 1100 (nI (6 * t) + 2).toNatClampNeg = 0
  · rw [if_pos y]
    exact go false (if_pos y) _ _
  · rw [if_neg y]
    exact go true (if_neg y) _ _
theorem LW_356 {L W0 t d : Nat} {S : GS} {h : ajH} {Q : Option Value → ajH → Prop} {u5 u6 : Value} (hL : L ≤ 3072) (ht : 6 * t + 6 ≤ L) (iv : Iv L W0 t S h) (nx : Nx L W0 t d Q) : ajEv (d + 61) 263 356 [.ref 1100, .ref 1, .ref 320, .ref 342, .int (nI (6 * t)), u5, u6] [] h Q := by
  obtain ⟨hs, ci, mi, vd, hQ, hX, hW⟩ := id iv
  have z8 := vd.z8
  have m1k := ajOKw hs (ajKwi (ajKc (a := 1) (k := 0) rfl))
  have r11 : ajR h 1 1 = 4 := ajRf_0_1 hs (ajKc rfl)
  refine W263_356 hs ?_
  refine ⟨inL (k := 1) hL ht hQ (by omega), inL (k := 2) hL ht hQ (by omega), ?_⟩
  have en1 : ∀ v1 v2 : Int32, ajSpk h [.ref 1, .int v1, .int v2, .ref 342] = some (skOK S v1 v2) := by
    intro v1 v2
    unfold ajSpk
    dsimp only
    rw [r11, if_pos ⟨m1k, ajOKw hs (ajKwi (ajKc rfl)), ajOWw hs (ajKc rfl), by rw [ajLenC (n := 1) rfl]; omega⟩, ci.2.1.1]
    refine congrArg some ?_
    unfold skOK isp
    by_cases a1 : v1 < 0
    · rw [if_pos a1, decide_eq_false (fun z => z.1 a1)]; rfl
    · rw [if_neg a1]
      obtain ⟨k, hk, rfl⟩ := sr_of a1
      by_cases a2 : nI (gz S) ≤ nI k
      · rw [if_pos a2, decide_eq_false (fun z => by
          have y := z.2.1
          rw [sr_lt (by omega) (by omega)] at y
          rw [sr_le (by omega) (by omega)] at a2
          omega)]
        rfl
      · rw [if_neg a2, Bool.true_and]
        have y2 : nI k < nI (gz S) := by
          rw [sr_le (by omega) (by omega)] at a2
          rw [sr_lt (by omega) (by omega)]
          omega
        by_cases a3 : v2 < 0
        · rw [if_pos a3, decide_eq_false (fun z => z.2.2.1 a3)]
        · rw [if_neg a3]
          obtain ⟨o, ho, rfl⟩ := sr_of a3
          by_cases a4 : nI 5 ≤ nI o
          · rw [if_pos a4, decide_eq_false (fun z => by
              have y := z.2.2.2
              rw [sl_4, sr_le (by omega) (by omega)] at y
              rw [sr_le (by omega) (by omega)] at a4
              omega)]
          · rw [if_neg a4, decide_eq_true ⟨a1, y2, a3, by
              rw [sr_le (by omega) (by omega)] at a4
              rw [sl_4, sr_le (by omega) (by omega)]
              omega⟩]
  generalize hv1 : ajI h 1100 (nI (6 * t) + 1).toNatClampNeg = v1
  generalize hv2 : ajI h 1100 (nI (6 * t) + 2).toNatClampNeg = v2
  refine ajW_501 (as := [.ref 1, .int v1, .int v2, .ref 342]) (rest := []) (ps' := [.ref 1100, .ref 1, .ref 320, .ref 342, .int (nI (6 * t)), ajU, ajU]) rfl rfl rfl rfl rfl rfl rfl rfl ?_
  cases e : skOK S v1 v2 with
  | true =>
    refine Or.inl ⟨by rw [en1, e], ?_⟩
    have e0 := e
    unfold skOK at e0
    rw [Bool.and_eq_true] at e0
    obtain ⟨k, hk, rfl⟩ := isp_K (by omega) e0.1
    obtain ⟨o, ho, rfl⟩ := isp_K (by omega) e0.2
    refine ajEv_keep (a := 137) rfl hs ?_
    refine S137 (d := d + 57) hs ci vd hk ho ?_
    intro h1 f1 c1 s1
    refine ⟨_, rfl, ?_⟩
    have f1 : FR h h1 PcA := FR_mono f1 (fun o j z => z)
    have m1 := MI_c mi f1
    have e1 : ∀ j, ajI h1 1100 j = ajI h 1100 j := fun j => FR_I f1 (by unfold PcA; omega)
    have f1' : FR h1 (ajOut [.ref 1, .int (nI k), .int (nI o), .ref 342] h1 (aSpoke S k o)) PrA := FR_SL h1 (show PrA 342 0 from ⟨by omega, by omega⟩)
    have s1' : ajShp (ajOut [.ref 1, .int (nI k), .int (nI o), .ref 342] h1 (aSpoke S k o)) := s1
    have m1' : MI S (ajOut [.ref 1, .int (nI k), .int (nI o), .ref 342] h1 (aSpoke S k o)) := m1
    have c1' := CI_r c1 f1'
    have el : ajL (ajOut [.ref 1, .int (nI k), .int (nI o), .ref 342] h1 (aSpoke S k o)) 342 0 = (aSpoke S k o).toInt64 := by
      show (if 342 = 342 ∧ 0 = 0 then (aSpoke S k o).toInt64 else ajL h1 342 0) = _
      rw [if_pos ⟨rfl, rfl⟩]
    have e1' : ∀ j, ajI (ajOut [.ref 1, .int (nI k), .int (nI o), .ref 342] h1 (aSpoke S k o)) 1100 j = ajI h 1100 j := e1
    have hQ1 : ajQ (ajOut [.ref 1, .int (nI k), .int (nI o), .ref 342] h1 (aSpoke S k o)) = L := ((fr_Q f1').1.trans (fr_Q f1).1).trans hQ
    generalize ajOut [.ref 1, .int (nI k), .int (nI o), .ref 342] h1 (aSpoke S k o) = g1 at f1' s1' m1' c1' el e1' hQ1
    refine W263_373 s1' ?_
    refine ⟨inL (k := 1) hL ht hQ1 (by omega), inL (k := 2) hL ht hQ1 (by omega), ?_⟩
    rw [e1', e1', hv1, hv2]
    refine S178y (d := d + 56) s1' m1' vd hk ho ?_
    intro h2 f2 m2 e20 s2
    refine ⟨_, rfl, ?_⟩
    refine W139_0 s2 ?_
    intro s2'
    refine ⟨_, rfl, ?_⟩
    rw [e20, if_pos rfl, if_neg (fun z => z rfl)]
    have f2r : FR g1 h2 PrA := FR_mono f2 (fun o j z => by unfold PSk at z; unfold PrA; omega)
    rw [FR_L f2 (show ¬ PSk 342 0 by unfold PSk; omega), el, if_pos ((lg_cmp_eq _ _).mpr rfl)]
    exact nx _ h2 _ _ (iv_go iv f1 (FR_trans f1' f2r) s2 (CI_r c1' f2r) m2 vd)
  | false =>
    refine Or.inr ⟨by rw [en1, e], by omega, ?_⟩
    have s1' : ajShp (ajTh h) := hs
    have m1' : MI S (ajTh h) := mi
    have c1' : CI S (ajTh h) := ci
    have e1' : ∀ j, ajI (ajTh h) 1100 j = ajI h 1100 j := fun j => rfl
    have hQ1 : ajQ (ajTh h) = L := hQ
    have hX1 : ajX (ajTh h) ≤ t + 1 := by show ajX h + 1 ≤ t + 1; omega
    have hW1 : ajW (ajTh h) ≤ W0 + 6 * (t + 1) := by show ajW h + 6 ≤ W0 + 6 * (t + 1); omega
    generalize ajTh h = g1 at s1' m1' c1' e1' hQ1 hX1 hW1
    refine W263_373 s1' ?_
    refine ⟨inL (k := 1) hL ht hQ1 (by omega), inL (k := 2) hL ht hQ1 (by omega), ?_⟩
    rw [e1', e1', hv1, hv2]
    refine S178n (d := d + 56) s1' m1' e ?_
    intro h2 f2 m2 e20 s2
    refine ⟨_, rfl, ?_⟩
    refine W139_0 s2 ?_
    intro s2'
    refine ⟨_, rfl, ?_⟩
    rw [e20, if_pos rfl, if_pos (by decide)]
    have f2r : FR g1 h2 PrA := FR_mono f2 (fun o j z => by unfold PSk at z; unfold PrA; omega)
    have q2 := fr_Q f2r
    exact nx _ h2 _ _ ⟨s2, CI_r c1' f2r, m2, vd, by omega, by omega, by omega⟩
theorem lp_end {L t : Nat} {h : ajH} (hL : L ≤ 3072) (hQ : ajQ h = L) (y : L < 6 * t + 6) (hb : 6 * t < 1000000 := by omega) : Int32.ofNat (ajLen h 1100) - (6 : Int32) < nI (6 * t) := by
  rw [show ajLen h 1100 = ajQ h from rfl, hQ]
  by_cases z : 6 ≤ L
  · rw [show Int32.ofNat L = nI L from rfl, sl_6, sr_sub z, sr_lt (by omega) (by omega)]
    omega
  · have : L = 0 ∨ L = 1 ∨ L = 2 ∨ L = 3 ∨ L = 4 ∨ L = 5 := by omega
    rw [Int32.lt_iff_toInt_lt, sr_toInt (by omega)]
    have e : (Int32.ofNat L - (6 : Int32)).toInt < 0 := by
      rcases this with rfl | rfl | rfl | rfl | rfl | rfl <;> decide
    omega
theorem lp_go {L t : Nat} {h : ajH} (hL : L ≤ 3072) (hQ : ajQ h = L) (y : 6 * t + 6 ≤ L) : ¬ Int32.ofNat (ajLen h 1100) - (6 : Int32) < nI (6 * t) := by
  rw [show ajLen h 1100 = ajQ h from rfl, hQ, show Int32.ofNat L = nI L from rfl, sl_6, sr_sub (by omega), sr_lt (by omega) (by omega)]
  omega
theorem LWP {L W0 d : Nat} {Q : Option Value → ajH → Prop} (hL : L ≤ 3072) (HQ : ∀ h', ajN h' = 343 → ajX h' ≤ 512 → ajW h' ≤ W0 + 6 * 512 → Q (some (.int 1)) h') : ∀ (n t : Nat) (S : GS) (h : ajH) (u5 u6 : Value), L ≤ 6 * t + 6 * n → 6 * t ≤ L → Iv L W0 t S h → ajEv (d + 61) 263 23 [.ref 1100, .ref 1, .ref 320, .ref 342, .int (nI (6 * t)), u5, u6] [] h Q := by
  intro n
  induction n with
  | zero =>
    intro t S h u5 u6 hn ht iv
    obtain ⟨hs, ci, mi, vd, hQ, hX, hW⟩ := id iv
    refine W263_23 hs ?_
    rw [if_pos (lp_end hL hQ (by omega))]
    exact HQ h hs.1 (by omega) (by omega)
  | succ n ih =>
    intro t S h u5 u6 hn ht iv
    obtain ⟨hs, ci, mi, vd, hQ, hX, hW⟩ := id iv
    refine W263_23 hs ?_
    by_cases y : L < 6 * t + 6
    · rw [if_pos (lp_end hL hQ y)]
      exact HQ h hs.1 (by omega) (by omega)
    · have ht6 : 6 * t + 6 ≤ L := by omega
      rw [if_neg (lp_go hL hQ ht6)]
      refine ⟨by rw [show ajLen h 1100 = ajQ h from rfl, hQ, sr_in (by omega)]; omega, ?_⟩
      have nx : Nx L W0 t d Q := by
        intro S' h' u5 u6 iv'
        refine W263_1481 iv'.1 ?_
        rw [sl_6, sr_add]
        exact ih (t + 1) S' h' _ _ (by omega) (by omega) iv'
      generalize (ajI h 1100 (nI (6 * t)).toNatClampNeg) &&& (63 : Int32) = w
      by_cases e0 : w = Int32.ofInt 0
      · rw [if_pos e0]
        exact LW_208 hL ht6 iv nx
      rw [if_neg e0]
      by_cases e1 : w = Int32.ofInt 1
      · rw [if_pos e1]
        exact LW_281 hL ht6 iv nx
      rw [if_neg e1]
      by_cases e2 : w = Int32.ofInt 2
      · rw [if_pos e2]
        exact LW_306 hL ht6 iv nx
      rw [if_neg e2]
      by_cases e3 : w = Int32.ofInt 3
      · rw [if_pos e3]
        exact LW_331 hL ht6 iv nx
      rw [if_neg e3]
      by_cases e4 : w = Int32.ofInt 4
      · rw [if_pos e4]
        exact LW_356 hL ht6 iv nx
      rw [if_neg e4]
      by_cases e5 : w = Int32.ofInt 5
      · rw [if_pos e5]
        exact LW_424 hL ht6 iv nx
      rw [if_neg e5]
      by_cases e6 : w = Int32.ofInt 6
      · rw [if_pos e6]
        exact LW_449 hL ht6 iv nx
      rw [if_neg e6]
      by_cases e7 : w = Int32.ofInt 7
      · rw [if_pos e7]
        exact LW_474 hL ht6 iv nx
      rw [if_neg e7]
      by_cases e8 : w = Int32.ofInt 8
      · rw [if_pos e8]
        exact LW_487 hL ht6 iv nx
      rw [if_neg e8]
      by_cases e9 : w = Int32.ofInt 9
      · rw [if_pos e9]
        exact LW_500 hL ht6 iv nx
      rw [if_neg e9]
      by_cases e10 : w = Int32.ofInt 10
      · rw [if_pos e10]
        exact LW_525 hL ht6 iv nx
      rw [if_neg e10]
      by_cases e11 : w = Int32.ofInt 11
      · rw [if_pos e11]
        exact LW_550 hL ht6 iv nx
      rw [if_neg e11]
      by_cases e12 : w = Int32.ofInt 12
      · rw [if_pos e12]
        exact LW_591 hL ht6 iv nx
      rw [if_neg e12]
      by_cases e13 : w = Int32.ofInt 13
      · rw [if_pos e13]
        exact LW_616 hL ht6 iv nx
      rw [if_neg e13]
      by_cases e14 : w = Int32.ofInt 14
      · rw [if_pos e14]
        exact LW_641 hL ht6 iv nx
      rw [if_neg e14]
      by_cases e15 : w = Int32.ofInt 15
      · rw [if_pos e15]
        exact LW_710 hL ht6 iv nx
      rw [if_neg e15]
      by_cases e16 : w = Int32.ofInt 16
      · rw [if_pos e16]
        exact LW_723 hL ht6 iv nx
      rw [if_neg e16]
      by_cases e17 : w = Int32.ofInt 17
      · rw [if_pos e17]
        exact LW_760 hL ht6 iv nx
      rw [if_neg e17]
      by_cases e18 : w = Int32.ofInt 18
      · rw [if_pos e18]
        exact LW_809 hL ht6 iv nx
      rw [if_neg e18]
      by_cases e19 : w = Int32.ofInt 19
      · rw [if_pos e19]
        exact LW_846 hL ht6 iv nx
      rw [if_neg e19]
      by_cases e20 : w = Int32.ofInt 20
      · rw [if_pos e20]
        exact LW_871 hL ht6 iv nx
      rw [if_neg e20]
      by_cases e21 : w = Int32.ofInt 21
      · rw [if_pos e21]
        exact LW_908 hL ht6 iv nx
      rw [if_neg e21]
      by_cases e22 : w = Int32.ofInt 22
      · rw [if_pos e22]
        exact LW_921 hL ht6 iv nx
      rw [if_neg e22]
      by_cases e23 : w = Int32.ofInt 23
      · rw [if_pos e23]
        exact LW_970 hL ht6 iv nx
      rw [if_neg e23]
      by_cases e24 : w = Int32.ofInt 24
      · rw [if_pos e24]
        exact LW_995 hL ht6 iv nx
      rw [if_neg e24]
      by_cases e25 : w = Int32.ofInt 25
      · rw [if_pos e25]
        exact LW_1048 hL ht6 iv nx
      rw [if_neg e25]
      by_cases e26 : w = Int32.ofInt 26
      · rw [if_pos e26]
        exact LW_1085 hL ht6 iv nx
      rw [if_neg e26]
      by_cases e27 : w = Int32.ofInt 27
      · rw [if_pos e27]
        exact LW_1110 hL ht6 iv nx
      rw [if_neg e27]
      by_cases e28 : w = Int32.ofInt 28
      · rw [if_pos e28]
        exact LW_1135 hL ht6 iv nx
      rw [if_neg e28]
      by_cases e29 : w = Int32.ofInt 29
      · rw [if_pos e29]
        exact LW_1172 hL ht6 iv nx
      rw [if_neg e29]
      by_cases e30 : w = Int32.ofInt 30
      · rw [if_pos e30]
        exact LW_1197 hL ht6 iv nx
      rw [if_neg e30]
      by_cases e31 : w = Int32.ofInt 31
      · rw [if_pos e31]
        exact LW_1270 hL ht6 iv nx
      rw [if_neg e31]
      by_cases e32 : w = Int32.ofInt 32
      · rw [if_pos e32]
        exact LW_1319 hL ht6 iv nx
      rw [if_neg e32]
      by_cases e33 : w = Int32.ofInt 33
      · rw [if_pos e33]
        exact LW_1368 hL ht6 iv nx
      rw [if_neg e33]
      by_cases e34 : w = Int32.ofInt 34
      · rw [if_pos e34]
        exact LW_1405 hL ht6 iv nx
      rw [if_neg e34]
      by_cases e35 : w = Int32.ofInt 35
      · rw [if_pos e35]
        exact LW_1430 hL ht6 iv nx
      rw [if_neg e35]
      by_cases e36 : w = Int32.ofInt 36
      · rw [if_pos e36]
        exact LW_1443 hL ht6 iv nx
      rw [if_neg e36]
      by_cases e37 : w = Int32.ofInt 37
      · rw [if_pos e37]
        exact LW_1456 hL ht6 iv nx
      rw [if_neg e37]
      exact nx S h _ _ ⟨hs, ci, mi, vd, hQ, by omega, by omega⟩
