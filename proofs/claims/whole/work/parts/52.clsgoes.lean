/-! The class passes. -/
def PCp (q o j : Nat) : Prop := o = q ∧ (j < 8 ∨ 13 ≤ j) ∨ o = q + 1 ∨ o = q + 3 ∨ o = q + 4 ∨ PLw o
theorem mk_cg {p r : Nat → Bool} {n : Nat} {x : Int32} (e : x = mk p n) (c : ∀ k, k < n → p k = r k) : x = mk r n := e.trans (mk_congr n c)
theorem CS_fall {h h' : ajH} {q n : Nat} {R : Nat → Int32} {p : Nat → Bool} (n8 : n ≤ 8) (c : CS h q n R) (e0 : ajI h' q 0 = ajI h q 0 &&& (mk p n ^^^ -1)) (e1 : ajI h' q 1 = ajI h q 1 ||| mk p n) (eo : ∀ j, 2 ≤ j → j < 8 → ajI h' q j = ajI h q j) (ev : ∀ k, k < n → ajI h' (q + 1) k = ajI h (q + 1) k) : CS h' q n (iFall (mk p n) R) := by
  obtain ⟨⟨c0, c1, c2, c3, c4, c5, c6, c7⟩, c8⟩ := c
  have hp : ∀ k, k < n → hb (mk p n) k = p k := fun k hk => by
    rw [hb_mk _ _ (by omega) k (by omega), decide_eq_true hk]; rfl
  have od : ∀ k, k < n → iFall (mk p n) R (2 * k + 1) = if p k = true then 2 else R (2 * k + 1) := fun k hk => by
    unfold iFall
    rw [show (2 * k + 1) / 2 = k by omega, hp k hk]
    by_cases e : p k = true
    · rw [if_pos ⟨by omega, by omega, e⟩, if_pos e]
    · rw [if_neg (fun z => e z.2.2), if_neg e]
  refine ⟨⟨?_, ?_, ?_, ?_, ?_, ?_, ?_, ?_⟩, fun k hk => ?_⟩
  · rw [e0, c0, mk_dif _ _ (by omega)]
    refine mk_congr n (fun k hk => ?_)
    unfold onB
    rw [od k hk]
    cases e : p k with
    | true => rw [if_pos rfl]; simp
    | false => rw [if_neg (by decide)]; simp
  · rw [e1, c1, mk_or _ _ (by omega)]
    refine mk_congr n (fun k hk => ?_)
    unfold brB
    rw [od k hk]
    cases e : p k with
    | true => rw [if_pos rfl]; simp
    | false => rw [if_neg (by decide)]; simp
  · rw [eo _ (by omega) (by omega), c2, iFall_e _ _ (by omega)]
  · rw [eo _ (by omega) (by omega), c3, iFall_e _ _ (by omega)]
  · rw [eo _ (by omega) (by omega), c4, iFall_e _ _ (by omega)]
  · rw [eo _ (by omega) (by omega), c5, iFall_e _ _ (by omega)]
  · rw [eo _ (by omega) (by omega), c6, iFall_e _ _ (by omega)]
  · rw [eo _ (by omega) (by omega), c7, iFall_e _ _ (by omega)]
  · rw [ev k hk, c8 k hk, iFall_e _ _ (by omega)]
theorem CS_talk {h h' : ajH} {q : Nat} {E : EV} {R : Nat → Int32} (n8 : eN E ≤ 8) (c : CS h q (eN E) R) (up : onB R (bN R) = true) (eo : ∀ j, j < 8 → ajI h' q j = ajI h q j) (ev : ∀ k, k < eN E → ajI h' (q + 1) k = iNv E R k) : CS h' q (eN E) (iTalk E R) := by
  obtain ⟨⟨c0, c1, c2, c3, c4, c5, c6, c7⟩, c8⟩ := c
  refine ⟨⟨?_, ?_, ?_, ?_, ?_, ?_, ?_, ?_⟩, fun k hk => ?_⟩
  · rw [eo _ (by omega)]
    exact mk_cg c0 (fun k hk => by unfold onB; rw [iTalk_e _ _ (by omega)])
  · rw [eo _ (by omega)]
    exact mk_cg c1 (fun k hk => by unfold brB; rw [iTalk_e _ _ (by omega)])
  · rw [eo _ (by omega), c2, iTalk_e _ _ (by omega)]
  · rw [eo _ (by omega), c3, iTalk_e _ _ (by omega)]
  · rw [eo _ (by omega), c4, iTalk_e _ _ (by omega)]
  · rw [eo _ (by omega), c5, iTalk_e _ _ (by omega)]
  · rw [eo _ (by omega), c6, iTalk_e _ _ (by omega)]
  · rw [eo _ (by omega), c7, iTalk_e _ _ (by omega)]
  · rw [ev k hk]
    unfold iTalk
    rw [if_pos up, if_pos (by omega), show 2 * k / 2 = k by omega]
theorem CS_end {h h' : ajH} {q n : Nat} {R : Nat → Int32} {x : Int32} (n8 : n ≤ 8) (c : CS h q n R) (eo : ∀ j, j < 4 ∨ j = 7 → ajI h' q j = ajI h q j) (e4 : ajI h' q 4 = iEnd x R 20) (e5 : ajI h' q 5 = iEnd x R 21) (e6 : ajI h' q 6 = iEnd x R 19) (ev : ∀ k, k < n → ajI h' (q + 1) k = ajI h (q + 1) k) : CS h' q n (iEnd x R) := by
  obtain ⟨⟨c0, c1, c2, c3, c4, c5, c6, c7⟩, c8⟩ := c
  refine ⟨⟨?_, ?_, ?_, ?_, e4, e5, e6, ?_⟩, fun k hk => ?_⟩
  · rw [eo _ (by omega)]
    exact mk_cg c0 (fun k hk => by unfold onB; rw [iEnd_e _ _ (by omega)])
  · rw [eo _ (by omega)]
    exact mk_cg c1 (fun k hk => by unfold brB; rw [iEnd_e _ _ (by omega)])
  · rw [eo _ (by omega), c2, iEnd_e _ _ (by omega)]
  · rw [eo _ (by omega), c3, iEnd_e _ _ (by omega)]
  · rw [eo _ (by omega), c7, iEnd_e _ _ (by omega)]
  · rw [ev k hk, c8 k hk, iEnd_e _ _ (by omega)]
theorem CS_go {h h' : ajH} {q n : Nat} {R : Nat → Int32} (n8 : n ≤ 8) (c : CS h q n R) (eo : ∀ j, j < 8 → ¬ j = 2 → ajI h' q j = ajI h q j) (e2 : ajI h' q 2 = nI ((bN R + 1) % n)) (ev : ∀ k, k < n → ajI h' (q + 1) k = ajI h (q + 1) k) : CS h' q n (iGo n R) := by
  obtain ⟨⟨c0, c1, c2, c3, c4, c5, c6, c7⟩, c8⟩ := c
  have en : ∀ j, ¬ j = 16 → iGo n R j = R j := fun j hj => upR_n _ _ hj
  refine ⟨⟨?_, ?_, ?_, ?_, ?_, ?_, ?_, ?_⟩, fun k hk => ?_⟩
  · rw [eo _ (by omega) (by omega)]
    exact mk_cg c0 (fun k hk => by unfold onB; rw [en _ (by omega)])
  · rw [eo _ (by omega) (by omega)]
    exact mk_cg c1 (fun k hk => by unfold brB; rw [en _ (by omega)])
  · rw [e2]; rfl
  · rw [eo _ (by omega) (by omega), c3, en _ (by omega)]
  · rw [eo _ (by omega) (by omega), c4, en _ (by omega)]
  · rw [eo _ (by omega) (by omega), c5, en _ (by omega)]
  · rw [eo _ (by omega) (by omega), c6, en _ (by omega)]
  · rw [eo _ (by omega) (by omega), c7, en _ (by omega)]
  · rw [ev k hk, c8 k hk, en _ (by omega)]
theorem dnF_b (n : Nat) (R : Nat → Int32) : dnF n R = 0 ∨ dnF n R = 1 := by
  unfold dnF
  split
  · split
    · exact Or.inl rfl
    · exact Or.inr rfl
  · split
    · split
      · exact Or.inl rfl
      · exact Or.inr rfl
    · exact Or.inl rfl
theorem S65_55 {d q v n T : Nat} {R : Nat → Int32} {h : ajH} {Q : Option Value → ajH → Prop} {u1 u3 : Value} (hq : sQ q) (hv : wQ v) (n8 : n ≤ 8) (hs : ajShp h) (en : ajI h v 0 = nI n) (cs : CS h q n R) (rv : RV n T R)
    (H : ∀ h', FR h h' (fun o j => o = q ∧ (j = 4 ∨ j = 5 ∨ j = 6 ∨ j = 14)) → CS h' q n (iEnd (dnF n R) R) → ajI h' q 14 = dnF n R → Q none h') : ajEv (d + 3) 65 55 [.ref q, u1, .ref v, u3] [] h Q := by
  have hq2 := hq.2
  refine W65_55 hs hq.1 hv.1 ?_
  rw [en]
  refine S78 hq n8 hs cs rv ?_
  intro s1
  refine ⟨_, rfl, dnF_b n R, ?_⟩
  have hd := dnF_b n R
  generalize dnF n R = x at hd H ⊢
  rintro _ rfl _ rfl
  obtain ⟨c0, c1, c2, c3, c4, c5, c6, c7⟩ := cs.1
  have f2 : FR h (ajSI (ajSI h q 14 x) q 5 (ajI (ajSI h q 14 x) q 5 + 1)) (fun o j => o = q ∧ (j = 4 ∨ j = 5 ∨ j = 6 ∨ j = 14)) := FR_trans (FR_SI h ⟨rfl, by omega⟩) (FR_SI _ ⟨rfl, by omega⟩)
  have e14 : ajI (ajSI (ajSI h q 14 x) q 5 (ajI (ajSI h q 14 x) q 5 + 1)) q 14 = x := by
    rw [ajI_SI, if_neg (by omega), ajI_SI, if_pos ⟨rfl, rfl⟩]
  have e5 : ajI (ajSI (ajSI h q 14 x) q 5 (ajI (ajSI h q 14 x) q 5 + 1)) q 5 = R 21 + 1 := by
    rw [ajI_SI, if_pos ⟨rfl, rfl⟩, ajI_SI, if_neg (by omega), c5]
  have e4 : ajI (ajSI (ajSI h q 14 x) q 5 (ajI (ajSI h q 14 x) q 5 + 1)) q 4 = R 20 := by
    rw [ajI_SI, if_neg (by omega), ajI_SI, if_neg (by omega), c4]
  have e6 : ajI (ajSI (ajSI h q 14 x) q 5 (ajI (ajSI h q 14 x) q 5 + 1)) q 6 = R 19 := by
    rw [ajI_SI, if_neg (by omega), ajI_SI, if_neg (by omega), c6]
  generalize ajSI (ajSI h q 14 x) q 5 (ajI (ajSI h q 14 x) q 5 + 1) = h2 at f2 e14 e5 e4 e6 ⊢
  rw [e14]
  by_cases ex : x = 0
  · rw [if_pos ex]
    refine H h2 f2 (CS_end n8 cs (fun j hj => FR_I f2 (by omega)) ?_ ?_ ?_ (fun k hk => FR_I f2 (by omega))) e14
    · rw [e4]; unfold iEnd; rw [if_pos ex, upR_n _ _ (by omega)]
    · rw [e5]; unfold iEnd; rw [upR_s]
    · rw [e6]; unfold iEnd; rw [if_pos ex, upR_n _ _ (by omega)]
  · rw [if_neg ex]
    rintro _ rfl _ rfl
    have f3 : FR h (ajSI (ajSI h2 q 6 (ajI h2 q 6 + 1)) q 4 (if (ajI (ajSI h2 q 6 (ajI h2 q 6 + 1)) q 4) + 1 < 999 then (ajI (ajSI h2 q 6 (ajI h2 q 6 + 1)) q 4) + 1 else 999)) (fun o j => o = q ∧ (j = 4 ∨ j = 5 ∨ j = 6 ∨ j = 14)) := FR_trans (FR_trans f2 (FR_SI h2 ⟨rfl, by omega⟩)) (FR_SI _ ⟨rfl, by omega⟩)
    refine H _ f3 (CS_end n8 cs (fun j hj => FR_I f3 (by omega)) ?_ ?_ ?_ (fun k hk => FR_I f3 (by omega))) ?_
    · have e46 : ajI (ajSI h2 q 6 (ajI h2 q 6 + 1)) q 4 = R 20 := by
        rw [ajI_SI, if_neg (by omega)]; exact e4
      rw [ajI_SI, if_pos ⟨rfl, rfl⟩, e46]; unfold iEnd; rw [if_neg ex, upR_n _ _ (by omega), upR_s]
    · rw [ajI_SI, if_neg (by omega), ajI_SI, if_neg (by omega), e5]; unfold iEnd; rw [upR_s]
    · rw [ajI_SI, if_neg (by omega), ajI_SI, if_pos ⟨rfl, rfl⟩, e6]; unfold iEnd; rw [if_neg ex, upR_n _ _ (by omega), upR_n _ _ (by omega), upR_s]
    · rw [ajI_SI, if_neg (by omega), ajI_SI, if_neg (by omega)]; exact e14
theorem ov_mk (E : EV) (m : Int32) (b : Nat) : ov E m b = mk (fun k => hb m k && decide (eS E k < br E m b k)) (eN E) := rfl
theorem S65_16 {E : EV} {d q v v2 m T : Nat} {TB : Nat → Nat → Nat} {TL : Nat → Nat} {R : Nat → Int32} {h : ajH} {Q : Option Value → ajH → Prop} {u1 : Value} (hq : sQ q) (hv : wQ v) (rv : RV (eN E) T R) (eo : EVok E) (g : EVg E) (hs : ajShp h) (ce : CE h v E) (cl : CLv h v2 m TB TL E) (cs : CS h q (eN E) R)
    (H : ∀ h', FR h h' (PCp q) → CS h' q (eN E) (iPl E R) → ajI h' q 13 = bmO E R → ajI h' q 14 = iDone E R → ajI h' q 15 = iChg E R → Q none h') : ajEv (d + 4) 65 16 [.ref q, u1, .ref v, .ref v2] [] h Q := by
  have n8 := ce.2.2.1
  have hb2 := rv.1.2
  have hq2 := hq.2
  have hv2 := hv.2
  obtain ⟨c0, c1, c2, c3, c4, c5, c6, c7⟩ := cs.1
  refine W65_16 hs hq.1 hv.1 ?_
  rw [c0, c2, rv.1.1]
  refine S67 hq.1 hv.1 (by omega) hs ce hb2 ?_
  intro h1 f1 _ s1
  refine ⟨_, rfl, ?_⟩
  have ebm : bmO E R = ov E (mk (onB R) (eN E)) (bN R) := rfl
  rw [← ebm]
  have emk : bmO E R = mk (fun k => hb (mk (onB R) (eN E)) k && decide (eS E k < br E (mk (onB R) (eN E)) (bN R) k)) (eN E) := rfl
  have cs1 := CS_FR cs f1 (fun j hj => by omega) (fun j => by omega)
  refine W71_0 s1 hq.1 ?_
  rintro _ rfl _ rfl _ rfl
  intro s2
  refine ⟨rfl, ?_⟩
  rintro _ rfl
  generalize eh : ajSI (ajSI (ajSI (ajSI h1 q 13 (bmO E R)) q 0 (ajI (ajSI h1 q 13 (bmO E R)) q 0 &&& (bmO E R ^^^ -1))) q 1 (ajI (ajSI (ajSI h1 q 13 (bmO E R)) q 0 (ajI (ajSI h1 q 13 (bmO E R)) q 0 &&& (bmO E R ^^^ -1))) q 1 ||| bmO E R)) q 15 0 = h2
  have f2 : FR h1 h2 (fun o j => o = q ∧ (j = 0 ∨ j = 1 ∨ j = 13 ∨ j = 15)) := by
    subst eh
    exact FR_trans (FR_trans (FR_trans (FR_SI h1 ⟨rfl, by omega⟩) (FR_SI _ ⟨rfl, by omega⟩)) (FR_SI _ ⟨rfl, by omega⟩)) (FR_SI _ ⟨rfl, by omega⟩)
  have e13 : ajI h2 q 13 = bmO E R := by
    subst eh
    rw [ajI_SI, if_neg (by omega), ajI_SI, if_neg (by omega), ajI_SI, if_neg (by omega), ajI_SI, if_pos ⟨rfl, rfl⟩]
  have e15 : ajI h2 q 15 = 0 := by
    subst eh
    rw [ajI_SI, if_pos ⟨rfl, rfl⟩]
  have e0 : ajI h2 q 0 = ajI h1 q 0 &&& (bmO E R ^^^ -1) := by
    subst eh
    rw [ajI_SI, if_neg (by omega), ajI_SI, if_neg (by omega), ajI_SI, if_pos ⟨rfl, rfl⟩, ajI_SI, if_neg (by omega)]
  have e1 : ajI h2 q 1 = ajI h1 q 1 ||| bmO E R := by
    subst eh
    rw [ajI_SI, if_neg (by omega), ajI_SI, if_pos ⟨rfl, rfl⟩, ajI_SI, if_neg (by omega), ajI_SI, if_neg (by omega)]
  have s2' : ajShp h2 := by subst eh; exact s1
  clear eh
  have cs2 : CS h2 q (eN E) (iFall (bmO E R) R) := by
    rw [emk] at e0 e1 ⊢
    exact CS_fall n8 cs1 e0 e1 (fun j h2 h8 => FR_I f2 (by omega)) (fun k hk => FR_I f2 (by omega))
  have f02 : FR h h2 (PCp q) := FR_trans (FR_mono f1 (fun o j z => by unfold PCp; omega)) (FR_mono f2 (fun o j z => by unfold PCp; omega))
  have ce2 := CE_FR (CE_FR ce f1 (by omega) (fun j => by omega)) f2 (by omega) (fun j => by omega)
  have cl2 := CLv_FR (CLv_FR cl f1 (fun o j z => Or.inr (by omega))) f2 (fun o j z => Or.inr (by omega))
  have rvF := RV_fall (bmO E R) rv n8
  have eC : iChg E R = chg E (iFall (bmO E R) R) := rfl
  have eD : iDone E R = dnF (eN E) (iTalk E (iFall (bmO E R) R)) := rfl
  have eP : iPl E R = iEnd (dnF (eN E) (iTalk E (iFall (bmO E R) R))) (iTalk E (iFall (bmO E R) R)) := rfl
  generalize iFall (bmO E R) R = RF at cs2 rvF eC eD eP
  have hbF := rvF.1.2
  rw [cs2.1.2.2.1, rvF.1.1]
  refine S72c hq.1 s2' cs2 n8 hbF ?_
  intro s3
  refine ⟨_, rfl, ?_⟩
  cases up : onB RF (bN RF) with
  | false =>
    rw [if_pos (show flg false = 0 from rfl)]
    have eTT : iTalk E RF = RF := by unfold iTalk; rw [up]; rfl
    rw [eTT] at eD eP
    refine S65_55 (d := d + 1) hq hv n8 s3 ce2.1 cs2 rvF (fun h' f cs' e14 => ?_)
    refine H h' (FR_trans f02 (FR_mono f (fun o j z => by unfold PCp; omega))) (by rw [eP]; exact cs') ((FR_I f (by omega)).trans e13) (by rw [eD]; exact e14) ?_
    rw [eC, FR_I f (by omega), e15]
    unfold chg; rw [up]; rfl
  | true =>
    rw [if_neg (by decide)]
    refine S73 (d := d) hq hv rvF s3 ce2 cl2 cs2 e15 ?_
    intro h4 f4 vw4 ch4 s4
    refine ⟨rfl, ?_⟩
    have cs4 : CS h4 q (eN E) (iTalk E RF) := CS_talk n8 cs2 up (fun j hj => FR_I f4 (by unfold PCf PLw; omega)) vw4
    have en4 : ajI h4 v 0 = nI (eN E) := (FR_I f4 (by unfold PCf PLw; omega)).trans ce2.1
    refine S65_55 (d := d + 1) hq hv n8 s4 en4 cs4 (RV_talk g eo rvF n8) (fun h' f cs' e14 => ?_)
    refine H h' (FR_trans (FR_trans f02 (FR_mono f4 (fun o j z => by unfold PCf at z; unfold PCp; rcases z with z | z | z | z; exact Or.inr (Or.inr (Or.inr (Or.inl z))); exact Or.inr (Or.inr (Or.inr (Or.inr z))); exact Or.inr (Or.inl z); exact Or.inl ⟨z.1, by omega⟩))) (FR_mono f (fun o j z => by unfold PCp; omega))) (by rw [eP]; exact cs') ((FR_I f (by omega)).trans ((FR_I f4 (by unfold PCf PLw; omega)).trans e13)) (by rw [eD]; exact e14) ?_
    rw [eC, FR_I f (by omega), ch4]
    unfold chg; rw [if_pos up]
theorem S65 {E : EV} {d q v v2 m T : Nat} {TB : Nat → Nat → Nat} {TL : Nat → Nat} {R : Nat → Int32} {h : ajH} {Q : Option Value → ajH → Prop} {s : Bool} (hq : sQ q) (hv : wQ v) (rv : RV (eN E) T R) (eo : EVok E) (g : EVg E) (hs : ajShp h) (ce : CE h v E) (cl : CLv h v2 m TB TL E) (cs : CS h q (eN E) R)
    (H : ∀ h', FR h h' (PCp q) → CS h' q (eN E) (iPl E (iTurn E s R)) → ajI h' q 13 = bmO E (iTurn E s R) → ajI h' q 14 = iDone E (iTurn E s R) → ajI h' q 15 = iChg E (iTurn E s R) → Q none h') : ajEv (d + 4) 65 0 [.ref q, .int (flg s), .ref v, .ref v2] [] h Q := by
  have n8 := ce.2.2.1
  have hb2 := rv.1.2
  have hq2 := hq.2
  have hv2 := hv.2
  refine W65_0 hs hq.1 hv.1 ?_
  cases s with
  | true =>
    rw [if_pos (by decide)]
    exact S65_16 hq hv rv eo g hs ce cl cs H
  | false =>
    rw [if_neg (by decide), cs.1.2.2.1, rv.1.1]
    refine S66 hs hv.1 ce.1 n8 hb2 ?_
    intro s1
    refine ⟨_, rfl, ?_⟩
    rintro _ rfl
    have f1 : FR h (ajSI h q 2 (nI ((bN R + 1) % eN E))) (fun o j => o = q ∧ j = 2) := FR_SI h ⟨rfl, rfl⟩
    refine S65_16 (R := iTurn E false R) hq hv (RV_turn false rv n8) eo g hs (CE_FR ce f1 (by omega) (fun j => by omega)) (CLv_FR cl f1 (fun o j z => Or.inr (by omega))) (CS_go n8 cs (fun j h8 h2 => FR_I f1 (by omega)) (by rw [ajI_SI, if_pos ⟨rfl, rfl⟩]) (fun k hk => FR_I f1 (by omega))) (fun h' f => H h' (FR_trans (FR_mono f1 (fun o j z => by unfold PCp; omega)) f))
