/-! Where a text goes wrong, on both sides. -/
noncomputable def txOK (T : TP) (o : Nat) : Bool := if o = 0 then (rWh T.1 T.2).1 else if o = 1 then pOk (pLaw T.1 T.2 240 0 0) else (rJ T.1 T.2).1
noncomputable def txAt (T : TP) (o : Nat) : Nat := if o = 0 then (rWh T.1 T.2).2.1 else if o = 1 then pAt (pLaw T.1 T.2 240 0 0) else (rJ T.1 T.2).2.1
noncomputable def aFault (S : GS) (v : Int32) : Int32 := if isp 3 v = true then (if txOK (gT S) v.toNatClampNeg = true then -1 else nI (txAt (gT S) v.toNatClampNeg)) else -2
def PTx (o j : Nat) : Prop := PWh 10 o j ∨ P3 o j ∨ PJ o j
/-- what stands behind a text that was read -/
def txPost (T : TP) (o : Nat) (h h' : ajH) : Prop := (o = 0 → wPost 10 (rWh T.1 T.2) h h') ∧ (o = 1 → cPost [] (pLaw T.1 T.2 240 0 0) h h') ∧ (o = 2 → jPost (rJ T.1 T.2) h h')
theorem tx_at {T : TP} {o : Nat} {h h' : ajH} (ho : o < 3) (p : txPost T o h h') (e : txOK T o = false) : ajI h' 2 3 = nI (txAt T o) := by
  unfold txOK at e
  unfold txAt
  have : o = 0 ∨ o = 1 ∨ o = 2 := by omega
  rcases this with rfl | rfl | rfl
  · rw [if_pos rfl] at e
    rw [if_pos rfl]
    exact (p.1 rfl).2.2 e
  · rw [if_neg (by decide), if_pos rfl] at e
    rw [if_neg (by decide), if_pos rfl]
    exact (p.2.1 rfl).2.2 e
  · rw [if_neg (by decide), if_neg (by decide)] at e
    rw [if_neg (by decide), if_neg (by decide)]
    exact (p.2.2 rfl).2.2 e
theorem S15 {S : GS} {d o : Nat} {h : ajH} {Q : Option Value → ajH → Prop} (ho : o < 3) (hs : ajShp h) (c : CI S h)
    (H : ∀ h', FR h h' PTx → txPost (gT S) o h h' → Q (some (.int (flg (txOK (gT S) o)))) h') : ajEv (d + 41) 15 0 [.ref 1, .int (nI o)] [] h Q := by
  obtain ⟨tc, sc, sa⟩ := c.1
  refine W15_0 hs ?_
  unfold txOK at H
  have : o = 0 ∨ o = 1 ∨ o = 2 := by omega
  rcases this with rfl | rfl | rfl
  · rw [if_neg (show ¬ ¬ nI 0 = 0 from fun z => z rfl)]
    refine S16 (d := d + 35) (B := (gT S).1) (L := (gT S).2) (Or.inr rfl) hs tc sc sa ?_
    intro h1 p1 s1
    refine ⟨_, rfl, flg_b _, ?_⟩
    exact H h1 (FR_mono p1.1 (fun o j z => Or.inl z)) ⟨fun _ => p1, fun z => by omega, fun z => by omega⟩
  · rw [if_pos (by decide), if_neg (show ¬ ¬ nI 1 = 1 from fun z => z rfl)]
    refine S28 (d := d + 40) (B := (gT S).1) (L := (gT S).2) (by omega) hs tc sc ?_
    intro h1 p1 s1
    refine ⟨_, rfl, flg_b _, ?_⟩
    exact H h1 (FR_mono p1.1 (fun o j z => Or.inr (Or.inl z))) ⟨fun z => by omega, fun _ => p1, fun z => by omega⟩
  · rw [if_pos (by decide), if_pos (by decide)]
    refine S40 (d := d + 36) (B := (gT S).1) (L := (gT S).2) hs tc sc ?_
    intro h1 p1 s1
    refine ⟨_, rfl, flg_b _, ?_⟩
    exact H h1 (FR_mono p1.1 (fun o j z => Or.inr (Or.inr z))) ⟨fun z => by omega, fun z => by omega, fun _ => p1⟩
theorem S14 {S : GS} {d : Nat} {v : Int32} {h : ajH} {Q : Option Value → ajH → Prop} (hs : ajShp h) (c : CI S h)
    (H : ∀ h', FR h h' PTx → CI S h' → Q (some (.int (aFault S v))) h') : ajEv (d + 42) 14 0 [.ref 1, .int v] [] h Q := by
  refine W14_0 hs ?_
  unfold aFault at H
  by_cases y : v < 0
  · rw [if_pos y]
    have e : isp 3 v = false := by unfold isp; rw [if_pos y]
    rw [e, if_neg (by decide)] at H
    exact H h (FR_refl _ _) c
  · rw [if_neg y]
    obtain ⟨o, ho, rfl⟩ := sr_of y
    by_cases y2 : o ≤ 2
    · rw [if_pos (by rw [sl_2, sr_le (by omega) (by omega)]; exact y2)]
      have e : isp 3 (nI o) = true := by unfold isp; rw [if_neg y, if_neg (by rw [sr_le (by omega) (by omega)]; omega)]
      rw [e, if_pos rfl, sr_N (by omega)] at H
      refine S15 (by omega) hs c ?_
      intro h1 f1 p1 s1
      refine ⟨_, rfl, ?_⟩
      have c1 : CI S h1 := CI_FR c f1 (fun o j z => by unfold PTx PWh P3 PJ at z; unfold b1 b2 b3 b4 b5 b6 b7 PLw; omega)
      have H2 := H h1 f1 c1
      cases e2 : txOK (gT S) o with
      | true =>
        rw [if_neg (by decide)]
        rw [e2, if_pos rfl] at H2
        exact H2
      | false =>
        rw [if_pos (show flg false = 0 from rfl), tx_at (by omega) p1 e2]
        rw [e2, if_neg (by decide)] at H2
        exact H2
    · rw [if_neg (by rw [sl_2, sr_le (by omega) (by omega)]; exact y2)]
      have e : isp 3 (nI o) = false := by unfold isp; rw [if_neg y, if_pos (by rw [sr_le (by omega) (by omega)]; omega)]
      rw [e, if_neg (by decide)] at H
      exact H h (FR_refl _ _) c
