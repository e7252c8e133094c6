/-! Shares, the reference. -/
theorem S240_32 {S : GS} {d i : Nat} {v2 : Int32} {h : ajH} {Q : Option Value → ajH → Prop} (hs : ajShp h) (c : MI S h) (vd : GVd S) (hi : i < gz S) (H : Q (some (.int (if onB (gX S).1 i = true ∧ 0 < shS S (gz S) then (v2 * nI (gFO S i 0)) / nI (shS S (gz S)) else 0))) h) :
    ∀ (f j : Nat), j + f = gz S → ajEv (d + 1) 240 32 [.ref 320, .int (nI i), .int v2, .int (nI (shS S j)), .int (nI j)] [] h Q := by
  have z8 := vd.z8
  have me := MI_ME c.2.1 vd (by omega)
  have rw' := (mX0 c.2.2.2.1).1
  intro f
  induction f with
  | zero =>
    intro j hj
    have e : j = gz S := by omega
    subst e
    have l := shS_lt vd (gz S) (by omega)
    refine W240_32 hs ?_
    rw [c.2.1.1, if_pos (by rw [sr_le (by omega) (by omega)]; omega)]
    by_cases y : 0 < shS S (gz S)
    · rw [if_neg (nI_ne0 y (by omega))]
      refine S193 (Or.inl rfl) hs rw' (by omega) ?_
      intro s1
      refine ⟨_, rfl, ?_⟩
      cases e1 : onB (gX S).1 i with
      | false =>
        rw [if_neg (show ¬ ¬ flg false = 0 from fun z => z rfl)]
        rw [e1, if_neg (fun z => by cases z.1)] at H
        exact H
      | true =>
        rw [if_pos (by decide)]
        refine S192 (E := gE S) s1 me hi ?_
        intro s2
        refine ⟨_, rfl, ?_⟩
        rw [if_pos ⟨e1, y⟩] at H
        exact ⟨nI_ne0 y (by omega), H⟩
    · have e0 : shS S (gz S) = 0 := by omega
      rw [e0, if_pos (show nI 0 = 0 from rfl)]
      rw [if_neg (fun z => y z.2)] at H
      exact H
  | succ f ih =>
    intro j hj
    refine W240_32 hs ?_
    rw [c.2.1.1, if_neg (by rw [sr_le (by omega) (by omega)]; omega), nI_1]
    refine S193 (Or.inl rfl) hs rw' (by omega) ?_
    intro s1
    refine ⟨_, rfl, ?_⟩
    have es : shS S (j + 1) = if onB (gX S).1 j = true then shS S j + gFO S j 0 else shS S j := rfl
    cases e1 : onB (gX S).1 j with
    | false =>
      rw [if_pos (show flg false = 0 from rfl), Int32.add_zero]
      rw [e1, if_neg (by decide)] at es
      rw [← es]
      exact ih (j + 1) (by omega)
    | true =>
      rw [if_neg (by decide)]
      refine S192 (E := gE S) (k := j) s1 me (show j < gz S by omega) ?_
      intro s2
      refine ⟨_, rfl, ?_⟩
      rw [if_pos e1] at es
      show ajEv (d + 1) 240 32 [.ref 320, .int (nI i), .int v2, .int (nI (shS S j) + nI (gFO S j 0)), .int (nI (j + 1))] [] h Q
      rw [sr_add, ← es]
      exact ih (j + 1) (by omega)
theorem S240 {S : GS} {d : Nat} {v1 v2 : Int32} {h : ajH} {Q : Option Value → ajH → Prop} (hs : ajShp h) (c : MI S h) (vd : GVd S) (H : ∀ h', FR h h' (fun o j => o = 320 ∧ j = 0) → MI S h' → Q (some (.int (aShares S v1 v2))) h') : ajEv (d + 1) 240 0 [.ref 320, .int v1, .int v2, ajU, ajU] [] h Q := by
  have z8 := vd.z8
  refine W240_0 hs ?_
  rintro _ rfl
  have c0 := MI_0 (x := 0) c
  have s0 : ajShp (ajSI h 320 0 0) := hs
  replace H := H _ (FR_SI h ⟨rfl, rfl⟩) c0
  generalize ajSI h 320 0 0 = h0 at c0 s0 H
  refine S179 s0 c0.2.1 ?_
  intro s1
  refine ⟨_, rfl, ?_⟩
  cases e1 : isp (gz S) v1 with
  | false =>
    rw [if_pos (show flg false = 0 from rfl)]
    exact sh_n H (by rw [e1]; rfl)
  | true =>
    rw [if_neg (by decide)]
    obtain ⟨i, hi, rfl⟩ := isp_k z8 e1
    refine S145 (lo := 0) (hi := 999) s1 ?_
    intro s2
    refine ⟨_, rfl, ?_⟩
    by_cases y1 : v2 < 0
    · rw [if_pos y1, if_neg (show ¬ ¬ (0 : Int32) = 0 from fun z => z rfl)]
      exact sh_n H (by rw [decide_eq_true y1]; simp)
    · rw [if_neg y1]
      by_cases y2 : 999 < v2
      · rw [if_pos y2, if_neg (show ¬ ¬ (0 : Int32) = 0 from fun z => z rfl)]
        exact sh_n H (by rw [decide_eq_false (fa_nle y2)]; simp)
      · rw [if_neg y2, if_pos (by decide)]
        unfold aShares at H
        rw [e1, decide_eq_false y1, decide_eq_true (fa_nlt y2), if_pos (show (true && !false && true) = true from rfl), sr_N (by omega)] at H
        exact S240_32 s2 c0 vd hi H (gz S) 0 (by omega)
