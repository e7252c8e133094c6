/-! Shares, on both sides. -/
def shS (S : GS) : Nat → Nat
  | 0 => 0
  | k + 1 => if onB (gX S).1 k = true then shS S k + gFO S k 0 else shS S k
def aShares (S : GS) (v1 v2 : Int32) : Int32 := if (isp (gz S) v1 && !decide (v2 < 0) && decide (v2 ≤ 999)) = true then (if onB (gX S).1 v1.toNatClampNeg = true ∧ 0 < shS S (gz S) then (v2 * nI (gFO S v1.toNatClampNeg 0)) / nI (shS S (gz S)) else 0) else -1
theorem shS_lt {S : GS} (vd : GVd S) : ∀ n, n ≤ gz S → shS S n ≤ 100 * n := by
  intro n
  induction n with
  | zero => intro _; exact Nat.le_refl _
  | succ n ih =>
    intro h
    have i1 := ih (by omega)
    have f := (vd.fo n (by omega)).2.2
    show (if onB (gX S).1 n = true then shS S n + gFO S n 0 else shS S n) ≤ _
    split <;> omega
theorem sh_n {S : GS} {v1 v2 : Int32} {h : ajH} {Q : Option Value → ajH → Prop} (H : Q (some (.int (aShares S v1 v2))) h) (e : (isp (gz S) v1 && !decide (v2 < 0) && decide (v2 ≤ 999)) = false) : Q (some (.int (-1))) h := by
  unfold aShares at H
  rw [e, if_neg (by decide)] at H
  exact H
theorem S129_26 {S : GS} {d i : Nat} {v2 : Int32} {h : ajH} {Q : Option Value → ajH → Prop} (hs : ajShp h) (c : CI S h) (vd : GVd S) (hi : i < gz S) (H : Q (some (.int (if onB (gX S).1 i = true ∧ 0 < shS S (gz S) then (v2 * nI (gFO S i 0)) / nI (shS S (gz S)) else 0))) h) :
    ∀ (f j : Nat), j + f = gz S → ajEv (d + 1) 129 26 [.ref 1, .int (nI i), .int v2, .int (nI (shS S j)), .int (nI j)] [] h Q := by
  have z8 := vd.z8
  intro f
  induction f with
  | zero =>
    intro j hj
    have e : j = gz S := by omega
    subst e
    have l := shS_lt vd (gz S) (by omega)
    refine W129_26 hs ?_
    rw [c.2.1.1, if_pos (by rw [sr_le (by omega) (by omega)]; omega)]
    refine S72c (ajKc rfl) hs c.2.2.2.1.1 z8 hi ?_
    intro s1
    refine ⟨_, rfl, ?_⟩
    cases e1 : onB (gX S).1 i with
    | false =>
      rw [if_pos (show flg false = 0 from rfl)]
      rw [e1, if_neg (fun z => by cases z.1)] at H
      exact H
    | true =>
      rw [if_neg (by decide)]
      by_cases y : 0 < shS S (gz S)
      · rw [if_neg (by rw [sl_0, sr_le (by omega) (by omega)]; omega), sr_in (by omega), sr_N (by omega), (c.2.1.2.2 i hi).1]
        rw [if_pos ⟨e1, y⟩] at H
        exact ⟨by omega, nI_ne0 y (by omega), H⟩
      · rw [if_pos (by rw [sl_0, sr_le (by omega) (by omega)]; omega)]
        rw [if_neg (fun z => y z.2)] at H
        exact H
  | succ f ih =>
    intro j hj
    refine W129_26 hs ?_
    rw [c.2.1.1, if_neg (by rw [sr_le (by omega) (by omega)]; omega), nI_1]
    refine S72c (ajKc rfl) hs c.2.2.2.1.1 z8 (by omega) ?_
    intro s1
    refine ⟨_, rfl, ?_⟩
    have es : shS S (j + 1) = if onB (gX S).1 j = true then shS S j + gFO S j 0 else shS S j := rfl
    cases e1 : onB (gX S).1 j with
    | false =>
      rw [if_pos (show flg false = 0 from rfl), Int32.add_zero]
      rw [e1, if_neg (by decide)] at es
      rw [← es]
      exact ih (j + 1) (by omega)
    | true =>
      rw [if_neg (by decide), sr_in (by omega), sr_N (by omega), (c.2.1.2.2 j (by omega)).1, sr_add]
      rw [if_pos e1] at es
      rw [← es]
      exact ⟨by omega, ih (j + 1) (by omega)⟩
theorem S129 {S : GS} {d : Nat} {v1 v2 : Int32} {h : ajH} {Q : Option Value → ajH → Prop} (hs : ajShp h) (c : CI S h) (vd : GVd S) (H : Q (some (.int (aShares S v1 v2))) h) : ajEv (d + 1) 129 0 [.ref 1, .int v1, .int v2, ajU, ajU] [] h Q := by
  have z8 := vd.z8
  refine W129_0 hs ?_
  refine S58 hs c.2.1 ?_
  intro s1
  refine ⟨_, rfl, ?_⟩
  cases e1 : isp (gz S) v1 with
  | false =>
    rw [if_pos (show flg false = 0 from rfl)]
    exact sh_n H (by rw [e1]; rfl)
  | true =>
    rw [if_neg (by decide)]
    obtain ⟨i, hi, rfl⟩ := isp_k z8 e1
    by_cases y1 : v2 < 0
    · rw [if_pos y1]
      exact sh_n H (by rw [decide_eq_true y1]; simp)
    · rw [if_neg y1]
      by_cases y2 : v2 ≤ 999
      · rw [if_pos y2]
        unfold aShares at H
        rw [e1, decide_eq_false y1, decide_eq_true y2, if_pos (show (true && !false && true) = true from rfl), sr_N (by omega)] at H
        exact S129_26 s1 c vd hi H (gz S) 0 (by omega)
      · rw [if_neg y2]
        exact sh_n H (by rw [decide_eq_false y2]; simp)
