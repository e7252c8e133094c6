/-! The log, on both sides. -/
theorem lg_un : ∀ m < 256, ∀ b < 8, ∀ x < 2, ((((nI m <<< (4 &&& 31)) ||| (nI b <<< (1 &&& 31))) ||| nI x) &&& 1 = nI x ∧ ((((nI m <<< (4 &&& 31)) ||| (nI b <<< (1 &&& 31))) ||| nI x) >>> (1 &&& 31)) &&& 7 = nI b) ∧ (((nI m <<< (4 &&& 31)) ||| (nI b <<< (1 &&& 31))) ||| nI x) >>> (4 &&& 31) = nI m := by decide +kernel
theorem pkL_un {f : Nat → Int32} (h : (f 0 = 0 ∨ f 0 = 1) ∧ (∃ b, b < 8 ∧ f 1 = nI b) ∧ ∃ m, m < 256 ∧ f 2 = nI m) : pkL f &&& 1 = f 0 ∧ (pkL f >>> (1 &&& 31)) &&& 7 = f 1 ∧ pkL f >>> (4 &&& 31) = f 2 := by
  obtain ⟨h0, ⟨b, hb, e1⟩, m, hm, e2⟩ := h
  unfold pkL
  rw [e1, e2]
  rcases h0 with e0 | e0
  · rw [e0]
    have u := lg_un m hm b hb 0 (by omega)
    exact ⟨u.1.1, u.1.2, u.2⟩
  · rw [e0]
    have u := lg_un m hm b hb 1 (by omega)
    exact ⟨u.1.1, u.1.2, u.2⟩
def aLog (S : GS) (v1 v2 : Int32) : Int32 := if (isp (lgc (gX S)) v1 && isp 3 v2) = true then (gX S).2.2 ((gX S).2.1 - 1 - v1.toNatClampNeg) v2.toNatClampNeg else -1
theorem lo_n {S : GS} {v1 v2 : Int32} {Q : Option Value → ajH → Prop} {h : ajH} (H : Q (some (.int (aLog S v1 v2))) h) (e : (isp (lgc (gX S)) v1 && isp 3 v2) = false) : Q (some (.int (-1))) h := by
  unfold aLog at H
  rw [e, if_neg (by decide)] at H
  exact H
theorem gct {S : GS} (vd : GVd S) : (gX S).2.1 < 100000 ∧ LO (gX S).2 := by
  rcases Nat.eq_zero_or_pos (gz S) with z | z
  · have e := (vd.x0 z).1
    exact ⟨by omega, fun i hi => by omega⟩
  · have a := (vd.xv z).1.2.2.2.1.2
    have b := (vd.xv z).2
    exact ⟨by omega, b.2⟩
theorem lgc_le (X : XT) : lgc X ≤ X.2.1 := by unfold lgc; split <;> omega
theorem S94 {S : GS} {d : Nat} {v1 v2 : Int32} {h : ajH} {Q : Option Value → ajH → Prop} (hs : ajShp h) (c : CI S h) (vd : GVd S) (H : Q (some (.int (aLog S v1 v2))) h) : ajEv (d + 1) 94 0 [.ref 1, .int v1, .int v2, ajU] [] h Q := by
  obtain ⟨hct, lo⟩ := gct vd
  have l60 := lgc_60 (gX S)
  have lle := lgc_le (gX S)
  have e10 := c.2.2.2.1.2.1
  refine W94_0 hs ?_
  by_cases y1 : v1 < 0
  · rw [if_pos y1]
    exact lo_n H (by have : isp (lgc (gX S)) v1 = false := (by unfold isp; rw [if_pos y1]); rw [this]; rfl)
  · rw [if_neg y1]
    refine W95_0 hs (ajKc rfl) ?_
    intro s1
    refine ⟨_, rfl, ?_⟩
    have el : (if ajI h 54 10 < 60 then ajI h 54 10 else 60) = nI (lgc (gX S)) := by
      rw [e10]
      unfold lgc
      by_cases y : (gX S).2.1 < 60
      · rw [if_pos (by rw [sl_60, sr_lt (by omega) (by omega)]; exact y), if_pos y]
      · rw [if_neg (by rw [sl_60, sr_lt (by omega) (by omega)]; exact y), if_neg y]; rfl
    rw [el]
    obtain ⟨i, hi, rfl⟩ := sr_of y1
    by_cases y2 : lgc (gX S) ≤ i
    · rw [if_pos (by rw [sr_le (by omega) (by omega)]; exact y2)]
      exact lo_n H (by
        have : isp (lgc (gX S)) (nI i) = false := by
          unfold isp; rw [if_neg y1, if_pos (by rw [sr_le (by omega) (by omega)]; exact y2)]
        rw [this]; rfl)
    · rw [if_neg (by rw [sr_le (by omega) (by omega)]; exact y2)]
      have e1 : isp (lgc (gX S)) (nI i) = true := by
        unfold isp; rw [if_neg y1, if_neg (by rw [sr_le (by omega) (by omega)]; exact y2)]
      by_cases y3 : v2 < 0
      · rw [if_pos y3]
        exact lo_n H (by have : isp 3 v2 = false := (by unfold isp; rw [if_pos y3]); rw [this, Bool.and_false])
      · rw [if_neg y3]
        obtain ⟨k, hk, rfl⟩ := sr_of y3
        by_cases y4 : k ≤ 2
        · rw [if_pos (by rw [sl_2, sr_le (by omega) (by omega)]; exact y4)]
          have e2 : isp 3 (nI k) = true := by
            unfold isp; rw [if_neg y3, if_neg (by rw [sr_le (by omega) (by omega)]; omega)]
          unfold aLog at H
          rw [e1, e2, if_pos (show (true && true) = true from rfl), sr_N (by omega), sr_N (by omega)] at H
          refine W96_0 s1 (ajKc rfl) ?_
          have hlt := Nat.mod_lt ((gX S).2.1 - 1 - i) (show 0 < 60 by omega)
          have hrow := c.2.2.2.1.2.2 ((gX S).2.1 - 1 - i) (by omega) (by omega)
          rw [e10, if_neg y1, if_neg (by rw [sr_le (by omega) (by omega)]; omega), sl_1, sr_sub (by omega), sr_sub (by omega), sl_60, sr_rem (by omega) (by omega) (by omega), sr_in (by omega), sr_N (by omega), hrow]
          refine ⟨hlt, ?_⟩
          intro s2
          refine ⟨_, rfl, ?_⟩
          have u := pkL_un (lo ((gX S).2.1 - 1 - i) (by omega))
          have hk3 : k = 0 ∨ k = 1 ∨ k = 2 := by omega
          rcases hk3 with rfl | rfl | rfl
          · rw [if_neg (show ¬ ¬ nI 0 = 0 from fun z => z rfl)]
            rw [← u.1] at H
            exact H
          · rw [if_pos (by decide), if_neg (show ¬ ¬ nI 1 = nI 1 from fun z => z rfl)]
            rw [← u.2.1] at H
            exact H
          · rw [if_pos (by decide), if_pos (by decide)]
            rw [← u.2.2] at H
            exact H
        · rw [if_neg (by rw [sl_2, sr_le (by omega) (by omega)]; exact y4)]
          exact lo_n H (by
            have : isp 3 (nI k) = false := by
              unfold isp; rw [if_neg y3, if_pos (by rw [sr_le (by omega) (by omega)]; omega)]
            rw [this, Bool.and_false])
theorem S211 {S : GS} {d : Nat} {v1 v2 : Int32} {h : ajH} {Q : Option Value → ajH → Prop} (hs : ajShp h) (c : MI S h) (vd : GVd S) (H : ∀ h', FR h h' (fun o j => o = 320 ∧ j = 0) → MI S h' → Q (some (.int (aLog S v1 v2))) h') : ajEv (d + 1) 211 0 [.ref 320, .int v1, .int v2] [] h Q := by
  obtain ⟨hct, lo⟩ := gct vd
  have l60 := lgc_60 (gX S)
  have lle := lgc_le (gX S)
  refine W211_0 hs ?_
  rintro _ rfl
  have c0 := MI_0 (x := 0) c
  have s0 : ajShp (ajSI h 320 0 0) := hs
  replace H := H _ (FR_SI h ⟨rfl, rfl⟩) c0
  generalize ajSI h 320 0 0 = h0 at c0 s0 H
  obtain ⟨rw, lg⟩ := mX0 c0.2.2.2.1
  refine S145 (lo := 0) s0 ?_
  intro s1
  refine ⟨_, rfl, ?_⟩
  rw [lg.1, in_isp (by omega)]
  cases e1 : isp (lgc (gX S)) v1 with
  | false =>
    rw [if_pos (show flg false = 0 from rfl)]
    exact lo_n H (by rw [e1]; rfl)
  | true =>
    rw [if_neg (by decide)]
    obtain ⟨i, hi, rfl⟩ := isp_K (by omega) e1
    refine S145 (lo := 0) (hi := 2) s1 ?_
    intro s2
    refine ⟨_, rfl, ?_⟩
    have q2 := in_isp (n := 3) (v := v2) (by omega)
    rw [show nI 3 - 1 = (2 : Int32) from rfl] at q2
    rw [q2]
    cases e2 : isp 3 v2 with
    | false =>
      rw [if_pos (show flg false = 0 from rfl)]
      exact lo_n H (by rw [e2, Bool.and_false])
    | true =>
      rw [if_neg (by decide)]
      obtain ⟨k, hk, rfl⟩ := isp_K (by omega) e2
      unfold aLog at H
      rw [e1, e2, if_pos (show (true && true) = true from rfl), sr_N (by omega), sr_N (by omega)] at H
      rw [lg.1, sl_1, sr_sub (by omega), sr_sub (by omega), sl_3, sr_mul, sl_23, sr_add, sr_add, sr_in (by omega), sr_N (by omega)]
      refine ⟨by omega, ?_⟩
      have g := lg.2.2 (3 * (lgc (gX S) - 1 - i) + k) (by omega)
      dsimp only at g
      rw [show 23 + 3 * (lgc (gX S) - 1 - i) + k = 23 + (3 * (lgc (gX S) - 1 - i) + k) by omega, g, show (3 * (lgc (gX S) - 1 - i) + k) / 3 = lgc (gX S) - 1 - i by omega, show (3 * (lgc (gX S) - 1 - i) + k) % 3 = k by omega, show (gX S).2.1 - lgc (gX S) + (lgc (gX S) - 1 - i) = (gX S).2.1 - 1 - i by omega]
      exact H
