/-! Step and log, on both sides. -/
theorem in_isp {n : Nat} {v : Int32} (hn : n < 1000000) : (if v < 0 then (0 : Int32) else if nI n - 1 < v then 0 else 1) = flg (isp n v) := by
  unfold isp
  by_cases y : v < 0
  · rw [if_pos y, if_pos y]; rfl
  · rw [if_neg y, if_neg y]
    obtain ⟨j, hj, rfl⟩ := sr_of y
    by_cases h0 : 0 < n
    · have em : nI n - 1 = nI (n - 1) := by rw [sl_1, sr_sub (by omega)]
      by_cases y2 : n ≤ j
      · have el : nI n - 1 < nI j := by rw [em, sr_lt (by omega) (by omega)]; omega
        have e2 : nI n ≤ nI j := by rw [sr_le (by omega) (by omega)]; exact y2
        rw [if_pos el, if_pos e2]; rfl
      · have el : ¬ nI n - 1 < nI j := by rw [em, sr_lt (by omega) (by omega)]; omega
        have e2 : ¬ nI n ≤ nI j := by rw [sr_le (by omega) (by omega)]; exact y2
        rw [if_neg el, if_neg e2]; rfl
    · have e0 : n = 0 := by omega
      subst e0
      have el : nI 0 - 1 < nI j := by
        rw [show nI 0 - 1 = -1 from rfl, Int32.lt_iff_toInt_lt, sr_toInt hj]
        have e : (-1 : Int32).toInt = -1 := rfl
        omega
      have e2 : nI 0 ≤ nI j := by rw [sr_le (by omega) (by omega)]; omega
      rw [if_pos el, if_pos e2]; rfl
theorem isp_K {n : Nat} {v : Int32} (hn : n < 1000000) (c : isp n v = true) : ∃ k, k < n ∧ v = nI k := by
  unfold isp at c
  by_cases y : v < 0
  · rw [if_pos y] at c; cases c
  · rw [if_neg y] at c
    obtain ⟨j, hj, rfl⟩ := sr_of y
    by_cases y2 : nI n ≤ nI j
    · rw [if_pos y2] at c; cases c
    · rw [sr_le (by omega) (by omega)] at y2
      exact ⟨j, by omega, rfl⟩
def aStep (S : GS) (v1 v2 v3 : Int32) : Int32 := if (isp (gmj S) v1 && isp (gJn S v1.toNatClampNeg) v2 && isp 2 v3) = true then (if v3 = 0 then nI (gJK S v1.toNatClampNeg v2.toNatClampNeg) else gJD S v1.toNatClampNeg v2.toNatClampNeg) else -1000000
theorem S98 {S : GS} {d : Nat} {v : Int32} {h : ajH} {Q : Option Value → ajH → Prop} (hs : ajShp h) (c : c3 S h) (H : Q (some (.int (flg (isp (gmj S) v)))) h) : ajEv d 98 0 [.ref 1, .int v] [] h Q := by
  refine W98_0 hs ?_
  rw [c.1.2.2.2.1]
  unfold isp at H
  by_cases y : v < 0
  · rw [if_pos y] at H; rw [if_pos y]; exact H
  · rw [if_neg y] at H; rw [if_neg y]
    by_cases y2 : nI (gmj S) ≤ v
    · rw [if_pos y2] at H; rw [if_pos y2]; exact H
    · rw [if_neg y2] at H; rw [if_neg y2]; exact H
theorem S213 {S : GS} {d : Nat} {v : Int32} {h : ajH} {Q : Option Value → ajH → Prop} (hs : ajShp h) (c : r3 S h) (H : Q (some (.int (flg (isp (gmj S) v)))) h) : ajEv d 213 0 [.ref 320, .int v] [] h Q := by
  refine W213_0 hs ?_
  rw [c.1.2.2.2.1]
  unfold isp at H
  by_cases y : v < 0
  · rw [if_pos y] at H; rw [if_pos y]; exact H
  · rw [if_neg y] at H; rw [if_neg y]
    by_cases y2 : nI (gmj S) ≤ v
    · rw [if_pos y2] at H; rw [if_pos y2]; exact H
    · rw [if_neg y2] at H; rw [if_neg y2]; exact H
theorem st_n {S : GS} {v1 v2 v3 : Int32} {Q : Option Value → ajH → Prop} {h : ajH} (H : Q (some (.int (aStep S v1 v2 v3))) h) (e : (isp (gmj S) v1 && isp (gJn S v1.toNatClampNeg) v2 && isp 2 v3) = false) : Q (some (.int (-1000000))) h := by
  unfold aStep at H
  rw [e, if_neg (by decide)] at H
  exact H
theorem isp_2 {v : Int32} (c : isp 2 v = true) : v = 0 ∨ v = 1 := by
  obtain ⟨k, hk, rfl⟩ := isp_K (by omega) c
  have : k = 0 ∨ k = 1 := by omega
  rcases this with rfl | rfl
  · exact Or.inl rfl
  · exact Or.inr rfl
theorem S97 {S : GS} {d : Nat} {v1 v2 v3 : Int32} {h : ajH} {Q : Option Value → ajH → Prop} (hs : ajShp h) (c : CI S h) (vd : GVd S) (H : Q (some (.int (aStep S v1 v2 v3))) h) : ajEv (d + 1) 97 0 [.ref 1, .int v1, .int v2, .int v3, ajU] [] h Q := by
  have j4 := vd.j4
  refine W97_0 hs ?_
  refine S98 hs c.2.2.1 ?_
  intro s1
  refine ⟨_, rfl, ?_⟩
  cases e1 : isp (gmj S) v1 with
  | false =>
    rw [if_pos (show flg false = 0 from rfl)]
    exact st_n H (by rw [e1]; rfl)
  | true =>
    obtain ⟨i, hi, rfl⟩ := isp_K (by omega) e1
    have ei : (nI i).toNatClampNeg = i := sr_N (by omega)
    have n16 := (vd.jn i hi).1
    have cj := c.2.2.1.2.2.2.2 i hi
    rw [if_neg (by decide), sr_in (by omega), ei, cj.1]
    by_cases y3 : v3 < 0
    · rw [if_pos y3]
      exact st_n H (by have : isp 2 v3 = false := (by unfold isp; rw [if_pos y3]); rw [this, Bool.and_false])
    · rw [if_neg y3]
      by_cases y4 : v3 ≤ 1
      · rw [if_pos y4]
        refine ⟨by omega, ?_⟩
        have e3 : isp 2 v3 = true := by
          obtain ⟨j, hj, rfl⟩ := sr_of y3
          rw [sl_1, sr_le (by omega) (by omega)] at y4
          unfold isp
          rw [if_neg y3, if_neg (by rw [sr_le (by omega) (by omega)]; omega)]
        by_cases y5 : v2 < 0
        · rw [if_pos y5]
          exact st_n H (by have : isp (gJn S (nI i).toNatClampNeg) v2 = false := (by unfold isp; rw [if_pos y5]); rw [this, Bool.and_false]; rfl)
        · rw [if_neg y5]
          obtain ⟨k, hk, rfl⟩ := sr_of y5
          by_cases y6 : k < gJn S i
          · rw [if_pos (by rw [sr_lt (by omega) (by omega)]; exact y6)]
            have e2 : isp (gJn S (nI i).toNatClampNeg) (nI k) = true := by
              rw [ei]; unfold isp
              rw [if_neg y5, if_neg (by rw [sr_le (by omega) (by omega)]; omega)]
            unfold aStep at H
            rw [e1, e2, e3, if_pos (show (true && true && true) = true from rfl), ei, sr_N (by omega)] at H
            rw [sr_in (by omega), sr_N (by omega), (cj.2 k y6).1, (cj.2 k y6).2]
            by_cases y7 : v3 = 0
            · rw [if_neg (fun z => z y7)]
              rw [if_pos y7] at H
              exact ⟨by omega, H⟩
            · rw [if_pos y7]
              rw [if_neg y7] at H
              exact ⟨by omega, H⟩
          · rw [if_neg (by rw [sr_lt (by omega) (by omega)]; exact y6)]
            exact st_n H (by
              have : isp (gJn S (nI i).toNatClampNeg) (nI k) = false := by
                rw [ei]; unfold isp
                rw [if_neg y5, if_pos (by rw [sr_le (by omega) (by omega)]; omega)]
              rw [this, Bool.and_false]; rfl)
      · rw [if_neg y4]
        exact st_n H (by
          have : isp 2 v3 = false := by
            obtain ⟨j, hj, rfl⟩ := sr_of y3
            rw [sl_1, sr_le (by omega) (by omega)] at y4
            unfold isp
            rw [if_neg y3, if_pos (by rw [sr_le (by omega) (by omega)]; omega)]
          rw [this, Bool.and_false])
theorem S212 {S : GS} {d : Nat} {v1 v2 v3 : Int32} {h : ajH} {Q : Option Value → ajH → Prop} (hs : ajShp h) (c : MI S h) (vd : GVd S) (H : ∀ h', FR h h' (fun o j => o = 320 ∧ j = 0) → MI S h' → Q (some (.int (aStep S v1 v2 v3))) h') : ajEv (d + 1) 212 0 [.ref 320, .int v1, .int v2, .int v3] [] h Q := by
  have j4 := vd.j4
  refine W212_0 hs ?_
  rintro _ rfl
  have c0 := MI_0 (x := 0) c
  have s0 : ajShp (ajSI h 320 0 0) := hs
  replace H := H _ (FR_SI h ⟨rfl, rfl⟩) c0
  generalize ajSI h 320 0 0 = h0 at c0 s0 H
  refine S213 s0 c0.2.2.1 ?_
  intro s1
  refine ⟨_, rfl, ?_⟩
  cases e1 : isp (gmj S) v1 with
  | false =>
    rw [if_pos (show flg false = 0 from rfl)]
    exact st_n H (by rw [e1]; rfl)
  | true =>
    obtain ⟨i, hi, rfl⟩ := isp_K (by omega) e1
    have ei : (nI i).toNatClampNeg = i := sr_N (by omega)
    have n16 := (vd.jn i hi).1
    have cj := c0.2.2.1.2.2.2 i hi
    rw [if_neg (by decide), sr_in (by omega), ei, cj.1]
    refine ⟨by omega, ?_⟩
    refine S145 (lo := 0) s1 ?_
    intro s2
    refine ⟨_, rfl, ?_⟩
    have q2 := in_isp (n := gJn S i) (v := v2) (by omega)
    rw [q2]
    cases e2 : isp (gJn S i) v2 with
    | false =>
      rw [if_pos (show flg false = 0 from rfl)]
      exact st_n H (by rw [ei, e2, Bool.and_false]; rfl)
    | true =>
      rw [if_neg (by decide)]
      obtain ⟨k, hk, rfl⟩ := isp_K (by omega) e2
      refine S145 (lo := 0) (hi := 1) s2 ?_
      intro s3
      refine ⟨_, rfl, ?_⟩
      have q3 := in_isp (n := 2) (v := v3) (by omega)
      rw [show nI 2 - 1 = (1 : Int32) from rfl] at q3
      rw [q3]
      cases e3 : isp 2 v3 with
      | false =>
        rw [if_pos (show flg false = 0 from rfl)]
        exact st_n H (by rw [e3, Bool.and_false])
      | true =>
        rw [if_neg (by decide)]
        have e2' : isp (gJn S (nI i).toNatClampNeg) (nI k) = true := by rw [ei]; exact e2
        unfold aStep at H
        rw [e1, e2', e3, if_pos (show (true && true && true) = true from rfl), ei, sr_N (by omega)] at H
        rcases isp_2 e3 with rfl | rfl
        · rw [if_pos rfl] at H
          rw [sl_16, sr_mul, sr_add, sl_2, sr_mul, Int32.add_zero, sr_in (by omega), sr_N (by omega), show 2 * (16 * i + k) = 32 * i + 2 * k by omega, (cj.2.2 k hk).1]
          exact ⟨by omega, H⟩
        · rw [if_neg (by decide)] at H
          rw [sl_16, sr_mul, sr_add, sl_2, sr_mul, sl_1, sr_add, sr_in (by omega), sr_N (by omega), show 2 * (16 * i + k) + 1 = 32 * i + 2 * k + 1 by omega, (cj.2.2 k hk).2]
          exact ⟨by omega, H⟩
