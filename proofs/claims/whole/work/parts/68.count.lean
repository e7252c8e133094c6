/-! The counts, on both sides. -/
def aCount (S : GS) (v : Int32) : Int32 := if v = Int32.ofInt 0 then nI (gz S) else (if v = Int32.ofInt 1 then nI (gRU S 0) else (if v = Int32.ofInt 2 then nI (gm S) else (if v = Int32.ofInt 3 then nI (gmj S) else (if v = Int32.ofInt 4 then nI (gT S).2 else (if v = Int32.ofInt 5 then gh S else (if v = Int32.ofInt 6 then (gX S).1 21 else (if v = Int32.ofInt 7 then (gX S).1 20 else (if v = Int32.ofInt 8 then (gX S).1 17 else (if v = Int32.ofInt 9 then (gX S).1 18 else (if v = Int32.ofInt 10 then (gX S).1 19 else (if v = Int32.ofInt 11 then gs S else (if v = Int32.ofInt 12 then nI (gns S) else (if v = Int32.ofInt 13 then nI (lgc (gX S)) else (if v = Int32.ofInt 14 then nI (gna S) else (if v = Int32.ofInt 15 then (gX S).1 16 else (-1000000))))))))))))))))
theorem S136 {S : GS} {d : Nat} {v : Int32} {h : ajH} {Q : Option Value → ajH → Prop} (hs : ajShp h) (c : CI S h) (vd : GVd S) (H : Q (some (.int (aCount S v))) h) : ajEv (d + 1) 136 0 [.ref 1, .int v] [] h Q := by
  have z8 := vd.z8
  have k := c.2.2.2.1.1.1
  have hl : (if (gX S).2.1 < 60 then (gX S).2.1 else 60) = lgc (gX S) := rfl
  have h18 : (gX S).1 18 = 0 ∨ (gX S).1 18 = 1 := by
    rcases Nat.eq_zero_or_pos (gz S) with z | z
    · exact Or.inl (vd.x0 z).2
    · exact (vd.xv z).1.2.2.2.2.1
  have hct : (gX S).2.1 < 100000 := by
    rcases Nat.eq_zero_or_pos (gz S) with z | z
    · have := (vd.x0 z).1; omega
    · have a := (vd.xv z).1.2.2.2.1.2; have b := (vd.xv z).2.1; omega
  refine W136_0 hs ?_
  unfold aCount at H
  by_cases e0 : v = Int32.ofInt 0
  · rw [if_pos e0]; rw [if_pos e0] at H
    refine W136_80 hs ?_
    rw [c.2.1.1]
    exact H
  · rw [if_neg e0]; rw [if_neg e0] at H
    by_cases e1 : v = Int32.ofInt 1
    · rw [if_pos e1]; rw [if_pos e1] at H
      refine W136_88 hs ?_
      refine S56 hs c.2.1 z8 ?_
      intro s1
      refine ⟨_, rfl, ?_⟩
      have e5 : ajI h 5 0 = nI (gRU S 0) := c.2.1.2.1 0 (by omega)
      by_cases hz : 0 < gz S
      · rw [decide_eq_true hz, if_neg (by decide), e5]; exact H
      · rw [decide_eq_false hz, if_pos (show flg false = 0 from rfl)]; rw [vd.r0 (by omega)] at H; exact H
    · rw [if_neg e1]; rw [if_neg e1] at H
      by_cases e2 : v = Int32.ofInt 2
      · rw [if_pos e2]; rw [if_pos e2] at H
        refine W136_109 hs ?_
        rw [c.2.2.1.1.1]
        exact H
      · rw [if_neg e2]; rw [if_neg e2] at H
        by_cases e3 : v = Int32.ofInt 3
        · rw [if_pos e3]; rw [if_pos e3] at H
          refine W136_114 hs ?_
          rw [c.2.2.1.1.2.2.2.1]
          exact H
        · rw [if_neg e3]; rw [if_neg e3] at H
          by_cases e4 : v = Int32.ofInt 4
          · rw [if_pos e4]; rw [if_pos e4] at H
            refine W136_119 hs ?_
            rw [c.1.1.1]
            exact H
          · rw [if_neg e4]; rw [if_neg e4] at H
            by_cases e5 : v = Int32.ofInt 5
            · rw [if_pos e5]; rw [if_pos e5] at H
              refine W136_127 hs ?_
              rw [c.2.2.1.1.2.1]
              exact H
            · rw [if_neg e5]; rw [if_neg e5] at H
              by_cases e6 : v = Int32.ofInt 6
              · rw [if_pos e6]; rw [if_pos e6] at H
                refine W136_132 hs ?_
                rw [k.2.2.2.2.2.1]
                exact H
              · rw [if_neg e6]; rw [if_neg e6] at H
                by_cases e7 : v = Int32.ofInt 7
                · rw [if_pos e7]; rw [if_pos e7] at H
                  refine W136_140 hs ?_
                  rw [k.2.2.2.2.1]
                  exact H
                · rw [if_neg e7]; rw [if_neg e7] at H
                  by_cases e8 : v = Int32.ofInt 8
                  · rw [if_pos e8]; rw [if_pos e8] at H
                    refine W136_148 hs ?_
                    rw [k.2.2.2.1]
                    exact H
                  · rw [if_neg e8]; rw [if_neg e8] at H
                    by_cases e9 : v = Int32.ofInt 9
                    · rw [if_pos e9]; rw [if_pos e9] at H
                      refine W136_156 hs ?_
                      rw [k.2.2.2.2.2.2.2]
                      refine S81 hs h18 ?_
                      intro s1
                      exact ⟨_, rfl, H⟩
                    · rw [if_neg e9]; rw [if_neg e9] at H
                      by_cases e10 : v = Int32.ofInt 10
                      · rw [if_pos e10]; rw [if_pos e10] at H
                        refine W136_167 hs ?_
                        rw [k.2.2.2.2.2.2.1]
                        exact H
                      · rw [if_neg e10]; rw [if_neg e10] at H
                        by_cases e11 : v = Int32.ofInt 11
                        · rw [if_pos e11]; rw [if_pos e11] at H
                          refine W136_175 hs ?_
                          rw [c.2.2.1.1.2.2.1]
                          exact H
                        · rw [if_neg e11]; rw [if_neg e11] at H
                          by_cases e12 : v = Int32.ofInt 12
                          · rw [if_pos e12]; rw [if_pos e12] at H
                            refine W136_180 hs ?_
                            rw [c.2.2.2.2.2.2.1]
                            exact H
                          · rw [if_neg e12]; rw [if_neg e12] at H
                            by_cases e13 : v = Int32.ofInt 13
                            · rw [if_pos e13]; rw [if_pos e13] at H
                              refine W136_188 hs ?_
                              refine W95_0 hs (ajKc rfl) ?_
                              intro s1
                              refine ⟨_, rfl, ?_⟩
                              rw [c.2.2.2.1.2.1]
                              unfold lgc at H
                              by_cases y : (gX S).2.1 < 60
                              · rw [if_pos (by rw [sl_60, sr_lt (by omega) (by omega)]; exact y)]; rw [if_pos y] at H; exact H
                              · rw [if_neg (by rw [sl_60, sr_lt (by omega) (by omega)]; exact y)]; rw [if_neg y] at H; exact H
                            · rw [if_neg e13]; rw [if_neg e13] at H
                              by_cases e14 : v = Int32.ofInt 14
                              · rw [if_pos e14]; rw [if_pos e14] at H
                                refine W136_196 hs ?_
                                rw [c.2.2.2.2.1.1]
                                exact H
                              · rw [if_neg e14]; rw [if_neg e14] at H
                                by_cases e15 : v = Int32.ofInt 15
                                · rw [if_pos e15]; rw [if_pos e15] at H
                                  refine W136_204 hs ?_
                                  rw [k.2.2.1]
                                  exact H
                                · rw [if_neg e15]; rw [if_neg e15] at H
                                  exact W136_212 hs H
theorem S249 {S : GS} {d : Nat} {v : Int32} {h : ajH} {Q : Option Value → ajH → Prop} (hs : ajShp h) (c : MI S h) (H : ∀ h', FR h h' (fun o j => o = 320 ∧ j = 0) → MI S h' → Q (some (.int (aCount S v))) h') : ajEv d 249 0 [.ref 320, .int v] [] h Q := by
  refine W249_0 hs ?_
  rintro _ rfl
  have c0 := MI_0 (x := 0) c
  have s0 : ajShp (ajSI h 320 0 0) := hs
  replace H := H _ (FR_SI h ⟨rfl, rfl⟩) c0
  generalize ajSI h 320 0 0 = h0 at c0 s0 H
  obtain ⟨rw, lg⟩ := mX0 c0.2.2.2.1
  unfold aCount at H
  by_cases e0 : v = Int32.ofInt 0
  · rw [if_pos e0]; rw [if_pos e0] at H
    refine W249_84 s0 ?_
    rw [c0.2.1.1]
    exact H
  · rw [if_neg e0]; rw [if_neg e0] at H
    by_cases e1 : v = Int32.ofInt 1
    · rw [if_pos e1]; rw [if_pos e1] at H
      refine W249_89 s0 ?_
      rw [c0.2.1.2.1 0 (by omega) (Or.inr rfl)]
      exact H
    · rw [if_neg e1]; rw [if_neg e1] at H
      by_cases e2 : v = Int32.ofInt 2
      · rw [if_pos e2]; rw [if_pos e2] at H
        refine W249_96 s0 ?_
        rw [c0.2.2.1.1.1]
        exact H
      · rw [if_neg e2]; rw [if_neg e2] at H
        by_cases e3 : v = Int32.ofInt 3
        · rw [if_pos e3]; rw [if_pos e3] at H
          refine W249_101 s0 ?_
          rw [c0.2.2.1.1.2.2.2.1]
          exact H
        · rw [if_neg e3]; rw [if_neg e3] at H
          by_cases e4 : v = Int32.ofInt 4
          · rw [if_pos e4]; rw [if_pos e4] at H
            refine W249_106 s0 ?_
            rw [c0.1.1.1]
            exact H
          · rw [if_neg e4]; rw [if_neg e4] at H
            by_cases e5 : v = Int32.ofInt 5
            · rw [if_pos e5]; rw [if_pos e5] at H
              refine W249_111 s0 ?_
              rw [c0.2.2.1.1.2.1]
              exact H
            · rw [if_neg e5]; rw [if_neg e5] at H
              by_cases e6 : v = Int32.ofInt 6
              · rw [if_pos e6]; rw [if_pos e6] at H
                refine W249_116 s0 ?_
                rw [rw 21 (by omega)]
                exact H
              · rw [if_neg e6]; rw [if_neg e6] at H
                by_cases e7 : v = Int32.ofInt 7
                · rw [if_pos e7]; rw [if_pos e7] at H
                  refine W249_124 s0 ?_
                  rw [rw 20 (by omega)]
                  exact H
                · rw [if_neg e7]; rw [if_neg e7] at H
                  by_cases e8 : v = Int32.ofInt 8
                  · rw [if_pos e8]; rw [if_pos e8] at H
                    refine W249_132 s0 ?_
                    rw [rw 17 (by omega)]
                    exact H
                  · rw [if_neg e8]; rw [if_neg e8] at H
                    by_cases e9 : v = Int32.ofInt 9
                    · rw [if_pos e9]; rw [if_pos e9] at H
                      refine W249_140 s0 ?_
                      rw [rw 18 (by omega)]
                      exact H
                    · rw [if_neg e9]; rw [if_neg e9] at H
                      by_cases e10 : v = Int32.ofInt 10
                      · rw [if_pos e10]; rw [if_pos e10] at H
                        refine W249_148 s0 ?_
                        rw [rw 19 (by omega)]
                        exact H
                      · rw [if_neg e10]; rw [if_neg e10] at H
                        by_cases e11 : v = Int32.ofInt 11
                        · rw [if_pos e11]; rw [if_pos e11] at H
                          refine W249_156 s0 ?_
                          rw [c0.2.2.1.1.2.2.1]
                          exact H
                        · rw [if_neg e11]; rw [if_neg e11] at H
                          by_cases e12 : v = Int32.ofInt 12
                          · rw [if_pos e12]; rw [if_pos e12] at H
                            refine W249_161 s0 ?_
                            rw [c0.2.2.2.2.2.2.1.1]
                            exact H
                          · rw [if_neg e12]; rw [if_neg e12] at H
                            by_cases e13 : v = Int32.ofInt 13
                            · rw [if_pos e13]; rw [if_pos e13] at H
                              refine W249_166 s0 ?_
                              rw [lg.1]
                              exact H
                            · rw [if_neg e13]; rw [if_neg e13] at H
                              by_cases e14 : v = Int32.ofInt 14
                              · rw [if_pos e14]; rw [if_pos e14] at H
                                refine W249_174 s0 ?_
                                rw [c0.2.2.2.2.1.1]
                                exact H
                              · rw [if_neg e14]; rw [if_neg e14] at H
                                by_cases e15 : v = Int32.ofInt 15
                                · rw [if_pos e15]; rw [if_pos e15] at H
                                  refine W249_179 s0 ?_
                                  rw [rw 16 (by omega)]
                                  exact H
                                · rw [if_neg e15]; rw [if_neg e15] at H
                                  exact W249_187 s0 H
