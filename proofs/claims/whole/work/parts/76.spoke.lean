/-! A spoke asked for, in the class. -/
noncomputable def aSpoke (S : GS) (k o : Nat) : Int32 := if o = 0 then nI (gFO S k 0) else if o = 1 then (gX S).1 (2 * k) else if o = 2 then nI (gFO S k 2) else if o = 3 then (gX S).1 (2 * k + 1) else br (gE S) (onM (gz S) (gX S).1) (bN (gX S).1) k
theorem S137 {S : GS} {d k o : Nat} {h : ajH} {Q : Option Value → ajH → Prop} (hs : ajShp h) (c : CI S h) (vd : GVd S) (hk : k < gz S) (ho : o < 5)
    (H : ∀ h', FR h h' (fun o j => o < 320) → CI S h' → Q (some (.int (aSpoke S k o))) h') : ajEv (d + 2) 137 0 [.ref 1, .int (nI k), .int (nI o)] [] h Q := by
  have z8 := vd.z8
  have xv := vd.xv (by omega)
  have H0 := H h (FR_refl _ _) c
  refine W137_0 hs ?_
  refine S58 hs c.2.1 ?_
  intro s1
  have e1 : isp (gz S) (nI k) = true := by
    unfold isp; rw [if_neg (by rw [sr_lt0 (by omega)]; exact fun z => z), if_neg (by rw [sr_le (by omega) (by omega)]; omega)]
  refine ⟨_, rfl, ?_⟩
  rw [e1, if_neg (by decide), if_neg (by rw [sr_lt0 (by omega)]; exact fun z => z), if_pos (by rw [sl_4, sr_le (by omega) (by omega)]; omega)]
  unfold aSpoke at H0 H
  have : o = 0 ∨ o = 1 ∨ o = 2 ∨ o = 3 ∨ o = 4 := by omega
  rcases this with rfl | rfl | rfl | rfl | rfl
  · rw [if_pos (by decide)]
    refine W137_60 s1 ?_
    rw [sr_in (by omega), sr_N (by omega), (c.2.1.2.2 k hk).1]
    rw [if_pos rfl] at H0
    exact ⟨by omega, H0⟩
  · rw [if_neg (by decide), if_pos (by decide)]
    refine W137_70 s1 ?_
    rw [sr_in (by omega), sr_N (by omega), c.2.2.2.1.1.2 k hk]
    rw [if_neg (by decide), if_pos rfl] at H0
    exact ⟨by omega, H0⟩
  · rw [if_neg (by decide), if_neg (by decide), if_pos (by decide)]
    refine W137_80 s1 ?_
    rw [sr_in (by omega), sr_N (by omega), (c.2.1.2.2 k hk).2.2]
    rw [if_neg (by decide), if_neg (by decide), if_pos rfl] at H0
    exact ⟨by omega, H0⟩
  · rw [if_neg (by decide), if_neg (by decide), if_neg (by decide), if_pos (by decide)]
    refine W137_90 s1 ?_
    rw [if_neg (by decide), if_neg (by decide), if_neg (by decide), if_pos rfl] at H0
    refine S72c (ajKc rfl) s1 c.2.2.2.1.1 z8 hk ?_
    intro s2
    refine ⟨_, rfl, ?_⟩
    rcases xv.1.2.2.2.2.2 k hk with z | z | z
    · have e : onB (gX S).1 k = true := decide_eq_true z
      rw [e, if_neg (by decide)]
      rw [z] at H0; exact H0
    · have e : onB (gX S).1 k = false := decide_eq_false (by rw [z]; decide)
      rw [e, if_pos (show flg false = 0 from rfl)]
      refine S59c (ajKc rfl) s2 c.2.2.2.1.1 z8 hk ?_
      intro s3
      refine ⟨_, rfl, ?_⟩
      have e2 : brB (gX S).1 k = false := decide_eq_false (by rw [z]; decide)
      rw [e2, if_pos (show flg false = 0 from rfl)]
      rw [z] at H0; exact H0
    · have e : onB (gX S).1 k = false := decide_eq_false (by rw [z]; decide)
      rw [e, if_pos (show flg false = 0 from rfl)]
      refine S59c (ajKc rfl) s2 c.2.2.2.1.1 z8 hk ?_
      intro s3
      refine ⟨_, rfl, ?_⟩
      have e2 : brB (gX S).1 k = true := decide_eq_true z
      rw [e2, if_neg (by decide)]
      rw [z] at H0; exact H0
  · rw [if_neg (by decide), if_neg (by decide), if_neg (by decide), if_neg (by decide)]
    refine W137_122 s1 ?_
    simp only [show ¬ (4 : Nat) = 0 by decide, show ¬ (4 : Nat) = 1 by decide, show ¬ (4 : Nat) = 2 by decide, show ¬ (4 : Nat) = 3 by decide, if_false] at H
    have ce := CI_CE c.2.1 vd (by omega)
    rw [c.2.2.2.1.1.1.1, c.2.2.2.1.1.1.2.2.1, xv.1.1.1]
    refine S68 (E := gE S) (ajKc rfl) (ajKc rfl) (by omega) s1 ce xv.1.1.2 ?_
    intro h1 f1 x1 s3
    refine ⟨rfl, ?_⟩
    have c1 : CI S h1 := CI_FR c f1 (fun o j z => by unfold b1 b2 b3 b4 b5 b6 b7; omega)
    have H2 := H h1 (FR_mono f1 (fun o j z => by omega)) c1
    refine S72c (ajKc rfl) s3 c1.2.2.2.1.1 z8 hk ?_
    intro s4
    refine ⟨_, rfl, ?_⟩
    cases e3 : onB (gX S).1 k with
    | false =>
      rw [if_pos (show flg false = 0 from rfl)]
      rw [br_off (by omega) (by unfold onM; rw [on_k z8 hk]; exact e3)] at H2
      exact H2
    | true =>
      rw [if_neg (by decide), sr_in (by omega), sr_N (by omega)]
      refine ⟨by omega, ?_⟩
      have e57 : ajI h1 57 k = br (gE S) (mk (onB (gX S).1) (gz S)) (bN (gX S).1) k := x1 k (by omega)
      rw [e57]
      exact H2
