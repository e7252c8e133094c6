/-! A spoke asked for, the reference. -/
def skOK (S : GS) (v1 v2 : Int32) : Bool := isp (gz S) v1 && isp 5 v2
def PSk (o j : Nat) : Prop := o = 333 ∨ o = 320 ∧ j = 0
theorem isp_y {n k : Nat} (hn : n < 1000000) (hk : k < n) : isp n (nI k) = true := by
  unfold isp; rw [if_neg (by rw [sr_lt0 (by omega)]; exact fun z => z), if_neg (by rw [sr_le (by omega) (by omega)]; omega)]
theorem S178y {S : GS} {d k o : Nat} {h : ajH} {Q : Option Value → ajH → Prop} (hs : ajShp h) (c : MI S h) (vd : GVd S) (hk : k < gz S) (ho : o < 5)
    (H : ∀ h', FR h h' PSk → MI S h' → ajI h' 320 0 = 0 → Q (some (.int (aSpoke S k o))) h') : ajEv (d + 4) 178 0 [.ref 320, .int (nI k), .int (nI o)] [] h Q := by
  have z8 := vd.z8
  have xv := vd.xv (by omega)
  refine W178_0 hs ?_
  refine S179 hs c.2.1 ?_
  intro s1
  refine ⟨_, rfl, ?_⟩
  rw [isp_y (by omega) hk, if_neg (by decide)]
  refine S145 (lo := 0) (hi := 4) s1 ?_
  intro s2
  refine ⟨_, rfl, ?_⟩
  have q2 := in_isp (n := 5) (v := nI o) (by omega)
  rw [show nI 5 - 1 = (4 : Int32) from rfl] at q2
  rw [q2, isp_y (by omega) ho, if_neg (by decide)]
  refine W178_26 s2 ?_
  rintro _ rfl
  have c1 := MI_0 (x := 0) c
  have f1 : FR h (ajSI h 320 0 0) PSk := FR_SI h (by unfold PSk; omega)
  have s3 : ajShp (ajSI h 320 0 0) := hs
  have e0 : ajI (ajSI h 320 0 0) 320 0 = 0 := by rw [ajI_SI, if_pos ⟨rfl, rfl⟩]
  generalize ajSI h 320 0 0 = h1 at c1 f1 s3 e0
  rw [e0, if_pos (by decide)]
  have H0 := H h1 f1 c1 e0
  obtain ⟨rw', _⟩ := mX0 c1.2.2.2.1
  unfold aSpoke at H0 H
  have : o = 0 ∨ o = 1 ∨ o = 2 ∨ o = 3 ∨ o = 4 := by omega
  rcases this with rfl | rfl | rfl | rfl | rfl
  · rw [if_neg (by decide), if_neg (by decide), if_neg (by decide), if_neg (by decide)]
    refine W178_103 s3 ?_
    rw [sl_3, sr_mul, sr_add, sr_in (by omega), sr_N (by omega), c1.2.1.2.2 k hk 0 (by omega)]
    rw [if_pos rfl] at H0
    exact ⟨by omega, H0⟩
  · rw [if_pos (by decide)]
    refine W178_68 s3 ?_
    rw [sl_2, sr_mul, Int32.add_zero, sr_in (by omega), sr_N (by omega), rw' _ (by omega)]
    rw [if_neg (by decide), if_pos rfl] at H0
    exact ⟨by omega, H0⟩
  · rw [if_neg (by decide), if_pos (by decide)]
    refine W178_103 s3 ?_
    rw [sl_3, sr_mul, sr_add, sr_in (by omega), sr_N (by omega), c1.2.1.2.2 k hk 2 (by omega)]
    rw [if_neg (by decide), if_neg (by decide), if_pos rfl] at H0
    exact ⟨by omega, H0⟩
  · rw [if_neg (by decide), if_neg (by decide), if_pos (by decide)]
    refine W178_79 s3 ?_
    rw [sl_2, sr_mul, sl_1, sr_add, sr_in (by omega), sr_N (by omega), rw' _ (by omega)]
    rw [if_neg (by decide), if_neg (by decide), if_neg (by decide), if_pos rfl] at H0
    exact ⟨by omega, H0⟩
  · rw [if_neg (by decide), if_neg (by decide), if_neg (by decide), if_pos (by decide)]
    refine W178_90 s3 ?_
    simp only [show ¬ (4 : Nat) = 0 by decide, show ¬ (4 : Nat) = 1 by decide, show ¬ (4 : Nat) = 2 by decide, show ¬ (4 : Nat) = 3 by decide, if_false] at H
    rw [rw' 16 (by omega), xv.1.1.1]
    refine S180 s3 c1 vd hk xv.1.1.2 ?_
    intro h2 f2 c2 s4
    refine ⟨_, rfl, ?_⟩
    exact H h2 (FR_trans f1 (FR_mono f2 (fun o j z => Or.inl z))) c2 ((FR_I f2 (by omega)).trans e0)
theorem S178n {S : GS} {d : Nat} {v1 v2 : Int32} {h : ajH} {Q : Option Value → ajH → Prop} (hs : ajShp h) (c : MI S h) (e : skOK S v1 v2 = false)
    (H : ∀ h', FR h h' PSk → MI S h' → ajI h' 320 0 = 1 → Q (some (.int 0)) h') : ajEv (d + 4) 178 0 [.ref 320, .int v1, .int v2] [] h Q := by
  have fin : ajEv (d + 4) 178 26 [.ref 320, .int v1, .int v2] [.int 1, .ref 320] h Q := by
    refine W178_26 hs ?_
    rintro _ rfl
    have e0 : ajI (ajSI h 320 0 1) 320 0 = 1 := by rw [ajI_SI, if_pos ⟨rfl, rfl⟩]
    rw [e0, if_neg (by decide)]
    exact H _ (FR_SI h (by unfold PSk; omega)) (MI_0 c) e0
  refine W178_0 hs ?_
  refine S179 hs c.2.1 ?_
  intro s1
  refine ⟨_, rfl, ?_⟩
  unfold skOK at e
  cases e1 : isp (gz S) v1 with
  | false => rw [if_pos (show flg false = 0 from rfl)]; exact fin
  | true =>
    rw [e1, Bool.true_and] at e
    rw [if_neg (by decide)]
    refine S145 (lo := 0) (hi := 4) s1 ?_
    intro s2
    refine ⟨_, rfl, ?_⟩
    have q2 := in_isp (n := 5) (v := v2) (by omega)
    rw [show nI 5 - 1 = (4 : Int32) from rfl] at q2
    rw [q2, e, if_pos (show flg false = 0 from rfl)]
    exact fin
