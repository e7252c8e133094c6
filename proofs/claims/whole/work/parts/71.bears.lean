/-! Who bears what, on both sides. -/
theorem ftf_on {n : Nat} {m : Int32} {s : Nat} : ∀ f j, ftf n m s f j = 99 ∨ hb m (ftf n m s f j) = true := by
  intro f
  induction f with
  | zero => intro j; exact Or.inl rfl
  | succ f ih =>
    intro j
    unfold ftf
    split
    · rename_i e; exact Or.inr e
    · exact ih (j + 1)
theorem br_off {E : EV} {m : Int32} {b k : Nat} (hk : k < 8) (h : hb m k = false) : br E m b k = 0 := by
  have ne : ∀ s, ¬ k = ft (eN E) m s := fun s z => by
    unfold ft at z
    rcases ftf_on (n := eN E) (m := m) (s := s) (eN E) 0 with y | y
    · omega
    · rw [← z, h] at y; cases y
  unfold br add1
  rw [if_neg (ne _), if_neg (ne _), if_neg (ne _)]
noncomputable def aBears (S : GS) (v1 v2 : Int32) : Int32 := if (isp (gz S) v1 && isp (gz S) v2) = true then br (gE S) (onM (gz S) (gX S).1) v2.toNatClampNeg v1.toNatClampNeg else -1
theorem be_n {S : GS} {v1 v2 : Int32} {h : ajH} {Q : Option Value → ajH → Prop} (H : Q (some (.int (aBears S v1 v2))) h) (e : (isp (gz S) v1 && isp (gz S) v2) = false) : Q (some (.int (-1))) h := by
  unfold aBears at H
  rw [e, if_neg (by decide)] at H
  exact H
theorem S101 {S : GS} {d : Nat} {v1 v2 : Int32} {h : ajH} {Q : Option Value → ajH → Prop} (hs : ajShp h) (c : CI S h) (vd : GVd S)
    (H : ∀ h', FR h h' (fun o j => o < 320) → CI S h' → Q (some (.int (aBears S v1 v2))) h') : ajEv (d + 2) 101 0 [.ref 1, .int v1, .int v2] [] h Q := by
  have z8 := vd.z8
  refine W101_0 hs ?_
  refine S58 hs c.2.1 ?_
  intro s1
  refine ⟨_, rfl, ?_⟩
  cases e1 : isp (gz S) v1 with
  | false =>
    rw [if_pos (show flg false = 0 from rfl)]
    exact be_n (H h (FR_refl _ _) c) (by rw [e1]; rfl)
  | true =>
    rw [if_neg (by decide)]
    refine S58 s1 c.2.1 ?_
    intro s2
    refine ⟨_, rfl, ?_⟩
    cases e2 : isp (gz S) v2 with
    | false =>
      rw [if_neg (show ¬ ¬ flg false = 0 from fun z => z rfl)]
      exact be_n (H h (FR_refl _ _) c) (by rw [e2, Bool.and_false])
    | true =>
      rw [if_pos (by decide)]
      obtain ⟨k, hk, rfl⟩ := isp_k z8 e1
      obtain ⟨b, hb0, rfl⟩ := isp_k z8 e2
      have ce := CI_CE c.2.1 vd (by omega)
      rw [c.2.2.2.1.1.1.1]
      refine S68 (E := gE S) (ajKc rfl) (ajKc rfl) (by omega) s2 ce hb0 ?_
      intro h1 f1 x1 s3
      refine ⟨rfl, ?_⟩
      have c1 : CI S h1 := CI_FR c f1 (fun o j z => by unfold b1 b2 b3 b4 b5 b6 b7; omega)
      have H2 := H h1 (FR_mono f1 (fun o j z => by omega)) c1
      unfold aBears at H2
      rw [e1, e2, if_pos (show (true && true) = true from rfl), sr_N (by omega), sr_N (by omega)] at H2
      refine S72c (ajKc rfl) s3 c1.2.2.2.1.1 z8 hk ?_
      intro s4
      refine ⟨_, rfl, ?_⟩
      cases e3 : onB (gX S).1 k with
      | false =>
        rw [if_pos (show flg false = 0 from rfl)]
        rw [br_off (by omega) (by unfold onM; rw [on_k z8 hk]; exact e3)] at H2
        exact H2
      | true =>
        rw [if_neg (by decide), sr_in (by omega), sr_N (by omega)]
        refine ⟨by omega, ?_⟩
        have e62 : ajI h1 62 k = br (gE S) (mk (onB (gX S).1) (gz S)) b k := x1 k (by omega)
        rw [e62]
        exact H2
theorem S180 {S : GS} {d k b : Nat} {h : ajH} {Q : Option Value → ajH → Prop} (hs : ajShp h) (c : MI S h) (vd : GVd S) (hk : k < gz S) (hb0 : b < gz S)
    (H : ∀ h', FR h h' (fun o _ => o = 333) → MI S h' → Q (some (.int (br (gE S) (onM (gz S) (gX S).1) b k))) h') : ajEv (d + 3) 180 0 [.ref 320, .int (nI k), .int (nI b)] [] h Q := by
  have z8 := vd.z8
  have me := MI_ME c.2.1 vd (by omega)
  refine W180_0 hs ?_
  refine S181 (E := gE S) (Or.inl rfl) hs me (mX0 c.2.2.2.1).1 ?_
  intro s1
  refine ⟨_, rfl, ?_⟩
  rw [thM_0]
  refine S182 s1 me hb0 ?_
  intro h1 f1 x1 s2
  refine ⟨rfl, ?_⟩
  rw [sr_in (by omega), sr_N (by omega), x1 k (by omega)]
  exact ⟨by omega, H h1 f1 (MI_FR8 c f1 (fun o j z => by unfold d1 d2 d3 d4 d5 d6 d7; omega))⟩
theorem S219 {S : GS} {d : Nat} {v1 v2 : Int32} {h : ajH} {Q : Option Value → ajH → Prop} (hs : ajShp h) (c : MI S h) (vd : GVd S)
    (H : ∀ h', FR h h' (fun o j => 320 ≤ o ∧ o < 1000) → MI S h' → Q (some (.int (aBears S v1 v2))) h') : ajEv (d + 4) 219 0 [.ref 320, .int v1, .int v2] [] h Q := by
  have z8 := vd.z8
  refine W219_0 hs ?_
  rintro _ rfl
  have c0 := MI_0 (x := 0) c
  have f0 : FR h (ajSI h 320 0 0) (fun o j => 320 ≤ o ∧ o < 1000) := FR_SI h (by omega)
  have s0 : ajShp (ajSI h 320 0 0) := hs
  generalize ajSI h 320 0 0 = h0 at c0 f0 s0
  refine S179 s0 c0.2.1 ?_
  intro s1
  refine ⟨_, rfl, ?_⟩
  cases e1 : isp (gz S) v1 with
  | false =>
    rw [if_pos (show flg false = 0 from rfl)]
    exact be_n (H h0 f0 c0) (by rw [e1]; rfl)
  | true =>
    rw [if_neg (by decide)]
    refine S179 s1 c0.2.1 ?_
    intro s2
    refine ⟨_, rfl, ?_⟩
    cases e2 : isp (gz S) v2 with
    | false =>
      rw [if_pos (show flg false = 0 from rfl)]
      exact be_n (H h0 f0 c0) (by rw [e2, Bool.and_false])
    | true =>
      rw [if_neg (by decide)]
      obtain ⟨k, hk, rfl⟩ := isp_k z8 e1
      obtain ⟨b, hb0, rfl⟩ := isp_k z8 e2
      refine S180 s2 c0 vd hk hb0 ?_
      intro h1 f1 c1 s3
      refine ⟨_, rfl, ?_⟩
      have H2 := H h1 (FR_trans f0 (FR_mono f1 (fun o j z => by omega))) c1
      unfold aBears at H2
      rw [e1, e2, if_pos (show (true && true) = true from rfl), sr_N (by omega), sr_N (by omega)] at H2
      exact H2
