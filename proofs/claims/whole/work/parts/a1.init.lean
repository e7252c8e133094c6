/-! What both sides hold as they begin; the law's run, whole. -/
theorem c0_sc {h : ajH} {xs : Nat → Int32} (H : ∀ a k, 1000 ≤ a → ajI h a k = ajCI xs a k) : SC h := by
  intro q hq
  unfold sTx at hq
  rcases hq with rfl | rfl | rfl | rfl | rfl
  · exact ⟨(H 1010 0 (by omega)).trans rfl, fun i hi => (H 1030 i (by omega)).trans ((by decide : ∀ i < 6, (ajCo.getD 30 []).getD i 0 = nI ((ajStr 1010).getD i 0)) i hi)⟩
  · exact ⟨(H 1011 0 (by omega)).trans rfl, fun i hi => (H 1031 i (by omega)).trans ((by decide : ∀ i < 4, (ajCo.getD 31 []).getD i 0 = nI ((ajStr 1011).getD i 0)) i hi)⟩
  · exact ⟨(H 1012 0 (by omega)).trans rfl, fun i hi => (H 1032 i (by omega)).trans ((by decide : ∀ i < 3, (ajCo.getD 32 []).getD i 0 = nI ((ajStr 1012).getD i 0)) i hi)⟩
  · exact ⟨(H 1013 0 (by omega)).trans rfl, fun i hi => (H 1033 i (by omega)).trans ((by decide : ∀ i < 4, (ajCo.getD 33 []).getD i 0 = nI ((ajStr 1013).getD i 0)) i hi)⟩
  · exact ⟨(H 1015 0 (by omega)).trans rfl, fun i hi => (H 1035 i (by omega)).trans ((by decide : ∀ i < 1, (ajCo.getD 35 []).getD i 0 = nI ((ajStr 1015).getD i 0)) i hi)⟩
theorem c0_sa {h : ajH} {xs : Nat → Int32} (H : ∀ a k, 1000 ≤ a → ajI h a k = ajCI xs a k) : SA h :=
  ⟨fun j hj => (H 1000 j (by omega)).trans ((by decide : ∀ j < 4, (ajCo.getD 0 []).getD j 0 = nI (kUs false j)) j hj),
   fun j hj => (H 1001 j (by omega)).trans ((by decide : ∀ j < 4, (ajCo.getD 1 []).getD j 0 = nI (kLo false j)) j hj),
   fun j hj => (H 1002 j (by omega)).trans ((by decide : ∀ j < 4, (ajCo.getD 2 []).getD j 0 = nI (kHi false j)) j hj),
   fun j hj => (H 1003 j (by omega)).trans ((by decide : ∀ j < 3, (ajCo.getD 3 []).getD j 0 = nI (kUs true j)) j hj),
   fun j hj => (H 1004 j (by omega)).trans ((by decide : ∀ j < 3, (ajCo.getD 4 []).getD j 0 = nI (kLo true j)) j hj),
   fun j hj => (H 1005 j (by omega)).trans ((by decide : ∀ j < 3, (ajCo.getD 5 []).getD j 0 = nI (kHi true j)) j hj)⟩
def X0 : XT := (fun _ => 0, 0, fun _ _ => 0)
/-- both sides as they begin -/
def GS0 : GS := ((fun _ => 0, 0), (0, fun _ => 0, fun _ _ => 0), (0, fun _ _ => 0, fun _ => 0, -1, 3), (0, fun _ => 0, fun _ _ => 0, fun _ _ => 0), X0, (0, fun _ => X0), (false, X0), (0, fun _ => 0, fun _ => false))
theorem GVd_0 : GVd GS0 :=
  ⟨Nat.zero_le _, fun k hk => absurd hk (Nat.not_lt_zero _), ⟨by decide, by decide⟩, fun _ => rfl, Nat.zero_le _, Or.inl rfl, ⟨3, by omega, rfl⟩, Nat.zero_le _, fun i hi => absurd hi (Nat.not_lt_zero _), fun z => absurd z (Nat.lt_irrefl 0), Nat.zero_le _, fun _ => ⟨rfl, rfl, rfl⟩, fun i hi => absurd hi (Nat.not_lt_zero _), fun e => Bool.noConfusion (show false = true from e), Nat.zero_le _, fun i hi => absurd hi (Nat.not_lt_zero _), fun _ => ⟨rfl, rfl⟩⟩
/-- a heap in which all is nought but what begins otherwise -/
def Z0 (h : ajH) : Prop := (∀ o j, 1 ≤ o → o < 1000 → ¬ (o = 1 ∧ (j = 6 ∨ j = 10) ∨ o = 320 ∧ (j = 30 ∨ j = 31)) → ajI h o j = 0) ∧ ajI h 1 6 = -1 ∧ ajI h 1 10 = 3 ∧ ajI h 320 30 = -1 ∧ ajI h 320 31 = 3 ∧ ∀ o j, 1 ≤ o → o < 1000 → ajL h o j = 0
theorem CI_0 {h : ajH} (z : Z0 h) (sc : SC h) (sa : SA h) : CI GS0 h := by
  obtain ⟨z, e6, e10, _, _, _⟩ := z
  have q : ∀ o j, 1 ≤ o → o < 320 → ¬ o = 1 → ajI h o j = 0 := fun o j h1 h2 h3 => z o j h1 (by omega) (by omega)
  refine ⟨⟨⟨q 2 1 (by omega) (by omega) (by omega), Nat.zero_le _, fun k => by show 0 < 256; omega, fun k hk => absurd hk (Nat.not_lt_zero _)⟩, sc, sa⟩, ⟨q 4 0 (by omega) (by omega) (by omega), fun j _ => q 5 j (by omega) (by omega) (by omega), fun k hk => absurd hk (Nat.not_lt_zero _)⟩, ⟨⟨z 1 5 (by omega) (by omega) (by omega), e6, e10, z 1 9 (by omega) (by omega) (by omega), z 1 14 (by omega) (by omega) (by omega)⟩, Nat.zero_le _, Nat.zero_le _, fun i hi => absurd hi (Nat.not_lt_zero _), fun i hi => absurd hi (Nat.not_lt_zero _)⟩, ⟨⟨⟨?_, ?_, ?_, ?_, ?_, ?_, ?_, ?_⟩, fun k hk => absurd hk (Nat.not_lt_zero _)⟩, ?_, fun e he => absurd he (Nat.not_lt_zero _)⟩, ⟨q 69 2 (by omega) (by omega) (by omega), Nat.zero_le _, 0, by omega, q 69 1 (by omega) (by omega) (by omega), fun i hi => absurd hi (Nat.not_lt_zero _)⟩, fun e => Bool.noConfusion (show false = true from e), ⟨q 271 0 (by omega) (by omega) (by omega), q 271 1 (by omega) (by omega) (by omega), q 271 2 (by omega) (by omega) (by omega), q 271 3 (by omega) (by omega) (by omega)⟩⟩
  all_goals exact q 54 _ (by omega) (by omega) (by omega)
theorem MI_00 {h : ajH} (z : Z0 h) (sc : SC h) : MI GS0 h := by
  obtain ⟨z, _, _, e30, e31, zl⟩ := z
  have q : ∀ o j, 321 ≤ o → o < 1000 → ajI h o j = 0 := fun o j h1 h2 => z o j (by omega) h2 (by omega)
  have p : ∀ j, ¬ j = 30 → ¬ j = 31 → ajI h 320 j = 0 := fun j h1 h2 => z 320 j (by omega) (by omega) (by omega)
  refine ⟨⟨⟨p 6 (by omega) (by omega), Nat.zero_le _, fun k => by show 0 < 256; omega, fun k hk => absurd hk (Nat.not_lt_zero _)⟩, sc⟩, ⟨p 24 (by omega) (by omega), fun j _ _ => q 325 j (by omega) (by omega), fun k hk => absurd hk (Nat.not_lt_zero _)⟩, ⟨⟨p 7 (by omega) (by omega), e30, e31, p 26 (by omega) (by omega), p 48 (by omega) (by omega)⟩, Nat.zero_le _, ⟨Nat.zero_le _, fun i hi => absurd hi (Nat.not_lt_zero _)⟩, fun i hi => absurd hi (Nat.not_lt_zero _)⟩, ⟨fun k _ => q 331 _ (by omega) (by omega), q 331 _ (by omega) (by omega), fun i hi => absurd hi (Nat.not_lt_zero _)⟩, ⟨p 39 (by omega) (by omega), Nat.zero_le _, fun i hi => absurd hi (Nat.not_lt_zero _)⟩, fun e => Bool.noConfusion (show false = true from e), ⟨p 45 (by omega) (by omega), Nat.zero_le _, fun i hi => absurd hi (Nat.not_lt_zero _)⟩, fun s _ => Or.inl (zl 334 s (by omega) (by omega))⟩
/-- the heap at the law's entry -/
def hE (xs : Nat → Int32) (L : Nat) : ajH := ((1, 0, 0, L), (fun a k => if 1000 ≤ a then ajCI xs a k else 0), (fun _ _ => 0), (fun a k => if 1000 ≤ a then ajCR a k else 0))
theorem shC_k : ∀ i < 200, (ajShC.getD i (999, 0)).1 = 50 ∨ (ajShC.getD i (999, 0)).1 = 100 ∨ (ajShC.getD i (999, 0)).1 = 101 ∨ (ajShC.getD i (999, 0)).1 = 999 ∨ (ajShC.getD i (999, 0)).1 = 998 := by decide +kernel
theorem sh_hi {o : Nat} (h : 1000 ≤ o) : (ajSh o).1 = 50 ∨ (ajSh o).1 = 100 ∨ (ajSh o).1 = 101 ∨ (ajSh o).1 = 999 ∨ (ajSh o).1 = 998 := by
  have e : ajSh o = ajShC.getD (o - 1000) (999, 0) := by
    unfold ajSh
    rw [show Nat.ble 1000 o = true by rw [Nat.ble_eq]; exact h]
  rw [e]
  by_cases hi : o - 1000 < 200
  · exact shC_k _ hi
  · have hl : ajShC.length ≤ 200 := by decide +kernel
    rw [List.getD_eq_getElem?_getD, List.getElem?_eq_none (by omega)]
    exact Or.inr (Or.inr (Or.inr (Or.inl rfl)))
theorem rf_hi {o f : Nat} (h : 1000 ≤ o) (hz : ajRf o f ≠ 0) : ajCR o f = ajRf o f := by
  rcases sh_hi h with k | k | k | k | k
  · have hf : f = 1 := by
      unfold ajRf at hz
      rw [k] at hz
      split at hz <;> omega
    subst hf
    unfold ajCR
    rw [if_pos ⟨rfl, k⟩]
    unfold ajRf
    rw [k] <;> rfl
  · exact absurd (ajRf_arr (by omega)) hz
  · exact absurd (ajRf_arr (by omega)) hz
  · refine absurd ?_ hz
    unfold ajRf
    rw [k]
    split <;> first | rfl | omega
  · refine absurd ?_ hz
    unfold ajRf
    rw [k]
    split <;> first | rfl | omega
theorem lawRun (xs : Nat → Int32) {L : Nat} (hL : L ≤ 3072) : ∃ n h', ajRun n 800 263 0 [.ref 1100, ajU, ajU, ajU, ajU, ajU, ajU] [] (hE xs L) = some (some (.int 1), h') ∧ ajN h' = 343 ∧ ajX h' ≤ 512 ∧ ajW h' ≤ 37486 := by
  have hw : ajEv 800 263 0 [.ref 1100, ajU, ajU, ajU, ajU, ajU, ajU] [] (hE xs L) (fun r h' => r = some (.int 1) ∧ ajN h' = 343 ∧ ajX h' ≤ 512 ∧ ajW h' ≤ 37486) := by
    have e0 : ∀ o j, o < 1000 → ajI (hE xs L) o j = 0 := fun o j h => by
      show (if 1000 ≤ o then ajCI xs o j else 0) = 0
      rw [if_neg (by omega)]
    refine B263 (d := 795) (b := hE xs L) rfl (fun o j _ h2 => ⟨e0 o j h2, rfl⟩) rfl rfl ?_
    intro h' g
    have eI : ∀ o j, ajI h' o j = if o = 320 ∧ j = 31 then 3 else if o = 320 ∧ j = 30 then -1 else if o = 1 ∧ j = 10 then 3 else if o = 1 ∧ j = 6 then -1 else ajI (hE xs L) o j := fun o j => by
      rw [g.2.1]
      unfold bL bM bS
      rw [ajI_SI, ajI_SI, ajI_SI, ajI_SI]
    have hs : ajShp h' := by
      refine ⟨sg_N g, fun o f ho hf hz => ?_⟩
      rcases ho with ho | ho
      · by_cases z : o = 0
        · subst z
          exact absurd hf (Nat.not_lt_zero _)
        · exact g.2.2.2.1 o f ⟨by omega, ho⟩ hf hz
      · rw [g.2.2.2.2 o f (by omega)]
        show (if 1000 ≤ o then ajCR o f else 0) = ajRf o f
        rw [if_pos ho]
        exact rf_hi ho hz
    have z : Z0 h' := by
      refine ⟨fun o j h1 h2 hn => ?_, ?_, ?_, ?_, ?_, fun o j _ _ => g.2.2.1 o j⟩
      · rw [eI, if_neg (by omega), if_neg (by omega), if_neg (by omega), if_neg (by omega)]
        exact e0 o j h2
      · rw [eI]; rfl
      · rw [eI]; rfl
      · rw [eI]; rfl
      · rw [eI]; rfl
    have hc : ∀ a k, 1000 ≤ a → ajI h' a k = ajCI xs a k := fun a k ha => by
      rw [eI, if_neg (by omega), if_neg (by omega), if_neg (by omega), if_neg (by omega)]
      show (if 1000 ≤ a then ajCI xs a k else 0) = ajCI xs a k
      rw [if_pos ha]
    refine LWP (W0 := 34414) (d := 739) hL ?_ L 0 GS0 h' ajU ajU (by omega) (by omega) ⟨hs, CI_0 z (c0_sc hc) (c0_sa hc), MI_00 z (c0_sc hc), GVd_0, sg_Q g, by rw [sg_X g]; omega, by rw [sg_W g]; omega⟩
    intro h2 q1 q2 q3
    exact ⟨rfl, q1, q2, q3⟩
  obtain ⟨r, h', e, rfl, q⟩ := hw
  obtain ⟨n, hn⟩ := ajLim_iff.mp e
  exact ⟨n, h', hn, q⟩
