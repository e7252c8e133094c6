/-! The powers of votes. -/
theorem hb_tb (k : Nat) {i : Nat} (hi : i < 32) : hb (nI k) i = k.testBit i := by
  show (BitVec.ofNat 32 k).getLsbD i = _
  rw [BitVec.getLsbD_ofNat, decide_eq_true hi, Bool.true_and]
theorem sub_le {k M : Nat} (hk : k < 256) (e : nI k &&& (nI M ^^^ -1) = 0) : k ≤ M := by
  have h : k &&& M = k := Nat.eq_of_testBit_eq (fun i => by
    rw [Nat.testBit_and]
    by_cases hi : i < 32
    · cases y : k.testBit i with
      | false => rfl
      | true =>
        have := congrArg (fun m => hb m i) e
        simp only [hb_and, hb_0, hb_not _ hi, hb_tb _ hi] at this
        rw [y] at this
        cases z : M.testBit i with
        | true => rfl
        | false => rw [z] at this; cases this
    · have : k.testBit i = false := Nat.testBit_lt_two_pow (Nat.lt_of_lt_of_le hk (by
        have : 2 ^ 8 ≤ 2 ^ i := Nat.pow_le_pow_right (by omega) (by omega)
        exact this))
      rw [this]; rfl)
  rw [← h]; exact Nat.and_le_right
theorem bc_off : ∀ k < 8, ∀ m < 256, hb (nI m) k = true → bcF (nI m &&& (bt k ^^^ -1)) + 1 = bcF (nI m) := by decide +kernel
def pwF (w m : Int32) : Nat → Nat → Int32 → Int32
  | 0, _, a => a
  | f + 1, k, a => if nI k &&& (m ^^^ -1) = 0 ∧ ¬ w < 2 * bcF (nI k) ∧ ¬ 2 * (bcF (nI k) + 1) ≤ w then pwF w m f (k + 1) (a + 1) else pwF w m f (k + 1) a
theorem pwF_hi (w : Int32) (M : Nat) : ∀ f k a, M < k → k + f ≤ 256 → pwF w (nI M) f k a = a := by
  intro f
  induction f with
  | zero => intro k a _ _; rfl
  | succ f ih =>
    intro k a h1 h2
    unfold pwF
    rw [if_neg (fun z => by have := sub_le (by omega) z.1; omega)]
    exact ih (k + 1) a (by omega) (by omega)
theorem pwF_ad (w m : Int32) : ∀ f g k a, pwF w m (f + g) k a = pwF w m g (k + f) (pwF w m f k a) := by
  intro f
  induction f with
  | zero => intro g k a; rw [Nat.zero_add]; rfl
  | succ f ih =>
    intro g k a
    rw [show f + 1 + g = (f + g) + 1 by omega, show k + (f + 1) = k + 1 + f by omega]
    have e1 : pwF w m (f + g + 1) k a = if nI k &&& (m ^^^ -1) = 0 ∧ ¬ w < 2 * bcF (nI k) ∧ ¬ 2 * (bcF (nI k) + 1) ≤ w then pwF w m (f + g) (k + 1) (a + 1) else pwF w m (f + g) (k + 1) a := rfl
    have e2 : pwF w m (f + 1) k a = if nI k &&& (m ^^^ -1) = 0 ∧ ¬ w < 2 * bcF (nI k) ∧ ¬ 2 * (bcF (nI k) + 1) ≤ w then pwF w m f (k + 1) (a + 1) else pwF w m f (k + 1) a := rfl
    rw [e1, e2]
    split
    · exact ih g (k + 1) (a + 1)
    · exact ih g (k + 1) a
noncomputable def pwM (S : GS) (k : Nat) : Int32 := mk (onB (gX S).1) (gz S) &&& (bt k ^^^ -1)
noncomputable def aPow (S : GS) (v : Int32) : Int32 := if (isp (gz S) v && onB (gX S).1 v.toNatClampNeg) = true then pwF (bcF (mk (onB (gX S).1) (gz S))) (pwM S v.toNatClampNeg) (2 ^ gz S) 0 0 else -1
theorem pw_n {S : GS} {v : Int32} {h : ajH} {Q : Option Value → ajH → Prop} (H : Q (some (.int (aPow S v))) h) (e : (isp (gz S) v && onB (gX S).1 v.toNatClampNeg) = false) : Q (some (.int (-1))) h := by
  unfold aPow at H
  rw [e, if_neg (by decide)] at H
  exact H
theorem pwM_n {S : GS} {k : Nat} (z8 : gz S ≤ 8) (hk : k < gz S) : ∃ M, M < 2 ^ gz S ∧ pwM S k = nI M := by
  unfold pwM
  rw [mk_off _ (by omega) (by omega)]
  exact mk_lt _ _ z8
theorem S119_52 {d M : Nat} {w : Int32} {h : ajH} {Q : Option Value → ajH → Prop} (hs : ajShp h) (hM : M < 256) : ∀ (f k : Nat) (a : Int32) (u0 u1 u6 : Value), k + f = M + 1 →
    Q (some (.int (pwF w (nI M) f k a))) h → ajEv (d + 1) 119 52 [u0, u1, .int w, .int (nI M), .int a, .int (nI k), u6] [] h Q := by
  intro f
  induction f with
  | zero =>
    intro k a u0 u1 u6 hk H
    refine W119_52 hs ?_
    rw [if_pos (by rw [sr_lt (by omega) (by omega)]; omega)]
    exact H
  | succ f ih =>
    intro k a u0 u1 u6 hk H
    refine W119_52 hs ?_
    rw [if_neg (by rw [sr_lt (by omega) (by omega)]; omega)]
    refine S258 hs ?_
    intro s1
    refine ⟨_, rfl, ?_⟩
    unfold pwF at H
    rw [nI_1]
    by_cases y1 : nI k &&& (nI M ^^^ -1) = 0
    · rw [if_neg (fun z => z y1)]
      by_cases y2 : w < 2 * bcF (nI k)
      · rw [if_pos y2]
        rw [if_neg (fun z => z.2.1 y2)] at H
        exact ih (k + 1) a _ _ _ (by omega) H
      · rw [if_neg y2]
        by_cases y3 : 2 * (bcF (nI k) + 1) ≤ w
        · rw [if_pos y3]
          rw [if_neg (fun z => z.2.2 y3)] at H
          exact ih (k + 1) a _ _ _ (by omega) H
        · rw [if_neg y3]
          rw [if_pos ⟨y1, y2, y3⟩] at H
          exact ih (k + 1) (a + 1) _ _ _ (by omega) H
    · rw [if_pos y1]
      rw [if_neg (fun z => y1 z.1)] at H
      exact ih (k + 1) a _ _ _ (by omega) H
theorem S119 {S : GS} {d : Nat} {v : Int32} {h : ajH} {Q : Option Value → ajH → Prop} (hs : ajShp h) (c : CI S h) (vd : GVd S)
    (H : Q (some (.int (aPow S v))) h) : ajEv (d + 1) 119 0 [.ref 1, .int v, ajU, ajU, ajU, ajU, ajU] [] h Q := by
  have z8 := vd.z8
  have p8 : 2 ^ gz S ≤ 2 ^ 8 := Nat.pow_le_pow_right (by omega) z8
  refine W119_0 hs ?_
  refine S58 hs c.2.1 ?_
  intro s1
  refine ⟨_, rfl, ?_⟩
  cases e1 : isp (gz S) v with
  | false =>
    rw [if_pos (show flg false = 0 from rfl)]
    exact pw_n H (by rw [e1]; rfl)
  | true =>
    rw [if_neg (by decide)]
    obtain ⟨k, hk, rfl⟩ := isp_k z8 e1
    refine S72b (ajKc rfl) s1 (CS_CB c.2.2.2.1.1) z8 hk ?_
    intro s2
    refine ⟨_, rfl, ?_⟩
    cases e2 : onB (gX S).1 k with
    | false =>
      rw [if_neg (show ¬ ¬ flg false = 0 from fun z => z rfl)]
      exact pw_n H (by rw [e1, sr_N (by omega), e2]; rfl)
    | true =>
      rw [if_pos (by decide)]
      refine S258 s2 ?_
      intro s3
      refine ⟨_, rfl, ?_⟩
      obtain ⟨M, hM, eM⟩ := pwM_n z8 hk
      unfold aPow at H
      rw [e1, sr_N (by omega), e2, if_pos (show (true && true) = true from rfl), eM] at H
      rw [c.2.2.2.1.1.1.1, bt_def]
      have eM' : mk (onB (gX S).1) (gz S) &&& (bt k ^^^ -1) = nI M := eM
      rw [eM']
      rw [show 2 ^ gz S = (M + 1) + (2 ^ gz S - (M + 1)) by omega, pwF_ad, pwF_hi _ _ _ _ _ (by omega) (by omega)] at H
      exact S119_52 s3 (by omega) (M + 1) 0 0 _ _ _ (by omega) H
theorem S231_55 {S : GS} {d M : Nat} {w : Int32} {h : ajH} {Q : Option Value → ajH → Prop} (z8 : gz S ≤ 8) (hs : ajShp h) (c : r2 S h) : ∀ (f k : Nat) (a : Int32) (u1 u6 : Value), k + f = 2 ^ gz S →
    Q (some (.int (pwF w (nI M) f k a))) h → ajEv (d + 1) 231 55 [.ref 320, u1, .int (nI M), .int w, .int a, .int (nI k), u6] [] h Q := by
  have p8 : 2 ^ gz S ≤ 2 ^ 8 := Nat.pow_le_pow_right (by omega) z8
  intro f
  induction f with
  | zero =>
    intro k a u1 u6 hk H
    refine W231_55 hs ?_
    rw [c.1, bt_8 _ z8, if_pos (by rw [sr_le (by omega) (by omega)]; omega)]
    exact H
  | succ f ih =>
    intro k a u1 u6 hk H
    refine W231_55 hs ?_
    rw [c.1, bt_8 _ z8, if_neg (by rw [sr_le (by omega) (by omega)]; omega)]
    refine S258 hs ?_
    intro s1
    refine ⟨_, rfl, ?_⟩
    unfold pwF at H
    rw [nI_1]
    by_cases y1 : nI k &&& (nI M ^^^ -1) = 0
    · rw [if_neg (fun z => z y1)]
      by_cases y2 : w < 2 * bcF (nI k)
      · rw [if_pos y2]
        rw [if_neg (fun z => z.2.1 y2)] at H
        exact ih (k + 1) a _ _ (by omega) H
      · rw [if_neg y2]
        by_cases y3 : 2 * (bcF (nI k) + 1) ≤ w
        · rw [if_pos y3]
          rw [if_neg (fun z => z.2.2 y3)] at H
          exact ih (k + 1) a _ _ (by omega) H
        · rw [if_neg y3]
          rw [if_pos ⟨y1, y2, y3⟩] at H
          exact ih (k + 1) (a + 1) _ _ (by omega) H
    · rw [if_pos y1]
      rw [if_neg (fun z => y1 z.1)] at H
      exact ih (k + 1) a _ _ (by omega) H
theorem S231 {S : GS} {d : Nat} {v : Int32} {h : ajH} {Q : Option Value → ajH → Prop} (hs : ajShp h) (c : MI S h) (vd : GVd S)
    (H : ∀ h', FR h h' (fun o j => o = 320 ∧ j = 0) → MI S h' → Q (some (.int (aPow S v))) h') : ajEv (d + 1) 231 0 [.ref 320, .int v, ajU, ajU, ajU, ajU, ajU] [] h Q := by
  have z8 := vd.z8
  have p8 : 2 ^ gz S ≤ 2 ^ 8 := Nat.pow_le_pow_right (by omega) z8
  refine W231_0 hs ?_
  rintro _ rfl
  have c0 := MI_0 (x := 0) c
  have f0 : FR h (ajSI h 320 0 0) (fun o j => o = 320 ∧ j = 0) := FR_SI h ⟨rfl, rfl⟩
  have s0 : ajShp (ajSI h 320 0 0) := hs
  generalize ajSI h 320 0 0 = h0 at c0 f0 s0
  have H := H h0 f0 c0
  refine S179 s0 c0.2.1 ?_
  intro s1
  refine ⟨_, rfl, ?_⟩
  cases e1 : isp (gz S) v with
  | false =>
    rw [if_pos (show flg false = 0 from rfl)]
    exact pw_n H (by rw [e1]; rfl)
  | true =>
    rw [if_neg (by decide)]
    obtain ⟨k, hk, rfl⟩ := isp_k z8 e1
    have rw0 := (mX0 c0.2.2.2.1).1
    refine S193 (Or.inl rfl) s1 rw0 (by omega) ?_
    intro s2
    refine ⟨_, rfl, ?_⟩
    cases e2 : onB (gX S).1 k with
    | false =>
      rw [if_neg (show ¬ ¬ flg false = 0 from fun z => z rfl)]
      exact pw_n H (by rw [e1, sr_N (by omega), e2]; rfl)
    | true =>
      rw [if_pos (by decide)]
      refine S181 (E := gE S) (Or.inl rfl) s2 (MI_ME c0.2.1 vd (by omega)) rw0 ?_
      intro s3
      refine ⟨_, rfl, ?_⟩
      refine S258 s3 ?_
      intro s4
      refine ⟨_, rfl, ?_⟩
      obtain ⟨M, hM, eM⟩ := pwM_n z8 hk
      obtain ⟨N, hN, eN2⟩ := mk_lt (onB (gX S).1) (gz S) z8
      have hon : hb (nI N) k = true := by rw [← eN2, on_k z8 hk]; exact e2
      have ebc := bc_off k (by omega) N (by omega) hon
      rw [← eN2] at ebc
      unfold aPow at H
      rw [e1, sr_N (by omega), e2, if_pos (show (true && true) = true from rfl), ← ebc] at H
      have eT : thM (eN (gE S)) (gX S).1 0 = mk (onB (gX S).1) (gz S) := rfl
      rw [eT, bt_def]
      have eM' : mk (onB (gX S).1) (gz S) &&& (bt k ^^^ -1) = nI M := eM
      rw [eM] at H
      rw [eM'] at H ⊢
      exact S231_55 z8 s4 c0.2.1 (2 ^ gz S) 0 0 _ _ (by omega) H
