/-! All there is of the wheel. -/
def oumF (g : Nat → Int32) : Nat → Nat → Nat → Nat
  | 0, _, b => b
  | f + 1, i, b => if g i ≤ g b then oumF g f (i + 1) b else oumF g f (i + 1) i
theorem mn1 (x : Int32) : x * -1 = -x := by rw [Int32.mul_neg, Int32.mul_one]
theorem S131_5 {d v n : Nat} {w : Int32} {g : Nat → Int32} {h : ajH} {Q : Option Value → ajH → Prop} (kv : ajKi v 100) (l8 : ajLen h v = 8) (n8 : n ≤ 8) (hs : ajShp h) (e4 : ajI h 4 0 = nI n) (eg : ∀ k, k < n → ajI h v k * w = g k) : ∀ (f i b : Nat), i + f = n → b < i → 
    Q (some (.int (nI (oumF g f i b)))) h → ajEv d 131 5 [.ref 1, .ref v, .int w, .int (nI b), .int (nI i)] [] h Q := by
  intro f
  induction f with
  | zero =>
    intro i b hi hb' H
    refine W131_5 hs kv ?_
    rw [e4, if_pos (by rw [sr_le (by omega) (by omega)]; omega)]
    exact H
  | succ f ih =>
    intro i b hi hb' H
    refine W131_5 hs kv ?_
    rw [e4, l8, if_neg (by rw [sr_le (by omega) (by omega)]; omega), if_neg (show ¬ Int32.ofNat 8 ≤ nI i by rw [show Int32.ofNat 8 = nI 8 from rfl, sr_le (by omega) (by omega)]; omega), sr_in (by omega), sr_in (by omega), sr_N (by omega), sr_N (by omega), eg i (by omega), eg b (by omega), nI_1]
    refine ⟨by omega, by omega, ?_⟩
    have es : oumF g (f + 1) i b = if g i ≤ g b then oumF g f (i + 1) b else oumF g f (i + 1) i := rfl
    rw [es] at H
    by_cases y : g i ≤ g b
    · rw [if_pos y]; rw [if_pos y] at H
      exact ih (i + 1) b (by omega) (by omega) H
    · rw [if_neg y]; rw [if_neg y] at H
      exact ih (i + 1) i (by omega) (by omega) H
theorem S131 {d v n : Nat} {w : Int32} {g : Nat → Int32} {h : ajH} {Q : Option Value → ajH → Prop} (kv : ajKi v 100) (l8 : ajLen h v = 8) (n8 : n ≤ 8) (n1 : 1 ≤ n) (hs : ajShp h) (e4 : ajI h 4 0 = nI n) (eg : ∀ k, k < n → ajI h v k * w = g k)
    (H : Q (some (.int (nI (oumF g (n - 1) 1 0)))) h) : ajEv d 131 0 [.ref 1, .ref v, .int w, ajU, ajU] [] h Q := by
  refine W131_0 hs kv ?_
  exact S131_5 kv l8 n8 hs e4 eg (n - 1) 1 0 (by omega) (by omega) H
theorem S242_4 {S : GS} {d : Nat} {w : Int32} {g : Nat → Int32} {h : ajH} {Q : Option Value → ajH → Prop} (z8 : gz S ≤ 8) (hs : ajShp h) (c : r2 S h) (eg : ∀ k, k < gz S → ∀ Q' : Option Value → ajH → Prop, (ajShp h → Q' (some (.int (g k))) h) → ajEv (d + 1) 243 0 [.ref 320, .int w, .int (nI k)] [] h Q') : ∀ (f i b : Nat), i + f = gz S → b < i → 
    Q (some (.int (nI (oumF g f i b)))) h → ajEv (d + 2) 242 4 [.ref 320, .int w, .int (nI b), .int (nI i)] [] h Q := by
  intro f
  induction f with
  | zero =>
    intro i b hi hb' H
    refine W242_4 hs ?_
    rw [c.1, if_pos (by rw [sr_le (by omega) (by omega)]; omega)]
    exact H
  | succ f ih =>
    intro i b hi hb' H
    refine W242_4 hs ?_
    rw [c.1, if_neg (by rw [sr_le (by omega) (by omega)]; omega), nI_1]
    refine eg i (by omega) _ ?_
    intro s1 s2
    refine ⟨_, rfl, ?_⟩
    refine eg b (by omega) _ ?_
    intro s3 s4
    refine ⟨_, rfl, ?_⟩
    have es : oumF g (f + 1) i b = if g i ≤ g b then oumF g f (i + 1) b else oumF g f (i + 1) i := rfl
    rw [es] at H
    by_cases y : g i ≤ g b
    · rw [if_pos y]; rw [if_pos y] at H
      exact ih (i + 1) b (by omega) (by omega) H
    · rw [if_neg y]; rw [if_neg y] at H
      exact ih (i + 1) i (by omega) (by omega) H
/-- the greatest and the least opinion of those on -/
def apH (R : Nat → Int32) : Nat → Nat
  | 0 => 0
  | n + 1 => if onB R n = true ∧ apH R n < vN R n then vN R n else apH R n
def apL (R : Nat → Int32) : Nat → Nat
  | 0 => 9
  | n + 1 => if onB R n = true ∧ vN R n < apL R n then vN R n else apL R n
def apA (R : Nat → Int32) : Nat → Bool
  | 0 => false
  | n + 1 => onB R n || apA R n
theorem ap_b {R : Nat → Int32} {N : Nat} (hv : ∀ k, k < N → vN R k < 10) : ∀ n, n ≤ N → apH R n < 10 ∧ apL R n < 10 ∧ (apA R n = true → apL R n ≤ apH R n) ∧ (apA R n = false → apH R n = 0 ∧ apL R n = 9) := by
  intro n
  induction n with
  | zero => intro _; exact ⟨by show 0 < 10; omega, by show 9 < 10; omega, fun z => (by cases z), fun _ => ⟨rfl, rfl⟩⟩
  | succ n ih =>
    intro hn
    have v := hv n (by omega)
    obtain ⟨a1, a2, a3, a4⟩ := ih (by omega)
    have eH : apH R (n + 1) = if onB R n = true ∧ apH R n < vN R n then vN R n else apH R n := rfl
    have eL : apL R (n + 1) = if onB R n = true ∧ vN R n < apL R n then vN R n else apL R n := rfl
    have eA : apA R (n + 1) = (onB R n || apA R n) := rfl
    rw [eH, eL, eA]
    cases eo : onB R n with
    | false =>
      simp only [Bool.false_eq_true, false_and, if_false, Bool.false_or]
      exact ⟨a1, a2, a3, a4⟩
    | true =>
      simp only [true_and, Bool.true_or]
      refine ⟨?_, ?_, fun _ => ?_, fun z => by cases z⟩
      · split <;> omega
      · split <;> omega
      · cases ea : apA R n with
        | true =>
          have := a3 ea
          split <;> split <;> omega
        | false =>
          have := a4 ea
          split <;> split <;> omega
theorem mx_nI {a b : Nat} (ha : a < 1000) (hb' : b < 1000) : (if nI a < nI b then nI b else nI a) = nI (if a < b then b else a) := by
  by_cases y : a < b
  · rw [if_pos (by rw [sr_lt (by omega) (by omega)]; exact y), if_pos y]
  · rw [if_neg (by rw [sr_lt (by omega) (by omega)]; exact y), if_neg y]
theorem mn_nI {a b : Nat} (ha : a < 1000) (hb' : b < 1000) : (if nI b < nI a then nI b else nI a) = nI (if b < a then b else a) := by
  by_cases y : b < a
  · rw [if_pos (by rw [sr_lt (by omega) (by omega)]; exact y), if_pos y]
  · rw [if_neg (by rw [sr_lt (by omega) (by omega)]; exact y), if_neg y]
theorem S132_8 {d n T : Nat} {h : ajH} {Q : Option Value → ajH → Prop} {R : Nat → Int32} (n8 : n ≤ 8) (hs : ajShp h) (cs : CS h 54 n R) (rv : RV n T R) (H : Q (some (.int (nI (apH R n - apL R n)))) h) : ∀ (f i : Nat), i + f = n → ajEv (d + 1) 132 8 [.ref 54, .int (nI n), .int (nI (apH R i)), .int (nI (apL R i)), .int (nI i)] [] h Q := by
  have bb := ap_b (R := R) (N := n) (fun k hk => (rv.2.1 k hk).2)
  intro f
  induction f with
  | zero =>
    intro i hi
    obtain rfl : i = n := by omega
    obtain ⟨b1', b2', b3', b4'⟩ := bb i (by omega)
    refine W132_8 hs (ajKc rfl) ?_
    rw [if_pos (by rw [sr_le (by omega) (by omega)]; omega)]
    refine W132_60 hs ?_
    cases ea : apA R i with
    | true =>
      have l := b3' ea
      rw [sr_sub l]
      by_cases y : 0 < apH R i - apL R i
      · rw [if_pos (show (0 : Int32) < nI (apH R i - apL R i) by rw [show (0 : Int32) = nI 0 from rfl, sr_lt (by omega) (by omega)]; exact y)]; exact H
      · rw [if_neg (show ¬ (0 : Int32) < nI (apH R i - apL R i) by rw [show (0 : Int32) = nI 0 from rfl, sr_lt (by omega) (by omega)]; exact y)]
        rw [show apH R i - apL R i = 0 by omega] at H; exact H
    | false =>
      obtain ⟨e1, e2⟩ := b4' ea
      rw [e1, e2] at H ⊢
      rw [if_neg (by decide)]; exact H
  | succ f ih =>
    intro i hi
    obtain ⟨b1', b2', b3', b4'⟩ := bb i (by omega)
    have v := rv.2.1 i (by omega)
    have ih1 := ih (i + 1) (by omega)
    have eH : apH R (i + 1) = if onB R i = true ∧ apH R i < vN R i then vN R i else apH R i := rfl
    have eL : apL R (i + 1) = if onB R i = true ∧ vN R i < apL R i then vN R i else apL R i := rfl
    rw [eH, eL] at ih1
    refine W132_8 hs (ajKc rfl) ?_
    rw [if_neg (by rw [sr_le (by omega) (by omega)]; omega), if_neg (by rw [sl_8, sr_le (by omega) (by omega)]; omega), nI_1]
    refine S72b (ajKc rfl) hs (CS_CB cs) n8 (by omega) ?_
    intro s1
    refine ⟨_, rfl, ?_⟩
    cases eo : onB R i with
    | false =>
      rw [if_pos (show flg false = 0 from rfl)]
      rw [eo, if_neg (fun z => by cases z.1), if_neg (fun z => by cases z.1)] at ih1
      exact ih1
    | true =>
      rw [if_neg (by decide), sr_in (by omega), sr_N (by omega), cs.2 i (by omega), v.1, mx_nI (by omega) (by omega), mn_nI (by omega) (by omega)]
      rw [eo] at ih1
      simp only [true_and] at ih1
      exact ⟨by omega, by omega, ih1⟩
theorem S245_7 {S : GS} {d T : Nat} {h : ajH} {Q : Option Value → ajH → Prop} {R : Nat → Int32} (z8 : gz S ≤ 8) (hs : ajShp h) (c : r2 S h) (rw0 : RW h 331 R) (rv : RV (gz S) T R) (H : Q (some (.int (nI (apH R (gz S) - apL R (gz S))))) h) : ∀ (f i : Nat), i + f = gz S → ajEv (d + 1) 245 7 [.ref 320, .int (if apA R i = true then nI (apL R i) else 99), .int (if apA R i = true then nI (apH R i) else -1), .int (nI i)] [] h Q := by
  have bb := ap_b (R := R) (N := gz S) (fun k hk => (rv.2.1 k hk).2)
  intro f
  induction f with
  | zero =>
    intro i hi
    obtain rfl : i = gz S := by omega
    obtain ⟨b1', b2', b3', b4'⟩ := bb (gz S) (by omega)
    refine W245_7 hs ?_
    rw [c.1, if_pos (by rw [sr_le (by omega) (by omega)]; omega)]
    cases ea : apA R (gz S) with
    | true =>
      have l := b3' ea
      rw [if_pos rfl, if_pos rfl, sr_sub l, if_pos (show ¬ nI (apH R (gz S)) = -1 from (by decide +kernel : ∀ k < 10, ¬ nI k = -1) _ b1')]
      exact H
    | false =>
      obtain ⟨e1, e2⟩ := b4' ea
      rw [if_neg (show ¬ false = true by decide), if_neg (show ¬ false = true by decide), if_neg (show ¬ ¬ (-1 : Int32) = -1 from fun z => z rfl)]
      rw [e1, e2] at H
      exact H
  | succ f ih =>
    intro i hi
    obtain ⟨b1', b2', b3', b4'⟩ := bb i (by omega)
    have v := rv.2.1 i (by omega)
    have ih1 := ih (i + 1) (by omega)
    have eH : apH R (i + 1) = if onB R i = true ∧ apH R i < vN R i then vN R i else apH R i := rfl
    have eL : apL R (i + 1) = if onB R i = true ∧ vN R i < apL R i then vN R i else apL R i := rfl
    have eA : apA R (i + 1) = (onB R i || apA R i) := rfl
    rw [eH, eL, eA] at ih1
    refine W245_7 hs ?_
    rw [c.1, if_neg (by rw [sr_le (by omega) (by omega)]; omega), nI_1]
    refine S193 (Or.inl rfl) hs rw0 (by omega) ?_
    intro s1
    refine ⟨_, rfl, ?_⟩
    cases eo : onB R i with
    | false =>
      rw [if_neg (show ¬ ¬ flg false = 0 from fun z => z rfl)]
      rw [eo, Bool.false_or] at ih1
      simp only [Bool.false_eq_true, false_and, if_false] at ih1
      exact ih1
    | true =>
      rw [if_pos (by decide), sl_2, sr_mul, Int32.add_zero, sr_in (by omega), sr_N (by omega), rw0 _ (by omega), v.1]
      rw [eo, Bool.true_or] at ih1
      simp only [true_and, if_true] at ih1
      refine ⟨by omega, by omega, ?_⟩
      cases ea : apA R i with
      | true =>
        rw [if_pos rfl, if_pos rfl, mx_nI (by omega) (by omega), mn_nI (by omega) (by omega)]
        exact ih1
      | false =>
        obtain ⟨e1, e2⟩ := b4' ea
        rw [if_neg (show ¬ false = true by decide), if_neg (show ¬ false = true by decide), if_pos (show nI (vN R i) < 99 by rw [sl_99, sr_lt (by omega) (by omega)]; omega), if_pos (show (-1 : Int32) < nI (vN R i) from (by decide +kernel : ∀ k < 10, (-1 : Int32) < nI k) _ v.2)]
        rw [e1, e2] at ih1
        have x1 : (if 0 < vN R i then vN R i else 0) = vN R i := by split <;> omega
        have x2 : (if vN R i < 9 then vN R i else 9) = vN R i := by split <;> omega
        rw [x1, x2] at ih1
        exact ih1
/-- who is nearest to what he can bear -/
noncomputable def tiG (E : EV) (R : Nat → Int32) (k : Nat) : Int32 := eS E k - br E (onM (eN E) R) (bN R) k
noncomputable def tiF (E : EV) (R : Nat → Int32) : Nat → Nat → Nat → Int32
  | 0, _, b => if b = 99 then -1 else nI b
  | f + 1, i, b => if onB R i = true ∧ (b = 99 ∨ ¬ tiG E R b ≤ tiG E R i) then tiF E R f (i + 1) i else tiF E R f (i + 1) b
theorem S133_31 {S : GS} {d : Nat} {h : ajH} {Q : Option Value → ajH → Prop} (vd : GVd S) (hs : ajShp h) (c : CI S h) (hz : 0 < gz S) (x : ∀ k, k < 8 → ajI h 62 k = br (gE S) (onM (gz S) (gX S).1) (bN (gX S).1) k) : ∀ (f i b : Nat) (v2 : Int32) (u4 : Value), i + f = gz S → (b = 99 ∨ b < 8 ∧ v2 = tiG (gE S) (gX S).1 b) →
    Q (some (.int (tiF (gE S) (gX S).1 f i b))) h → ajEv (d + 1) 133 31 [.ref 1, .int (if b = 99 then -1 else nI b), .int v2, .int (nI i), u4] [] h Q := by
  have z8 := vd.z8
  have ce := CI_CE c.2.1 vd hz
  intro f
  induction f with
  | zero =>
    intro i b v2 u4 hi hb' H
    refine W133_31 hs ?_
    rw [c.2.1.1, if_pos (by rw [sr_le (by omega) (by omega)]; omega)]
    exact H
  | succ f ih =>
    intro i b v2 u4 hi hb' H
    refine W133_31 hs ?_
    have eg : ajI h 7 i - ajI h 62 i = tiG (gE S) (gX S).1 i := by rw [x i (by omega), (ce.2.2.2.2 i (show i < gz S by omega)).1]; rfl
    rw [c.2.1.1, if_neg (by rw [sr_le (by omega) (by omega)]; omega), sr_in (by omega), sr_N (by omega), eg, nI_1]
    refine ⟨by omega, by omega, ?_⟩
    have es : tiF (gE S) (gX S).1 (f + 1) i b = if onB (gX S).1 i = true ∧ (b = 99 ∨ ¬ tiG (gE S) (gX S).1 b ≤ tiG (gE S) (gX S).1 i) then tiF (gE S) (gX S).1 f (i + 1) i else tiF (gE S) (gX S).1 f (i + 1) b := rfl
    rw [es] at H
    refine S72b (ajKc rfl) hs (CS_CB c.2.2.2.1.1) z8 (by omega) ?_
    intro s1
    refine ⟨_, rfl, ?_⟩
    have tk : Q (some (.int (tiF (gE S) (gX S).1 f (i + 1) i))) h → ∀ u4, ajEv (d + 1) 133 31 [.ref 1, .int (nI i), .int (tiG (gE S) (gX S).1 i), .int (nI (i + 1)), u4] [] h Q := by
      intro q u4
      have r := ih (i + 1) i (tiG (gE S) (gX S).1 i) u4 (by omega) (Or.inr ⟨by omega, rfl⟩) q
      rw [if_neg (show ¬ i = 99 by omega)] at r
      exact r
    cases eo : onB (gX S).1 i with
    | false =>
      rw [if_pos (show flg false = 0 from rfl)]
      rw [if_neg (fun z => by rw [eo] at z; cases z.1)] at H
      exact ih (i + 1) b v2 _ (by omega) hb' H
    | true =>
      rw [if_neg (show ¬ flg true = 0 by decide)]
      by_cases y : b = 99
      · rw [if_pos ⟨eo, Or.inl y⟩] at H
        rw [if_pos y, if_pos rfl]
        exact tk H _
      · obtain ⟨b8, rfl⟩ : b < 8 ∧ v2 = tiG (gE S) (gX S).1 b := by
          rcases hb' with z | z
          · exact absurd z y
          · exact z
        have nb : ¬ nI b = -1 := (by decide +kernel : ∀ k < 8, ¬ nI k = -1) b b8
        by_cases y2 : tiG (gE S) (gX S).1 b ≤ tiG (gE S) (gX S).1 i
        · rw [if_neg (fun z => z.2.elim y (fun u => u y2))] at H
          have r := ih (i + 1) b (tiG (gE S) (gX S).1 b) (.int (tiG (gE S) (gX S).1 i)) (by omega) (Or.inr ⟨b8, rfl⟩) H
          rw [if_neg y] at r ⊢
          rw [if_neg nb, if_pos y2]
          exact r
        · rw [if_pos ⟨eo, Or.inr y2⟩] at H
          rw [if_neg y, if_neg nb, if_neg y2]
          exact tk H _
theorem S246_24 {S : GS} {d : Nat} {h : ajH} {Q : Option Value → ajH → Prop} (vd : GVd S) (hs : ajShp h) (c : MI S h) (hz : 0 < gz S) (x : ∀ k, k < 8 → ajI h 333 k = br (gE S) (onM (gz S) (gX S).1) (bN (gX S).1) k) : ∀ (f i b : Nat), i + f = gz S → (b = 99 ∨ b < gz S) →
    Q (some (.int (tiF (gE S) (gX S).1 f i b))) h → ajEv (d + 1) 246 24 [.ref 320, .int (if b = 99 then -1 else nI b), .int (nI i)] [] h Q := by
  have z8 := vd.z8
  have me := MI_ME c.2.1 vd hz
  have rw0 := (mX0 c.2.2.2.1).1
  intro f
  induction f with
  | zero =>
    intro i b hi hb' H
    refine W246_24 hs ?_
    rw [c.2.1.1, if_pos (by rw [sr_le (by omega) (by omega)]; omega)]
    exact H
  | succ f ih =>
    intro i b hi hb' H
    refine W246_24 hs ?_
    have eg : ∀ k, k < gz S → eS (gE S) k - ajI h 333 k = tiG (gE S) (gX S).1 k := fun k hk => by rw [x k (by omega)]; rfl
    rw [c.2.1.1, if_neg (by rw [sr_le (by omega) (by omega)]; omega), nI_1]
    have es : tiF (gE S) (gX S).1 (f + 1) i b = if onB (gX S).1 i = true ∧ (b = 99 ∨ ¬ tiG (gE S) (gX S).1 b ≤ tiG (gE S) (gX S).1 i) then tiF (gE S) (gX S).1 f (i + 1) i else tiF (gE S) (gX S).1 f (i + 1) b := rfl
    rw [es] at H
    refine S193 (Or.inl rfl) hs rw0 (by omega) ?_
    intro s1
    refine ⟨_, rfl, ?_⟩
    have tk : Q (some (.int (tiF (gE S) (gX S).1 f (i + 1) i))) h → ajEv (d + 1) 246 24 [.ref 320, .int (nI i), .int (nI (i + 1))] [] h Q := by
      intro q
      have r := ih (i + 1) i (by omega) (Or.inr (by omega)) q
      rw [if_neg (show ¬ i = 99 by omega)] at r
      exact r
    cases eo : onB (gX S).1 i with
    | false =>
      rw [if_pos (show flg false = 0 from rfl)]
      rw [if_neg (fun z => by rw [eo] at z; cases z.1)] at H
      exact ih (i + 1) b (by omega) hb' H
    | true =>
      rw [if_neg (show ¬ flg true = 0 by decide)]
      by_cases y : b = 99
      · rw [if_pos ⟨eo, Or.inl y⟩] at H
        rw [if_pos y, if_pos rfl]
        exact tk H
      · have b8 : b < gz S := by
          rcases hb' with z | z
          · exact absurd z y
          · exact z
        have nb : ¬ nI b = -1 := (by decide +kernel : ∀ k < 8, ¬ nI k = -1) b (by omega)
        rw [if_neg y, if_neg nb]
        refine S192 (E := gE S) s1 me (show i < gz S by omega) ?_
        intro s2
        refine ⟨_, rfl, ?_⟩
        refine ⟨by rw [sr_in (by omega)]; omega, ?_⟩
        refine S192 (E := gE S) s2 me b8 ?_
        intro s3
        refine ⟨_, rfl, ?_⟩
        rw [sr_in (by omega), sr_N (by omega), sr_N (by omega), eg i (by omega), eg b b8]
        refine ⟨by omega, ?_⟩
        by_cases y2 : tiG (gE S) (gX S).1 b ≤ tiG (gE S) (gX S).1 i
        · rw [if_neg (fun z => z.2.elim y (fun u => u y2))] at H
          have r := ih (i + 1) b (by omega) (Or.inr b8) H
          rw [if_neg y] at r
          rw [if_pos y2]
          exact r
        · rw [if_pos ⟨eo, Or.inr y2⟩] at H
          rw [if_neg y2]
          exact tk H
theorem bm_go {S : GS} {T : Nat} {R : Nat → Int32} (z8 : gz S ≤ 8) (rv : RV (gz S) T R) : bmO (gE S) (iGo (gz S) R) = ov (gE S) (mk (onB R) (gz S)) ((bN R + 1) % gz S) := by
  have eg := (RV_go rv z8).2
  unfold bmO
  rw [eg, ← go_on (gz S) z8 R]; rfl
theorem S244 {S : GS} {d : Nat} {b : Bool} {h : ajH} {Q : Option Value → ajH → Prop} (hs : ajShp h) (c : MI S h) (vd : GVd S) (hz : 0 < gz S)
    (H : ∀ h', FR h h' PMt → MI S h' → Q (some (.int (if b = true then bmO (gE S) (iGo (gz S) (gX S).1) else iDone (gE S) (iGo (gz S) (gX S).1)))) h') : ajEv (d + 38) 244 0 [.ref 320, .int (flg b), ajU] [] h Q := by
  refine W244_0 hs ?_
  refine mFo hs c ?_
  intro h1 f1 c1 rw1 s1
  refine ⟨rfl, ?_⟩
  refine mTr (s := false) s1 c1 vd hz (vd.xv hz).1 (by omega) rw1 ?_
  intro h2 f2 c2 _ e36 _ s2
  refine ⟨_, rfl, ?_⟩
  have H1 := H h2 (FR_trans f1 f2) c2
  rw [iTurn_f] at e36 ⊢
  cases b with
  | false => rw [if_neg (show ¬ ¬ flg false = 0 from fun z => z rfl)]; rw [if_neg (by decide)] at H1; exact H1
  | true => rw [if_pos (show ¬ flg true = 0 by decide), e36]; rw [if_pos rfl] at H1; exact H1
noncomputable def aAll (S : GS) (v : Int32) : Int32 := if 0 < gz S then (if v = Int32.ofInt 0 then nI (oumF (fun k => eS (gE S) k) (gz S - 1) 1 0) else (if v = Int32.ofInt 1 then nI (oumF (fun k => eO (gE S) k) (gz S - 1) 1 0) else (if v = Int32.ofInt 2 then nI (oumF (fun k => (gX S).1 (2 * k)) (gz S - 1) 1 0) else (if v = Int32.ofInt 3 then nI (oumF (fun k => -(gX S).1 (2 * k)) (gz S - 1) 1 0) else (if v = Int32.ofInt 4 then thM (gz S) (gX S).1 0 else (if v = Int32.ofInt 5 then thM (gz S) (gX S).1 1 else (if v = Int32.ofInt 6 then thM (gz S) (gX S).1 2 else (if v = Int32.ofInt 7 then fI (gX S).1 (gz S) else (if v = Int32.ofInt 8 then iDone (gE S) (iGo (gz S) (gX S).1) else (if v = Int32.ofInt 9 then nI (apH (gX S).1 (gz S) - apL (gX S).1 (gz S)) else (if v = Int32.ofInt 10 then tiF (gE S) (gX S).1 (gz S) 0 99 else (if v = Int32.ofInt 11 then bmO (gE S) (iGo (gz S) (gX S).1) else -1)))))))))))) else -1
theorem aAll_0 {S : GS} (hz : 0 < gz S) : aAll S (Int32.ofInt 0) = nI (oumF (fun k => eS (gE S) k) (gz S - 1) 1 0) := by
  unfold aAll
  rw [if_pos hz, if_pos rfl]
theorem aAll_1 {S : GS} (hz : 0 < gz S) : aAll S (Int32.ofInt 1) = nI (oumF (fun k => eO (gE S) k) (gz S - 1) 1 0) := by
  unfold aAll
  rw [if_pos hz, if_neg (by decide), if_pos rfl]
theorem aAll_2 {S : GS} (hz : 0 < gz S) : aAll S (Int32.ofInt 2) = nI (oumF (fun k => (gX S).1 (2 * k)) (gz S - 1) 1 0) := by
  unfold aAll
  rw [if_pos hz, if_neg (by decide), if_neg (by decide), if_pos rfl]
theorem aAll_3 {S : GS} (hz : 0 < gz S) : aAll S (Int32.ofInt 3) = nI (oumF (fun k => -(gX S).1 (2 * k)) (gz S - 1) 1 0) := by
  unfold aAll
  rw [if_pos hz, if_neg (by decide), if_neg (by decide), if_neg (by decide), if_pos rfl]
theorem aAll_4 {S : GS} (hz : 0 < gz S) : aAll S (Int32.ofInt 4) = thM (gz S) (gX S).1 0 := by
  unfold aAll
  rw [if_pos hz, if_neg (by decide), if_neg (by decide), if_neg (by decide), if_neg (by decide), if_pos rfl]
theorem aAll_5 {S : GS} (hz : 0 < gz S) : aAll S (Int32.ofInt 5) = thM (gz S) (gX S).1 1 := by
  unfold aAll
  rw [if_pos hz, if_neg (by decide), if_neg (by decide), if_neg (by decide), if_neg (by decide), if_neg (by decide), if_pos rfl]
theorem aAll_6 {S : GS} (hz : 0 < gz S) : aAll S (Int32.ofInt 6) = thM (gz S) (gX S).1 2 := by
  unfold aAll
  rw [if_pos hz, if_neg (by decide), if_neg (by decide), if_neg (by decide), if_neg (by decide), if_neg (by decide), if_neg (by decide), if_pos rfl]
theorem aAll_7 {S : GS} (hz : 0 < gz S) : aAll S (Int32.ofInt 7) = fI (gX S).1 (gz S) := by
  unfold aAll
  rw [if_pos hz, if_neg (by decide), if_neg (by decide), if_neg (by decide), if_neg (by decide), if_neg (by decide), if_neg (by decide), if_neg (by decide), if_pos rfl]
theorem aAll_8 {S : GS} (hz : 0 < gz S) : aAll S (Int32.ofInt 8) = iDone (gE S) (iGo (gz S) (gX S).1) := by
  unfold aAll
  rw [if_pos hz, if_neg (by decide), if_neg (by decide), if_neg (by decide), if_neg (by decide), if_neg (by decide), if_neg (by decide), if_neg (by decide), if_neg (by decide), if_pos rfl]
theorem aAll_9 {S : GS} (hz : 0 < gz S) : aAll S (Int32.ofInt 9) = nI (apH (gX S).1 (gz S) - apL (gX S).1 (gz S)) := by
  unfold aAll
  rw [if_pos hz, if_neg (by decide), if_neg (by decide), if_neg (by decide), if_neg (by decide), if_neg (by decide), if_neg (by decide), if_neg (by decide), if_neg (by decide), if_neg (by decide), if_pos rfl]
theorem aAll_10 {S : GS} (hz : 0 < gz S) : aAll S (Int32.ofInt 10) = tiF (gE S) (gX S).1 (gz S) 0 99 := by
  unfold aAll
  rw [if_pos hz, if_neg (by decide), if_neg (by decide), if_neg (by decide), if_neg (by decide), if_neg (by decide), if_neg (by decide), if_neg (by decide), if_neg (by decide), if_neg (by decide), if_neg (by decide), if_pos rfl]
theorem aAll_11 {S : GS} (hz : 0 < gz S) : aAll S (Int32.ofInt 11) = bmO (gE S) (iGo (gz S) (gX S).1) := by
  unfold aAll
  rw [if_pos hz, if_neg (by decide), if_neg (by decide), if_neg (by decide), if_neg (by decide), if_neg (by decide), if_neg (by decide), if_neg (by decide), if_neg (by decide), if_neg (by decide), if_neg (by decide), if_neg (by decide), if_pos rfl]
theorem aAll_x {S : GS} {v : Int32} (n : ∀ k : Nat, k < 12 → ¬ v = Int32.ofInt k) : aAll S v = -1 := by
  unfold aAll
  by_cases hz : 0 < gz S
  · rw [if_pos hz, if_neg (show ¬ v = Int32.ofInt 0 from n 0 (by omega)), if_neg (show ¬ v = Int32.ofInt 1 from n 1 (by omega)), if_neg (show ¬ v = Int32.ofInt 2 from n 2 (by omega)), if_neg (show ¬ v = Int32.ofInt 3 from n 3 (by omega)), if_neg (show ¬ v = Int32.ofInt 4 from n 4 (by omega)), if_neg (show ¬ v = Int32.ofInt 5 from n 5 (by omega)), if_neg (show ¬ v = Int32.ofInt 6 from n 6 (by omega)), if_neg (show ¬ v = Int32.ofInt 7 from n 7 (by omega)), if_neg (show ¬ v = Int32.ofInt 8 from n 8 (by omega)), if_neg (show ¬ v = Int32.ofInt 9 from n 9 (by omega)), if_neg (show ¬ v = Int32.ofInt 10 from n 10 (by omega)), if_neg (show ¬ v = Int32.ofInt 11 from n 11 (by omega))]
  · rw [if_neg hz]
theorem S130_k0 {S : GS} {d : Nat} {h : ajH} {Q : Option Value → ajH → Prop} (s1 : ajShp h) (c : CI S h) (vd : GVd S) (hz : 0 < gz S) (H : ∀ h', FR h h' PTr → CI S h' → Q (some (.int (nI (oumF (fun k => eS (gE S) k) (gz S - 1) 1 0)))) h') : ajEv (d + 5) 130 72 [.ref 1, .int (Int32.ofInt 0)] [] h Q := by
  have z8 := vd.z8
  have rv := (vd.xv hz).1
  have ce := CI_CE c.2.1 vd hz
  refine W130_72 s1 ?_
  refine S131 (n := gz S) (g := fun k => eS (gE S) k) (ajKwi (ajKc rfl)) (ajLenC rfl) z8 (by omega) s1 c.2.1.1 (fun k hk => by rw [Int32.mul_one]; exact (ce.2.2.2.2 k hk).1) ?_
  intro s2
  exact ⟨_, rfl, H h (FR_refl _ _) c⟩
theorem S130_k1 {S : GS} {d : Nat} {h : ajH} {Q : Option Value → ajH → Prop} (s1 : ajShp h) (c : CI S h) (vd : GVd S) (hz : 0 < gz S) (H : ∀ h', FR h h' PTr → CI S h' → Q (some (.int (nI (oumF (fun k => eO (gE S) k) (gz S - 1) 1 0)))) h') : ajEv (d + 5) 130 85 [.ref 1, .int (Int32.ofInt 1)] [] h Q := by
  have z8 := vd.z8
  have rv := (vd.xv hz).1
  have ce := CI_CE c.2.1 vd hz
  refine W130_85 s1 ?_
  refine S131 (n := gz S) (g := fun k => eO (gE S) k) (ajKwi (ajKc rfl)) (ajLenC rfl) z8 (by omega) s1 c.2.1.1 (fun k hk => by rw [Int32.mul_one]; exact (ce.2.2.2.2 k hk).2) ?_
  intro s2
  exact ⟨_, rfl, H h (FR_refl _ _) c⟩
theorem S130_k2 {S : GS} {d : Nat} {h : ajH} {Q : Option Value → ajH → Prop} (s1 : ajShp h) (c : CI S h) (vd : GVd S) (hz : 0 < gz S) (H : ∀ h', FR h h' PTr → CI S h' → Q (some (.int (nI (oumF (fun k => (gX S).1 (2 * k)) (gz S - 1) 1 0)))) h') : ajEv (d + 5) 130 98 [.ref 1, .int (Int32.ofInt 2)] [] h Q := by
  have z8 := vd.z8
  have rv := (vd.xv hz).1
  have ce := CI_CE c.2.1 vd hz
  refine W130_98 s1 ?_
  refine S131 (n := gz S) (g := fun k => (gX S).1 (2 * k)) (ajKwi (ajKc rfl)) (ajLenC rfl) z8 (by omega) s1 c.2.1.1 (fun k hk => by rw [Int32.mul_one]; exact c.2.2.2.1.1.2 k hk) ?_
  intro s2
  exact ⟨_, rfl, H h (FR_refl _ _) c⟩
theorem S130_k3 {S : GS} {d : Nat} {h : ajH} {Q : Option Value → ajH → Prop} (s1 : ajShp h) (c : CI S h) (vd : GVd S) (hz : 0 < gz S) (H : ∀ h', FR h h' PTr → CI S h' → Q (some (.int (nI (oumF (fun k => -(gX S).1 (2 * k)) (gz S - 1) 1 0)))) h') : ajEv (d + 5) 130 111 [.ref 1, .int (Int32.ofInt 3)] [] h Q := by
  have z8 := vd.z8
  have rv := (vd.xv hz).1
  have ce := CI_CE c.2.1 vd hz
  refine W130_111 s1 ?_
  refine S131 (n := gz S) (g := fun k => -(gX S).1 (2 * k)) (ajKwi (ajKc rfl)) (ajLenC rfl) z8 (by omega) s1 c.2.1.1 (fun k hk => by rw [mn1]; exact congrArg _ (c.2.2.2.1.1.2 k hk)) ?_
  intro s2
  exact ⟨_, rfl, H h (FR_refl _ _) c⟩
theorem S130_k4 {S : GS} {d : Nat} {h : ajH} {Q : Option Value → ajH → Prop} (s1 : ajShp h) (c : CI S h) (vd : GVd S) (hz : 0 < gz S) (H : ∀ h', FR h h' PTr → CI S h' → Q (some (.int (thM (gz S) (gX S).1 0))) h') : ajEv (d + 5) 130 124 [.ref 1, .int (Int32.ofInt 4)] [] h Q := by
  have z8 := vd.z8
  have rv := (vd.xv hz).1
  have ce := CI_CE c.2.1 vd hz
  refine W130_124 s1 ?_
  rw [c.2.2.2.1.1.1.1]
  exact H h (FR_refl _ _) c
theorem S130_k5 {S : GS} {d : Nat} {h : ajH} {Q : Option Value → ajH → Prop} (s1 : ajShp h) (c : CI S h) (vd : GVd S) (hz : 0 < gz S) (H : ∀ h', FR h h' PTr → CI S h' → Q (some (.int (thM (gz S) (gX S).1 1))) h') : ajEv (d + 5) 130 132 [.ref 1, .int (Int32.ofInt 5)] [] h Q := by
  have z8 := vd.z8
  have rv := (vd.xv hz).1
  have ce := CI_CE c.2.1 vd hz
  refine W130_132 s1 ?_
  rw [c.2.1.1, c.2.2.2.1.1.1.1, c.2.2.2.1.1.1.2.1, mk_all _ z8, mk_dif _ _ (by omega), mk_dif _ _ (by omega)]
  have e : mk (fun k => (true && !onB (gX S).1 k) && !brB (gX S).1 k) (gz S) = thM (gz S) (gX S).1 1 := mk_congr _ (fun k hk => by
    unfold onB brB
    rcases rv.2.2.2.2.2 k hk with z | z | z <;> rw [z] <;> decide)
  rw [e]
  exact H h (FR_refl _ _) c
theorem S130_k6 {S : GS} {d : Nat} {h : ajH} {Q : Option Value → ajH → Prop} (s1 : ajShp h) (c : CI S h) (vd : GVd S) (hz : 0 < gz S) (H : ∀ h', FR h h' PTr → CI S h' → Q (some (.int (thM (gz S) (gX S).1 2))) h') : ajEv (d + 5) 130 164 [.ref 1, .int (Int32.ofInt 6)] [] h Q := by
  have z8 := vd.z8
  have rv := (vd.xv hz).1
  have ce := CI_CE c.2.1 vd hz
  refine W130_164 s1 ?_
  rw [c.2.2.2.1.1.1.2.1]
  exact H h (FR_refl _ _) c
theorem S130_k7 {S : GS} {d : Nat} {h : ajH} {Q : Option Value → ajH → Prop} (s1 : ajShp h) (c : CI S h) (vd : GVd S) (hz : 0 < gz S) (H : ∀ h', FR h h' PTr → CI S h' → Q (some (.int (fI (gX S).1 (gz S)))) h') : ajEv (d + 5) 130 172 [.ref 1, .int (Int32.ofInt 7)] [] h Q := by
  have z8 := vd.z8
  have rv := (vd.xv hz).1
  have ce := CI_CE c.2.1 vd hz
  refine W130_172 s1 ?_
  rw [c.2.1.1]
  refine S79 sQ_54 z8 s1 c.2.2.2.1.1 ?_
  intro s2
  exact ⟨_, rfl, H h (FR_refl _ _) c⟩
theorem S130_k8 {S : GS} {d : Nat} {h : ajH} {Q : Option Value → ajH → Prop} (s1 : ajShp h) (c : CI S h) (vd : GVd S) (hz : 0 < gz S) (H : ∀ h', FR h h' PTr → CI S h' → Q (some (.int (iDone (gE S) (iGo (gz S) (gX S).1)))) h') : ajEv (d + 5) 130 187 [.ref 1, .int (Int32.ofInt 8)] [] h Q := by
  have z8 := vd.z8
  have rv := (vd.xv hz).1
  have ce := CI_CE c.2.1 vd hz
  refine W130_187 s1 ?_
  refine cFo s1 c vd hz ?_
  intro h1 f1 c1 cs1 s2
  refine ⟨rfl, ?_⟩
  refine S64 s2 c1.2.2.1 vd ?_
  intro s3
  refine ⟨_, rfl, ?_⟩
  refine cTr (s := false) s3 c1 vd hz rv cs1 ?_
  intro h2 f2 c2 _ _ e14 _ s4
  refine ⟨rfl, ?_⟩
  rw [e14, iTurn_f]
  refine S81 s4 (iDone_b _ _) ?_
  intro s5
  exact ⟨_, rfl, H h2 (FR_trans f1 f2) c2⟩
theorem S130_k9 {S : GS} {d : Nat} {h : ajH} {Q : Option Value → ajH → Prop} (s1 : ajShp h) (c : CI S h) (vd : GVd S) (hz : 0 < gz S) (H : ∀ h', FR h h' PTr → CI S h' → Q (some (.int (nI (apH (gX S).1 (gz S) - apL (gX S).1 (gz S))))) h') : ajEv (d + 5) 130 225 [.ref 1, .int (Int32.ofInt 9)] [] h Q := by
  have z8 := vd.z8
  have rv := (vd.xv hz).1
  have ce := CI_CE c.2.1 vd hz
  refine W130_225 s1 ?_
  rw [c.2.1.1]
  refine W132_0 s1 (ajKc rfl) ?_
  refine S132_8 z8 s1 c.2.2.2.1.1 rv ?_ (gz S) 0 (by omega)
  intro s2
  exact ⟨_, rfl, H h (FR_refl _ _) c⟩
theorem S130_k10 {S : GS} {d : Nat} {h : ajH} {Q : Option Value → ajH → Prop} (s1 : ajShp h) (c : CI S h) (vd : GVd S) (hz : 0 < gz S) (H : ∀ h', FR h h' PTr → CI S h' → Q (some (.int (tiF (gE S) (gX S).1 (gz S) 0 99))) h') : ajEv (d + 5) 130 240 [.ref 1, .int (Int32.ofInt 10)] [] h Q := by
  have z8 := vd.z8
  have rv := (vd.xv hz).1
  have ce := CI_CE c.2.1 vd hz
  refine W130_240 s1 ?_
  refine W133_0 s1 ?_
  rw [c.2.2.2.1.1.1.1, c.2.2.2.1.1.1.2.2.1, rv.1.1]
  refine S68 (E := gE S) (ajKc rfl) (ajKc rfl) (by omega) s1 ce rv.1.2 ?_
  intro h1 f1 x1 s2
  refine ⟨rfl, ?_⟩
  have c1 : CI S h1 := CI_62 c (FR_mono f1 (fun o j z => z))
  refine S133_31 vd s2 c1 hz x1 (gz S) 0 99 0 _ (by omega) (Or.inl rfl) ?_
  intro s3
  exact ⟨_, rfl, H h1 (FR_mono f1 (fun o j z => by unfold PTr; omega)) c1⟩
theorem S130_k11 {S : GS} {d : Nat} {h : ajH} {Q : Option Value → ajH → Prop} (s1 : ajShp h) (c : CI S h) (vd : GVd S) (hz : 0 < gz S) (H : ∀ h', FR h h' PTr → CI S h' → Q (some (.int (bmO (gE S) (iGo (gz S) (gX S).1)))) h') : ajEv (d + 5) 130 245 [.ref 1, .int (Int32.ofInt 11)] [] h Q := by
  have z8 := vd.z8
  have rv := (vd.xv hz).1
  have ce := CI_CE c.2.1 vd hz
  refine W130_245 s1 ?_
  rw [c.2.2.2.1.1.1.2.2.1, rv.1.1]
  refine S66 s1 (ajKc rfl) c.2.1.1 z8 rv.1.2 ?_
  intro s2
  refine ⟨_, rfl, ?_⟩
  rw [c.2.2.2.1.1.1.1]
  refine S67 (E := gE S) (ajKc rfl) (ajKc rfl) (by omega) s2 ce (Nat.mod_lt _ hz) ?_
  intro h1 f1 x1 s3
  have c1 : CI S h1 := CI_62 c (FR_mono f1 (fun o j z => z))
  refine ⟨_, rfl, ?_⟩
  have H1 := H h1 (FR_mono f1 (fun o j z => by unfold PTr; omega)) c1
  rw [bm_go z8 rv] at H1
  exact H1
theorem S130 {S : GS} {d : Nat} {v : Int32} {h : ajH} {Q : Option Value → ajH → Prop} (hs : ajShp h) (c : CI S h) (vd : GVd S)
    (H : ∀ h', FR h h' PTr → CI S h' → Q (some (.int (aAll S v))) h') : ajEv (d + 5) 130 0 [.ref 1, .int v] [] h Q := by
  have z8 := vd.z8
  refine W130_0 hs ?_
  refine S56 hs c.2.1 z8 ?_
  intro s1
  refine ⟨_, rfl, ?_⟩
  by_cases hz : 0 < gz S
  · rw [decide_eq_true hz, if_pos (by decide)]
    by_cases e0 : v = Int32.ofInt 0
    · rw [if_pos e0]
      subst e0
      exact S130_k0 s1 c vd hz (fun h' f' c' => by rw [← aAll_0 hz]; exact H h' f' c')
    rw [if_neg e0]
    by_cases e1 : v = Int32.ofInt 1
    · rw [if_pos e1]
      subst e1
      exact S130_k1 s1 c vd hz (fun h' f' c' => by rw [← aAll_1 hz]; exact H h' f' c')
    rw [if_neg e1]
    by_cases e2 : v = Int32.ofInt 2
    · rw [if_pos e2]
      subst e2
      exact S130_k2 s1 c vd hz (fun h' f' c' => by rw [← aAll_2 hz]; exact H h' f' c')
    rw [if_neg e2]
    by_cases e3 : v = Int32.ofInt 3
    · rw [if_pos e3]
      subst e3
      exact S130_k3 s1 c vd hz (fun h' f' c' => by rw [← aAll_3 hz]; exact H h' f' c')
    rw [if_neg e3]
    by_cases e4 : v = Int32.ofInt 4
    · rw [if_pos e4]
      subst e4
      exact S130_k4 s1 c vd hz (fun h' f' c' => by rw [← aAll_4 hz]; exact H h' f' c')
    rw [if_neg e4]
    by_cases e5 : v = Int32.ofInt 5
    · rw [if_pos e5]
      subst e5
      exact S130_k5 s1 c vd hz (fun h' f' c' => by rw [← aAll_5 hz]; exact H h' f' c')
    rw [if_neg e5]
    by_cases e6 : v = Int32.ofInt 6
    · rw [if_pos e6]
      subst e6
      exact S130_k6 s1 c vd hz (fun h' f' c' => by rw [← aAll_6 hz]; exact H h' f' c')
    rw [if_neg e6]
    by_cases e7 : v = Int32.ofInt 7
    · rw [if_pos e7]
      subst e7
      exact S130_k7 s1 c vd hz (fun h' f' c' => by rw [← aAll_7 hz]; exact H h' f' c')
    rw [if_neg e7]
    by_cases e8 : v = Int32.ofInt 8
    · rw [if_pos e8]
      subst e8
      exact S130_k8 s1 c vd hz (fun h' f' c' => by rw [← aAll_8 hz]; exact H h' f' c')
    rw [if_neg e8]
    by_cases e9 : v = Int32.ofInt 9
    · rw [if_pos e9]
      subst e9
      exact S130_k9 s1 c vd hz (fun h' f' c' => by rw [← aAll_9 hz]; exact H h' f' c')
    rw [if_neg e9]
    by_cases e10 : v = Int32.ofInt 10
    · rw [if_pos e10]
      subst e10
      exact S130_k10 s1 c vd hz (fun h' f' c' => by rw [← aAll_10 hz]; exact H h' f' c')
    rw [if_neg e10]
    by_cases e11 : v = Int32.ofInt 11
    · rw [if_pos e11]
      subst e11
      exact S130_k11 s1 c vd hz (fun h' f' c' => by rw [← aAll_11 hz]; exact H h' f' c')
    rw [if_neg e11]
    refine W130_278 s1 ?_
    have H0 := H h (FR_refl _ _) c
    rw [aAll_x (fun k hk => by
      have : k = 0 ∨ k = 1 ∨ k = 2 ∨ k = 3 ∨ k = 4 ∨ k = 5 ∨ k = 6 ∨ k = 7 ∨ k = 8 ∨ k = 9 ∨ k = 10 ∨ k = 11 := by omega
      rcases this with rfl | rfl | rfl | rfl | rfl | rfl | rfl | rfl | rfl | rfl | rfl | rfl
      · exact e0
      · exact e1
      · exact e2
      · exact e3
      · exact e4
      · exact e5
      · exact e6
      · exact e7
      · exact e8
      · exact e9
      · exact e10
      · exact e11)] at H0
    exact H0
  · rw [decide_eq_false hz, if_neg (show ¬ ¬ flg false = 0 from fun z => z rfl)]
    have H0 := H h (FR_refl _ _) c
    unfold aAll at H0
    rw [if_neg hz] at H0
    exact H0
theorem S241_k0 {S : GS} {d : Nat} {h h0 : ajH} {Q : Option Value → ajH → Prop} (s0 : ajShp h0) (c0 : MI S h0) (f0 : FR h h0 PMt) (vd : GVd S) (hz : 0 < gz S) (H : ∀ h', FR h h' PMt → MI S h' → Q (some (.int (nI (oumF (fun k => eS (gE S) k) (gz S - 1) 1 0)))) h') : ajEv (d + 39) 241 76 [.ref 320, .int (Int32.ofInt 0)] [] h0 Q := by
  have z8 := vd.z8
  have rv := (vd.xv hz).1
  have me := MI_ME c0.2.1 vd hz
  have rw0 := (mX0 c0.2.2.2.1).1
  refine W241_76 s0 ?_
  refine W242_0 s0 ?_
  refine S242_4 (g := fun k => eS (gE S) k) z8 s0 c0.2.1 (fun k hk Q' q => ?_) (gz S - 1) 1 0 (by omega) (by omega) ?_
  · have hs := s0
    have hk8 : k < 8 := by omega
    refine W243_0 hs ?_
    rw [if_pos rfl]
    refine W243_28 hs ?_
    refine S192 (E := gE S) hs me hk ?_
    intro s3
    exact ⟨_, rfl, q s3⟩
  · intro s2
    exact ⟨_, rfl, H h0 f0 c0⟩
theorem S241_k1 {S : GS} {d : Nat} {h h0 : ajH} {Q : Option Value → ajH → Prop} (s0 : ajShp h0) (c0 : MI S h0) (f0 : FR h h0 PMt) (vd : GVd S) (hz : 0 < gz S) (H : ∀ h', FR h h' PMt → MI S h' → Q (some (.int (nI (oumF (fun k => eO (gE S) k) (gz S - 1) 1 0)))) h') : ajEv (d + 39) 241 76 [.ref 320, .int (Int32.ofInt 1)] [] h0 Q := by
  have z8 := vd.z8
  have rv := (vd.xv hz).1
  have me := MI_ME c0.2.1 vd hz
  have rw0 := (mX0 c0.2.2.2.1).1
  refine W241_76 s0 ?_
  refine W242_0 s0 ?_
  refine S242_4 (g := fun k => eO (gE S) k) z8 s0 c0.2.1 (fun k hk Q' q => ?_) (gz S - 1) 1 0 (by omega) (by omega) ?_
  · have hs := s0
    have hk8 : k < 8 := by omega
    refine W243_0 hs ?_
    rw [if_neg (by decide), if_pos rfl]
    refine W243_34 hs ?_
    rw [sl_3, sr_mul, sl_2, sr_add, sr_in (by omega), sr_N (by omega), (me.2.2.2.2 k hk).2]
    exact ⟨by omega, q hs⟩
  · intro s2
    exact ⟨_, rfl, H h0 f0 c0⟩
theorem S241_k2 {S : GS} {d : Nat} {h h0 : ajH} {Q : Option Value → ajH → Prop} (s0 : ajShp h0) (c0 : MI S h0) (f0 : FR h h0 PMt) (vd : GVd S) (hz : 0 < gz S) (H : ∀ h', FR h h' PMt → MI S h' → Q (some (.int (nI (oumF (fun k => (gX S).1 (2 * k)) (gz S - 1) 1 0)))) h') : ajEv (d + 39) 241 76 [.ref 320, .int (Int32.ofInt 2)] [] h0 Q := by
  have z8 := vd.z8
  have rv := (vd.xv hz).1
  have me := MI_ME c0.2.1 vd hz
  have rw0 := (mX0 c0.2.2.2.1).1
  refine W241_76 s0 ?_
  refine W242_0 s0 ?_
  refine S242_4 (g := fun k => (gX S).1 (2 * k)) z8 s0 c0.2.1 (fun k hk Q' q => ?_) (gz S - 1) 1 0 (by omega) (by omega) ?_
  · have hs := s0
    have hk8 : k < 8 := by omega
    refine W243_0 hs ?_
    rw [if_neg (by decide), if_neg (by decide), if_pos rfl]
    refine W243_45 hs ?_
    rw [sl_2, sr_mul, Int32.add_zero, sr_in (by omega), sr_N (by omega), rw0 _ (by omega)]
    exact ⟨by omega, q hs⟩
  · intro s2
    exact ⟨_, rfl, H h0 f0 c0⟩
theorem S241_k3 {S : GS} {d : Nat} {h h0 : ajH} {Q : Option Value → ajH → Prop} (s0 : ajShp h0) (c0 : MI S h0) (f0 : FR h h0 PMt) (vd : GVd S) (hz : 0 < gz S) (H : ∀ h', FR h h' PMt → MI S h' → Q (some (.int (nI (oumF (fun k => -(gX S).1 (2 * k)) (gz S - 1) 1 0)))) h') : ajEv (d + 39) 241 76 [.ref 320, .int (Int32.ofInt 3)] [] h0 Q := by
  have z8 := vd.z8
  have rv := (vd.xv hz).1
  have me := MI_ME c0.2.1 vd hz
  have rw0 := (mX0 c0.2.2.2.1).1
  refine W241_76 s0 ?_
  refine W242_0 s0 ?_
  refine S242_4 (g := fun k => -(gX S).1 (2 * k)) z8 s0 c0.2.1 (fun k hk Q' q => ?_) (gz S - 1) 1 0 (by omega) (by omega) ?_
  · have hs := s0
    have hk8 : k < 8 := by omega
    refine W243_0 hs ?_
    rw [if_neg (by decide), if_neg (by decide), if_neg (by decide)]
    refine W243_56 hs ?_
    rw [sl_2, sr_mul, Int32.add_zero, sr_in (by omega), sr_N (by omega), rw0 _ (by omega)]
    exact ⟨by omega, q hs⟩
  · intro s2
    exact ⟨_, rfl, H h0 f0 c0⟩
theorem S241_k4 {S : GS} {d : Nat} {h h0 : ajH} {Q : Option Value → ajH → Prop} (s0 : ajShp h0) (c0 : MI S h0) (f0 : FR h h0 PMt) (vd : GVd S) (hz : 0 < gz S) (H : ∀ h', FR h h' PMt → MI S h' → Q (some (.int (thM (gz S) (gX S).1 0))) h') : ajEv (d + 39) 241 82 [.ref 320, .int (Int32.ofInt 4)] [] h0 Q := by
  have z8 := vd.z8
  have rv := (vd.xv hz).1
  have me := MI_ME c0.2.1 vd hz
  have rw0 := (mX0 c0.2.2.2.1).1
  refine W241_82 s0 ?_
  rw [show Int32.ofInt 4 - 4 = (0 : Int32) from rfl]
  refine S181 (E := gE S) (Or.inl rfl) s0 me rw0 ?_
  intro s2
  exact ⟨_, rfl, H h0 f0 c0⟩
theorem S241_k5 {S : GS} {d : Nat} {h h0 : ajH} {Q : Option Value → ajH → Prop} (s0 : ajShp h0) (c0 : MI S h0) (f0 : FR h h0 PMt) (vd : GVd S) (hz : 0 < gz S) (H : ∀ h', FR h h' PMt → MI S h' → Q (some (.int (thM (gz S) (gX S).1 1))) h') : ajEv (d + 39) 241 82 [.ref 320, .int (Int32.ofInt 5)] [] h0 Q := by
  have z8 := vd.z8
  have rv := (vd.xv hz).1
  have me := MI_ME c0.2.1 vd hz
  have rw0 := (mX0 c0.2.2.2.1).1
  refine W241_82 s0 ?_
  rw [show Int32.ofInt 5 - 4 = (1 : Int32) from rfl]
  refine S181 (E := gE S) (Or.inl rfl) s0 me rw0 ?_
  intro s2
  exact ⟨_, rfl, H h0 f0 c0⟩
theorem S241_k6 {S : GS} {d : Nat} {h h0 : ajH} {Q : Option Value → ajH → Prop} (s0 : ajShp h0) (c0 : MI S h0) (f0 : FR h h0 PMt) (vd : GVd S) (hz : 0 < gz S) (H : ∀ h', FR h h' PMt → MI S h' → Q (some (.int (thM (gz S) (gX S).1 2))) h') : ajEv (d + 39) 241 82 [.ref 320, .int (Int32.ofInt 6)] [] h0 Q := by
  have z8 := vd.z8
  have rv := (vd.xv hz).1
  have me := MI_ME c0.2.1 vd hz
  have rw0 := (mX0 c0.2.2.2.1).1
  refine W241_82 s0 ?_
  rw [show Int32.ofInt 6 - 4 = (2 : Int32) from rfl]
  refine S181 (E := gE S) (Or.inl rfl) s0 me rw0 ?_
  intro s2
  exact ⟨_, rfl, H h0 f0 c0⟩
theorem S241_k7 {S : GS} {d : Nat} {h h0 : ajH} {Q : Option Value → ajH → Prop} (s0 : ajShp h0) (c0 : MI S h0) (f0 : FR h h0 PMt) (vd : GVd S) (hz : 0 < gz S) (H : ∀ h', FR h h' PMt → MI S h' → Q (some (.int (fI (gX S).1 (gz S)))) h') : ajEv (d + 39) 241 94 [.ref 320, .int (Int32.ofInt 7)] [] h0 Q := by
  have z8 := vd.z8
  have rv := (vd.xv hz).1
  have me := MI_ME c0.2.1 vd hz
  have rw0 := (mX0 c0.2.2.2.1).1
  refine W241_94 s0 ?_
  refine S196 (E := gE S) (Or.inl rfl) s0 me rw0 ?_
  intro s2
  exact ⟨_, rfl, H h0 f0 c0⟩
theorem S241_k8 {S : GS} {d : Nat} {h h0 : ajH} {Q : Option Value → ajH → Prop} (s0 : ajShp h0) (c0 : MI S h0) (f0 : FR h h0 PMt) (vd : GVd S) (hz : 0 < gz S) (H : ∀ h', FR h h' PMt → MI S h' → Q (some (.int (iDone (gE S) (iGo (gz S) (gX S).1)))) h') : ajEv (d + 39) 241 103 [.ref 320, .int (Int32.ofInt 8)] [] h0 Q := by
  have z8 := vd.z8
  have rv := (vd.xv hz).1
  have me := MI_ME c0.2.1 vd hz
  have rw0 := (mX0 c0.2.2.2.1).1
  refine W241_103 s0 ?_
  refine S244 (b := false) s0 c0 vd hz ?_
  intro h1 f1 c1 s2
  exact ⟨_, rfl, H h1 (FR_trans f0 f1) c1⟩
theorem S241_k9 {S : GS} {d : Nat} {h h0 : ajH} {Q : Option Value → ajH → Prop} (s0 : ajShp h0) (c0 : MI S h0) (f0 : FR h h0 PMt) (vd : GVd S) (hz : 0 < gz S) (H : ∀ h', FR h h' PMt → MI S h' → Q (some (.int (nI (apH (gX S).1 (gz S) - apL (gX S).1 (gz S))))) h') : ajEv (d + 39) 241 109 [.ref 320, .int (Int32.ofInt 9)] [] h0 Q := by
  have z8 := vd.z8
  have rv := (vd.xv hz).1
  have me := MI_ME c0.2.1 vd hz
  have rw0 := (mX0 c0.2.2.2.1).1
  refine W241_109 s0 ?_
  refine W245_0 s0 ?_
  refine S245_7 z8 s0 c0.2.1 rw0 rv ?_ (gz S) 0 (by omega)
  intro s2
  exact ⟨_, rfl, H h0 f0 c0⟩
theorem S241_k10 {S : GS} {d : Nat} {h h0 : ajH} {Q : Option Value → ajH → Prop} (s0 : ajShp h0) (c0 : MI S h0) (f0 : FR h h0 PMt) (vd : GVd S) (hz : 0 < gz S) (H : ∀ h', FR h h' PMt → MI S h' → Q (some (.int (tiF (gE S) (gX S).1 (gz S) 0 99))) h') : ajEv (d + 39) 241 114 [.ref 320, .int (Int32.ofInt 10)] [] h0 Q := by
  have z8 := vd.z8
  have rv := (vd.xv hz).1
  have me := MI_ME c0.2.1 vd hz
  have rw0 := (mX0 c0.2.2.2.1).1
  refine W241_114 s0 ?_
  refine W246_0 s0 ?_
  refine S181 (E := gE S) (Or.inl rfl) s0 me rw0 ?_
  intro s2
  refine ⟨_, rfl, ?_⟩
  rw [rw0 16 (by omega), rv.1.1]
  refine S182 (E := gE S) s2 me rv.1.2 ?_
  intro h1 f1 x1 s3
  refine ⟨rfl, ?_⟩
  have c1 : MI S h1 := MI_333 c0 (FR_mono f1 (fun o j z => z))
  refine S246_24 vd s3 c1 hz x1 (gz S) 0 99 (by omega) (Or.inl rfl) ?_
  intro s4
  exact ⟨_, rfl, H h1 (FR_trans f0 (FR_mono f1 (fun o j z => by unfold PMt Pst; omega))) c1⟩
theorem S241_k11 {S : GS} {d : Nat} {h h0 : ajH} {Q : Option Value → ajH → Prop} (s0 : ajShp h0) (c0 : MI S h0) (f0 : FR h h0 PMt) (vd : GVd S) (hz : 0 < gz S) (H : ∀ h', FR h h' PMt → MI S h' → Q (some (.int (bmO (gE S) (iGo (gz S) (gX S).1)))) h') : ajEv (d + 39) 241 119 [.ref 320, .int (Int32.ofInt 11)] [] h0 Q := by
  have z8 := vd.z8
  have rv := (vd.xv hz).1
  have me := MI_ME c0.2.1 vd hz
  have rw0 := (mX0 c0.2.2.2.1).1
  refine W241_119 s0 ?_
  refine S244 (b := true) s0 c0 vd hz ?_
  intro h1 f1 c1 s2
  exact ⟨_, rfl, H h1 (FR_trans f0 f1) c1⟩
theorem S241 {S : GS} {d : Nat} {v : Int32} {h : ajH} {Q : Option Value → ajH → Prop} (hs : ajShp h) (c : MI S h) (vd : GVd S)
    (H : ∀ h', FR h h' PMt → MI S h' → Q (some (.int (aAll S v))) h') : ajEv (d + 39) 241 0 [.ref 320, .int v] [] h Q := by
  have z8 := vd.z8
  refine W241_0 hs ?_
  rintro _ rfl
  have c0 := MI_0 (x := 0) c
  have f0 := FR_t0 h 0
  have s0 : ajShp (ajSI h 320 0 0) := hs
  generalize ajSI h 320 0 0 = h0 at c0 f0 s0
  rw [c0.2.1.1]
  by_cases hz : 0 < gz S
  · rw [if_pos (nI_ne0 hz (by omega))]
    by_cases e0 : v = Int32.ofInt 0
    · rw [if_pos e0]
      subst e0
      exact S241_k0 s0 c0 f0 vd hz (fun h' f' c' => by rw [← aAll_0 hz]; exact H h' f' c')
    rw [if_neg e0]
    by_cases e1 : v = Int32.ofInt 1
    · rw [if_pos e1]
      subst e1
      exact S241_k1 s0 c0 f0 vd hz (fun h' f' c' => by rw [← aAll_1 hz]; exact H h' f' c')
    rw [if_neg e1]
    by_cases e2 : v = Int32.ofInt 2
    · rw [if_pos e2]
      subst e2
      exact S241_k2 s0 c0 f0 vd hz (fun h' f' c' => by rw [← aAll_2 hz]; exact H h' f' c')
    rw [if_neg e2]
    by_cases e3 : v = Int32.ofInt 3
    · rw [if_pos e3]
      subst e3
      exact S241_k3 s0 c0 f0 vd hz (fun h' f' c' => by rw [← aAll_3 hz]; exact H h' f' c')
    rw [if_neg e3]
    by_cases e4 : v = Int32.ofInt 4
    · rw [if_pos e4]
      subst e4
      exact S241_k4 s0 c0 f0 vd hz (fun h' f' c' => by rw [← aAll_4 hz]; exact H h' f' c')
    rw [if_neg e4]
    by_cases e5 : v = Int32.ofInt 5
    · rw [if_pos e5]
      subst e5
      exact S241_k5 s0 c0 f0 vd hz (fun h' f' c' => by rw [← aAll_5 hz]; exact H h' f' c')
    rw [if_neg e5]
    by_cases e6 : v = Int32.ofInt 6
    · rw [if_pos e6]
      subst e6
      exact S241_k6 s0 c0 f0 vd hz (fun h' f' c' => by rw [← aAll_6 hz]; exact H h' f' c')
    rw [if_neg e6]
    by_cases e7 : v = Int32.ofInt 7
    · rw [if_pos e7]
      subst e7
      exact S241_k7 s0 c0 f0 vd hz (fun h' f' c' => by rw [← aAll_7 hz]; exact H h' f' c')
    rw [if_neg e7]
    by_cases e8 : v = Int32.ofInt 8
    · rw [if_pos e8]
      subst e8
      exact S241_k8 s0 c0 f0 vd hz (fun h' f' c' => by rw [← aAll_8 hz]; exact H h' f' c')
    rw [if_neg e8]
    by_cases e9 : v = Int32.ofInt 9
    · rw [if_pos e9]
      subst e9
      exact S241_k9 s0 c0 f0 vd hz (fun h' f' c' => by rw [← aAll_9 hz]; exact H h' f' c')
    rw [if_neg e9]
    by_cases e10 : v = Int32.ofInt 10
    · rw [if_pos e10]
      subst e10
      exact S241_k10 s0 c0 f0 vd hz (fun h' f' c' => by rw [← aAll_10 hz]; exact H h' f' c')
    rw [if_neg e10]
    by_cases e11 : v = Int32.ofInt 11
    · rw [if_pos e11]
      subst e11
      exact S241_k11 s0 c0 f0 vd hz (fun h' f' c' => by rw [← aAll_11 hz]; exact H h' f' c')
    rw [if_neg e11]
    refine W241_125 s0 ?_
    have H0 := H h0 f0 c0
    rw [aAll_x (fun k hk => by
      have : k = 0 ∨ k = 1 ∨ k = 2 ∨ k = 3 ∨ k = 4 ∨ k = 5 ∨ k = 6 ∨ k = 7 ∨ k = 8 ∨ k = 9 ∨ k = 10 ∨ k = 11 := by omega
      rcases this with rfl | rfl | rfl | rfl | rfl | rfl | rfl | rfl | rfl | rfl | rfl | rfl
      · exact e0
      · exact e1
      · exact e2
      · exact e3
      · exact e4
      · exact e5
      · exact e6
      · exact e7
      · exact e8
      · exact e9
      · exact e10
      · exact e11)] at H0
    exact H0
  · rw [show gz S = 0 by omega, if_neg (show ¬ ¬ nI 0 = 0 from fun z => z rfl)]
    have H0 := H h0 f0 c0
    unfold aAll at H0
    rw [if_neg hz] at H0
    exact H0
