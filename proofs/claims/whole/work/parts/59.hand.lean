/-! The acts by hand in the class. -/
def isp (n : Nat) (v : Int32) : Bool := if v < 0 then false else if nI n ≤ v then false else true
theorem isp_k {n : Nat} {v : Int32} (n8 : n ≤ 8) (c : isp n v = true) : ∃ k, k < n ∧ v = nI k := by
  unfold isp at c
  by_cases y : v < 0
  · rw [if_pos y] at c; cases c
  · rw [if_neg y] at c
    obtain ⟨j, hj, rfl⟩ := sr_of y
    by_cases y2 : nI n ≤ nI j
    · rw [if_pos y2] at c; cases c
    · rw [sr_le (by omega) (by omega)] at y2
      exact ⟨j, by omega, rfl⟩
theorem S58 {S : GS} {d : Nat} {h : ajH} {Q : Option Value → ajH → Prop} {v : Int32} (hs : ajShp h) (c : c2 S h) (H : Q (some (.int (flg (isp (gz S) v)))) h) : ajEv d 58 0 [.ref 1, .int v] [] h Q := by
  refine W58_0 hs ?_
  rw [c.1]
  unfold isp at H
  by_cases y : v < 0
  · rw [if_pos y] at H; rw [if_pos y]; exact H
  · rw [if_neg y] at H; rw [if_neg y]
    by_cases y2 : nI (gz S) ≤ v
    · rw [if_pos y2] at H; rw [if_pos y2]; exact H
    · rw [if_neg y2] at H; rw [if_neg y2]; exact H
theorem S56 {S : GS} {d : Nat} {h : ajH} {Q : Option Value → ajH → Prop} (hs : ajShp h) (c : c2 S h) (z8 : gz S ≤ 8) (H : Q (some (.int (flg (decide (0 < gz S))))) h) : ajEv d 56 0 [.ref 1] [] h Q := by
  refine W56_0 hs ?_
  rw [c.1]
  by_cases y : 0 < gz S
  · rw [if_neg (by rw [sl_0, sr_le (by omega) (by omega)]; omega)]
    rw [decide_eq_true y] at H; exact H
  · rw [if_pos (by rw [sl_0, sr_le (by omega) (by omega)]; omega)]
    rw [decide_eq_false y] at H; exact H
theorem br_k {R : Nat → Int32} {n k : Nat} (n8 : n ≤ 8) (hk : k < n) : hb (mk (brB R) n) k = brB R k := by
  rw [hb_mk _ _ (by omega) k (by omega), decide_eq_true hk]; rfl
theorem S59c {d q n k : Nat} {h : ajH} {Q : Option Value → ajH → Prop} {R : Nat → Int32} (hq : ajKw q 6) (hs : ajShp h) (c : CS h q n R) (n8 : n ≤ 8) (hk : k < n) (H : Q (some (.int (flg (brB R k)))) h) : ajEv d 59 0 [.ref q, .int (nI k)] [] h Q := by
  refine W59_0 hs hq ?_
  rw [c.1.2.1, if_neg (by rw [sr_lt0 (by omega)]; exact fun z => z), if_neg (by rw [sl_8, sr_le (by omega) (by omega)]; omega)]
  have e2 := br_k (R := R) n8 hk
  cases e : brB R k with
  | false => rw [if_pos (by rw [hb_sh0 _ (by omega), e2]; exact e)]; rw [e] at H; exact H
  | true => rw [if_neg (by rw [hb_sh0 _ (by omega), e2, e]; exact fun z => by cases z)]; rw [e] at H; exact H
/-- may the act o be done, on v -/
def caB (n : Nat) (R : Nat → Int32) (o : Nat) (v : Int32) : Bool := match o with
  | 0 => !decide (999 ≤ R 21)
  | 1 => !decide (999 ≤ R 21) && !decide (R 20 < 1)
  | 2 => isp n v && !brB R v.toNatClampNeg && !decide (R 20 < 2)
  | 3 => isp n v && brB R v.toNatClampNeg && !decide (R 20 < 4)
  | _ => false
theorem S57 {S : GS} {d q o : Nat} {h : ajH} {Q : Option Value → ajH → Prop} {R : Nat → Int32} {v : Int32} (ho : o < 4) (hq : sQ q) (hs : ajShp h) (c : c2 S h) (z8 : gz S ≤ 8) (cs : CS h q (gz S) R) (H : Q (some (.int (flg (caB (gz S) R o v)))) h) : ajEv (d + 1) 57 0 [.ref 1, .ref q, .int (nI o), .int v] [] h Q := by
  refine W57_0 hs hq.1 ?_
  obtain ⟨k0, k1, k2, k3, k4, k5, k6, k7⟩ := cs.1
  have ho : o = 0 ∨ o = 1 ∨ o = 2 ∨ o = 3 := by omega
  rcases ho with rfl | rfl | rfl | rfl
  · rw [if_pos (by decide)]
    refine W57_32 hs hq.1 ?_
    rw [k5]
    unfold caB at H
    by_cases y : 999 ≤ R 21
    · rw [if_pos y]; simp [y] at H; exact H
    · rw [if_neg y]; simp [y] at H; exact H
  · rw [if_neg (by decide), if_pos (by decide)]
    refine W57_48 hs hq.1 ?_
    rw [k5, k4]
    unfold caB at H
    by_cases y : 999 ≤ R 21
    · rw [if_pos y]; simp [y] at H; exact H
    · rw [if_neg y]
      by_cases y2 : R 20 < 1
      · rw [if_pos y2]; simp [y, y2] at H; exact H
      · rw [if_neg y2]; simp [y, y2] at H; exact H
  · rw [if_neg (by decide), if_neg (by decide), if_pos (by decide)]
    refine W57_72 hs hq.1 ?_
    refine S58 hs c ?_
    intro s1
    refine ⟨_, rfl, ?_⟩
    unfold caB at H
    cases e : isp (gz S) v with
    | false => rw [if_pos (show flg false = 0 from rfl)]; rw [e] at H; exact H
    | true =>
      obtain ⟨k, hk, rfl⟩ := isp_k z8 e
      rw [if_neg (by decide)]
      refine S59c hq.1 s1 cs z8 hk ?_
      intro s2
      refine ⟨_, rfl, ?_⟩
      rw [k4]
      simp only [e, sr_N (show k < 2147483648 by omega)] at H
      cases e2 : brB R k with
      | true => rw [if_pos (by decide)]; rw [e2] at H; exact H
      | false =>
        rw [if_neg (show ¬ ¬ flg false = 0 from fun z => z rfl)]
        rw [e2] at H
        by_cases y2 : R 20 < 2
        · rw [if_pos y2]; simp [y2] at H; exact H
        · rw [if_neg y2]; simp [y2] at H; exact H
  · rw [if_neg (by decide), if_neg (by decide), if_neg (by decide), if_pos (by decide)]
    refine W57_102 hs hq.1 ?_
    refine S58 hs c ?_
    intro s1
    refine ⟨_, rfl, ?_⟩
    unfold caB at H
    cases e : isp (gz S) v with
    | false => rw [if_pos (show flg false = 0 from rfl)]; rw [e] at H; exact H
    | true =>
      obtain ⟨k, hk, rfl⟩ := isp_k z8 e
      rw [if_neg (by decide)]
      refine S59c hq.1 s1 cs z8 hk ?_
      intro s2
      refine ⟨_, rfl, ?_⟩
      rw [k4]
      simp only [e, sr_N (show k < 2147483648 by omega)] at H
      cases e2 : brB R k with
      | false => rw [if_pos (show flg false = 0 from rfl)]; rw [e2] at H; exact H
      | true =>
        rw [if_neg (by decide)]
        rw [e2] at H
        by_cases y2 : R 20 < 4
        · rw [if_pos y2]; simp [y2] at H; exact H
        · rw [if_neg y2]; simp [y2] at H; exact H
/-- the act o done, on v -/
noncomputable def xTake (E : EV) (o : Nat) (v : Int32) (X : XT) : XT := match o with
  | 0 => xTurn E false X
  | 1 => xTurn E true (upR X.1 20 (X.1 20 - 1), X.2)
  | 2 => (upR (upR X.1 20 (X.1 20 - 2)) (2 * v.toNatClampNeg + 1) (1 - X.1 (2 * v.toNatClampNeg + 1)), X.2)
  | _ => (upR (upR X.1 20 (X.1 20 - 4)) (2 * v.toNatClampNeg + 1) 0, X.2)
noncomputable def xTkD (E : EV) (o : Nat) (X : XT) : Int32 := match o with
  | 0 => xDone E false X
  | _ => xDone E true (upR X.1 20 (X.1 20 - 1), X.2)
theorem cg_of {R R' : Nat → Int32} {n : Nat} (e : ∀ j, j < 20 → R' j = R j) (n8 : n ≤ 8) : mk (onB R) n = mk (onB R') n ∧ mk (brB R) n = mk (brB R') n := ⟨mk_congr n (fun k hk => by unfold onB; rw [e _ (by omega)]), mk_congr n (fun k hk => by unfold brB; rw [e _ (by omega)])⟩
theorem CS_20 {h h' : ajH} {q n : Nat} {R : Nat → Int32} {x : Int32} (n8 : n ≤ 8) (c : CS h q n R) (f : FR h h' (fun o j => o = q ∧ j = 4)) (e4 : ajI h' q 4 = x) : CS h' q n (upR R 20 x) := by
  obtain ⟨⟨k0, k1, k2, k3, k4, k5, k6, k7⟩, k8⟩ := c
  have g := cg_of (R := R) (R' := upR R 20 x) (fun j hj => upR_n _ _ (by omega)) n8
  refine ⟨⟨?_, ?_, ?_, ?_, ?_, ?_, ?_, ?_⟩, fun k hk => ?_⟩
  · rw [FR_I f (by omega), k0]; exact g.1
  · rw [FR_I f (by omega), k1]; exact g.2
  · rw [FR_I f (by omega), k2, upR_n _ _ (by omega)]
  · rw [FR_I f (by omega), k3, upR_n _ _ (by omega)]
  · rw [e4, upR_s]
  · rw [FR_I f (by omega), k5, upR_n _ _ (by omega)]
  · rw [FR_I f (by omega), k6, upR_n _ _ (by omega)]
  · rw [FR_I f (by omega), k7, upR_n _ _ (by omega)]
  · rw [FR_I f (by omega), k8 k hk, upR_n _ _ (by omega)]
theorem CS_how {h h' : ajH} {q n k : Nat} {R : Nat → Int32} {x : Int32} (n8 : n ≤ 8) (hk : k < n) (c : CS h q n R) (f : FR h h' (fun o j => o = q ∧ j < 2)) (e0 : ajI h' q 0 = mk (onB (upR R (2 * k + 1) x)) n) (e1 : ajI h' q 1 = mk (brB (upR R (2 * k + 1) x)) n) : CS h' q n (upR R (2 * k + 1) x) := by
  obtain ⟨⟨k0, k1, k2, k3, k4, k5, k6, k7⟩, k8⟩ := c
  refine ⟨⟨e0, e1, ?_, ?_, ?_, ?_, ?_, ?_⟩, fun i hi => ?_⟩
  · rw [FR_I f (by omega), k2, upR_n _ _ (by omega)]
  · rw [FR_I f (by omega), k3, upR_n _ _ (by omega)]
  · rw [FR_I f (by omega), k4, upR_n _ _ (by omega)]
  · rw [FR_I f (by omega), k5, upR_n _ _ (by omega)]
  · rw [FR_I f (by omega), k6, upR_n _ _ (by omega)]
  · rw [FR_I f (by omega), k7, upR_n _ _ (by omega)]
  · rw [FR_I f (by omega), k8 i hi, upR_n _ _ (by omega)]
theorem RV_20 {n T : Nat} {R : Nat → Int32} (x : Int32) (c : RV n T R) (n8 : n ≤ 8) : RV n T (upR R 20 x) := by
  obtain ⟨⟨a1, a2⟩, hv, ⟨w1, w2⟩, ⟨t1, t2⟩, y18, yh⟩ := c
  have e : ∀ j, ¬ j = 20 → upR R 20 x j = R j := fun j hj => upR_n _ _ hj
  refine ⟨⟨?_, ?_⟩, fun k hk => ?_, ⟨?_, ?_⟩, ⟨?_, ?_⟩, ?_, fun k hk => ?_⟩
  · unfold bN; rw [e _ (by omega)]; exact a1
  · unfold bN; rw [e _ (by omega)]; exact a2
  · unfold vN; rw [e _ (by omega)]; exact hv k hk
  · unfold wN; rw [e _ (by omega)]; exact w1
  · unfold wN; rw [e _ (by omega)]; exact w2
  · unfold tN; rw [e _ (by omega)]; exact t1
  · unfold tN; rw [e _ (by omega)]; exact t2
  · rw [e _ (by omega)]; exact y18
  · rw [e _ (by omega)]; exact yh k hk
theorem XV_20 {n : Nat} {X : XT} (x : Int32) (c : XV n X) (n8 : n ≤ 8) : XV n (upR X.1 20 x, X.2) := by
  refine ⟨RV_20 x c.1 n8, ?_, c.2.2⟩
  have e : tN (upR X.1 20 x) = tN X.1 := by unfold tN; rw [upR_n _ _ (by omega)]
  show X.2.1 ≤ tN (upR X.1 20 x)
  rw [e]; exact c.2.1
theorem RV_how {n T k : Nat} {R : Nat → Int32} {x : Int32} (c : RV n T R) (n8 : n ≤ 8) (hk : k < n) (hx : x = 0 ∨ x = 1 ∨ x = 2) : RV n T (upR R (2 * k + 1) x) := by
  obtain ⟨⟨a1, a2⟩, hv, ⟨w1, w2⟩, ⟨t1, t2⟩, y18, yh⟩ := c
  have e : ∀ j, ¬ j = 2 * k + 1 → upR R (2 * k + 1) x j = R j := fun j hj => upR_n _ _ hj
  refine ⟨⟨?_, ?_⟩, fun k hk => ?_, ⟨?_, ?_⟩, ⟨?_, ?_⟩, ?_, fun i hi => ?_⟩
  · unfold bN; rw [e _ (by omega)]; exact a1
  · unfold bN; rw [e _ (by omega)]; exact a2
  · unfold vN; rw [e _ (by omega)]; exact hv k hk
  · unfold wN; rw [e _ (by omega)]; exact w1
  · unfold wN; rw [e _ (by omega)]; exact w2
  · unfold tN; rw [e _ (by omega)]; exact t1
  · unfold tN; rw [e _ (by omega)]; exact t2
  · rw [e _ (by omega)]; exact y18
  · by_cases y : i = k
    · rw [y, upR_s]; exact hx
    · rw [e _ (by omega)]; exact yh i hi
