/-! The class's acts by hand, as its caller sees them. -/
def sX (S : GS) (X : XT) (na : Nat) (AX : Nat → XT) : GS := (S.1, S.2.1, S.2.2.1, S.2.2.2.1, X, (na, AX), S.2.2.2.2.2.2.1, S.2.2.2.2.2.2.2)
theorem GVd_sX {S : GS} {X : XT} {na : Nat} {AX : Nat → XT} (v : GVd S) (hx : 0 < gz S → XV (gz S) X) (hp : 0 < gz S) (n4 : na ≤ 40) (n0 : gz S = 0 → na = 0) (ha : ∀ i, i < na → XV (gz S) (AX i)) : GVd (sX S X na AX) :=
  ⟨v.z8, v.fo, v.ru, v.r0, v.m4, v.hl, v.sl, v.j4, v.jn, hx, n4, fun z => ⟨n0 z, (v.az z).2⟩, ha, v.ix, v.ns, v.st, fun z => by have z : gz S = 0 := z; omega⟩
theorem push_ok {n na : Nat} {AX : Nat → XT} {X : XT} (n4 : na ≤ 40) (ha : ∀ i, i < na → XV n (AX i)) (hx : XV n X) : pushN na ≤ 40 ∧ ∀ i, i < pushN na → XV n (pushX na AX X i) := by
  unfold pushN pushX
  by_cases y : na < 40
  · rw [if_pos y]
    refine ⟨by omega, fun i hi => ?_⟩
    rw [if_pos y]
    by_cases y2 : i = na
    · rw [if_pos y2]; exact hx
    · rw [if_neg y2]; exact ha i (by omega)
  · rw [if_neg y]
    refine ⟨by omega, fun i hi => ?_⟩
    rw [if_neg y]
    by_cases y2 : i = 39
    · rw [if_pos y2]; exact hx
    · rw [if_neg y2]; exact ha (i + 1) (by omega)
/-- the state kept, another taken -/
def gKeep (S : GS) (X : XT) : GS := sX S X (pushN (gna S)) (pushX (gna S) (gAX S) (gX S))
theorem GVd_keep {S : GS} {X : XT} (v : GVd S) (hz : 0 < gz S) (hx : XV (gz S) X) : GVd (gKeep S X) := by
  have p := push_ok v.a4 v.ax (v.xv hz)
  exact GVd_sX v (fun _ => hx) hz p.1 (fun z => by omega) p.2
def hOK (S : GS) (o : Nat) (v : Int32) : Bool := decide (0 < gz S) && caB (gz S) (gX S).1 o v
noncomputable def gHand (S : GS) (o : Nat) (v : Int32) : GS := if hOK S o v = true then gKeep S (xTake (gE S) o v (gX S)) else S
theorem hOK_e {S : GS} {o : Nat} {v : Int32} (c : hOK S o v = true) : 0 < gz S ∧ caB (gz S) (gX S).1 o v = true := by
  unfold hOK at c
  by_cases y : 0 < gz S
  · rw [decide_eq_true y, Bool.true_and] at c; exact ⟨y, c⟩
  · rw [decide_eq_false y] at c; cases c
theorem GVd_hand {S : GS} {o : Nat} {v : Int32} (vd : GVd S) (ho : o < 4) : GVd (gHand S o v) := by
  unfold gHand
  by_cases y : hOK S o v = true
  · rw [if_pos y]
    obtain ⟨hz, ca⟩ := hOK_e y
    exact GVd_keep vd hz (XV_take (gE_g vd) (gE_ok vd) vd.z8 (vd.xv hz) ho ca)
  · rw [if_neg y]; exact vd
def PHd (o j : Nat) : Prop := PAc o j ∨ PTk 54 o j
/-- the class's side behind a change of the state now and of the acts -/
theorem CI_sX {S : GS} {h h' : ajH} {X : XT} {na : Nat} {AX : Nat → XT} {P : Nat → Nat → Prop} (c : CI S h) (f : FR h h' P) (p : ∀ o j, P o j → PHd o j) (cx : cX h' 54 (gz S) X) (ca : cA (gz S) na AX h') : CI (sX S X na AX) h' := by
  obtain ⟨k1, k2, k3, k4, k5, k6, k7⟩ := c
  have g : ∀ o j, P o j → ¬ b1 o j ∧ ¬ b2 o j ∧ ¬ b3 o j ∧ ¬ b6 o j ∧ ¬ b7 o j := fun o j z => by
    have y := p o j z
    unfold PHd PAc PTk PCp PLw at y
    unfold b1 b2 b3 b6 b7 PLw
    omega
  exact ⟨c1_FR k1 f (fun o j z => (g o j z).1), c2_FR k2 f (fun o j z => (g o j z).2.1), c3_FR k3 f (fun o j z => (g o j z).2.2.1), cx, ca, c6_FR k6 f (fun o j z => (g o j z).2.2.2.1), c7_FR k7 f (fun o j z => (g o j z).2.2.2.2)⟩
theorem cA_FR {h h' : ajH} {P : Nat → Nat → Prop} {n na : Nat} {AX : Nat → XT} (c : cA n na AX h) (f : FR h h' P) (p : ∀ o j, P o j → ¬ b5 o j) : cA n na AX h' := by
  obtain ⟨e1, n4, q, hq, e2, ax⟩ := c
  refine ⟨(FR_I f (fun z => p _ _ z (by unfold b5; omega))).trans e1, n4, q, hq, (FR_I f (fun z => p _ _ z (by unfold b5; omega))).trans e2, fun i hi => cX_FR (ax i hi) f (fun o j z => ?_)⟩
  have y := p _ _ z
  have l := Nat.mod_lt (q + 41 + i - na) (show 0 < 40 by omega)
  unfold b5 at y
  unfold aSl
  omega
theorem S55 {S : GS} {d o : Nat} {v : Int32} {h : ajH} {Q : Option Value → ajH → Prop} (ho : o < 4) (hs : ajShp h) (c : CI S h) (vd : GVd S)
    (H : ∀ h', FR h h' PHd → CI (gHand S o v) h' → (hOK S o v = true → o < 2 → ajI h' 54 14 = xTkD (gE S) o (gX S)) → Q (some (.int (flg (hOK S o v)))) h') : ajEv (d + 6) 55 0 [.ref 1, .int (nI o), .int v] [] h Q := by
  have z8 := vd.z8
  refine W55_0 hs ?_
  refine S56 hs c.2.1 z8 ?_
  intro s1
  refine ⟨_, rfl, ?_⟩
  by_cases hz : 0 < gz S
  · rw [decide_eq_true hz, if_neg (by decide)]
    refine S57 ho sQ_54 s1 c.2.1 z8 c.2.2.2.1.1 ?_
    intro s2
    refine ⟨_, rfl, ?_⟩
    have eh : hOK S o v = caB (gz S) (gX S).1 o v := by unfold hOK; rw [decide_eq_true hz, Bool.true_and]
    cases ec : caB (gz S) (gX S).1 o v with
    | true =>
      rw [if_pos (by decide)]
      have h18 := (vd.xv hz).1.2.2.2.2.1
      have k5 : cA (gz S) (gna S) (gAX S) h := c.2.2.2.2.1
      refine S60 sQ_54 (by omega) z8 s2 k5 c.2.2.2.1 h18 ?_
      intro h1 f1 ca1 s3
      refine ⟨rfl, ?_⟩
      have cx1 : cX h1 54 (gz S) (gX S) := cX_FR c.2.2.2.1 f1 (fun o j z => by unfold PAc at z; omega)
      refine S63 ho sQ_54 s3 (c2_FR c.2.1 f1 (fun o j z => by unfold PAc at z; unfold b2; omega)) (c3_FR c.2.2.1 f1 (fun o j z => by unfold PAc at z; unfold b3; omega)) vd hz (vd.xv hz) cx1 ec ?_
      intro h2 f2 cx2 e14 s4
      refine ⟨rfl, ?_⟩
      rw [eh, ec] at H
      have f12 : FR h h2 PHd := FR_trans (FR_mono f1 (fun o j z => Or.inl z)) (FR_mono f2 (fun o j z => Or.inr z))
      refine H h2 f12 ?_ (fun _ => e14)
      have eg : gHand S o v = gKeep S (xTake (gE S) o v (gX S)) := by unfold gHand; rw [if_pos (eh.trans ec)]
      rw [eg]
      exact CI_sX c f12 (fun o j z => z) cx2 (cA_FR ca1 f2 (fun o j z => by unfold PTk PCp PLw at z; unfold b5; omega))
    | false =>
      rw [if_neg (show ¬ ¬ flg false = 0 from fun z => z rfl)]
      rw [eh, ec] at H
      have eg : gHand S o v = S := by unfold gHand; rw [if_neg (by rw [eh, ec]; decide)]
      rw [eg] at H
      exact H h (FR_refl _ _) c (fun z => by cases z)
  · rw [decide_eq_false hz, if_pos (show flg false = 0 from rfl)]
    have eh : hOK S o v = false := by unfold hOK; rw [decide_eq_false hz]; rfl
    have eg : gHand S o v = S := by unfold gHand; rw [if_neg (by rw [eh]; decide)]
    rw [eh, eg] at H
    exact H h (FR_refl _ _) c (fun z => by cases z)
theorem xTkD_b (E : EV) (o : Nat) (X : XT) : xTkD E o X = 0 ∨ xTkD E o X = 1 := by
  unfold xTkD xDone
  split <;> exact iDone_b _ _
/-- turn, hold -/
noncomputable def aTurn (S : GS) (o : Nat) : Int32 := if hOK S o (-1) = true then xTkD (gE S) o (gX S) else -1
theorem S54 {S : GS} {d : Nat} {h : ajH} {Q : Option Value → ajH → Prop} (hs : ajShp h) (c : CI S h) (vd : GVd S)
    (H : ∀ h', FR h h' PHd → CI (gHand S 0 (-1)) h' → Q (some (.int (aTurn S 0))) h') : ajEv (d + 7) 54 0 [.ref 1] [] h Q := by
  refine W54_0 hs ?_
  refine S55 (o := 0) (by omega) hs c vd ?_
  intro h1 f1 c1 e14 s1
  refine ⟨_, rfl, ?_⟩
  have H2 := H h1 f1 c1
  unfold aTurn at H2
  cases e : hOK S 0 (-1) with
  | false =>
    rw [if_pos (show flg false = 0 from rfl)]
    rw [e, if_neg (by decide)] at H2; exact H2
  | true =>
    rw [if_neg (by decide), e14 e (by omega)]
    rw [e, if_pos rfl] at H2
    refine S81 s1 (xTkD_b _ _ _) ?_
    intro s2
    exact ⟨_, rfl, H2⟩
theorem S83 {S : GS} {d : Nat} {h : ajH} {Q : Option Value → ajH → Prop} (hs : ajShp h) (c : CI S h) (vd : GVd S)
    (H : ∀ h', FR h h' PHd → CI (gHand S 1 (-1)) h' → Q (some (.int (aTurn S 1))) h') : ajEv (d + 7) 83 0 [.ref 1] [] h Q := by
  refine W83_0 hs ?_
  refine S55 (o := 1) (by omega) hs c vd ?_
  intro h1 f1 c1 e14 s1
  refine ⟨_, rfl, ?_⟩
  have H2 := H h1 f1 c1
  unfold aTurn at H2
  cases e : hOK S 1 (-1) with
  | false =>
    rw [if_pos (show flg false = 0 from rfl)]
    rw [e, if_neg (by decide)] at H2; exact H2
  | true =>
    rw [if_neg (by decide), e14 e (by omega)]
    rw [e, if_pos rfl] at H2
    refine S81 s1 (xTkD_b _ _ _) ?_
    intro s2
    exact ⟨_, rfl, H2⟩
noncomputable def aAway (S : GS) (v : Int32) : Int32 := if hOK S 2 v = true then flg (onB (xTake (gE S) 2 v (gX S)).1 v.toNatClampNeg) else -1
theorem S84 {S : GS} {d : Nat} {v : Int32} {h : ajH} {Q : Option Value → ajH → Prop} (hs : ajShp h) (c : CI S h) (vd : GVd S)
    (H : ∀ h', FR h h' PHd → CI (gHand S 2 v) h' → Q (some (.int (aAway S v))) h') : ajEv (d + 7) 84 0 [.ref 1, .int v] [] h Q := by
  have z8 := vd.z8
  refine W84_0 hs ?_
  refine S55 (o := 2) (by omega) hs c vd ?_
  intro h1 f1 c1 _ s1
  refine ⟨_, rfl, ?_⟩
  have H2 := H h1 f1 c1
  unfold aAway at H2
  cases e : hOK S 2 v with
  | false =>
    rw [if_pos (show flg false = 0 from rfl)]
    rw [e, if_neg (by decide)] at H2; exact H2
  | true =>
    rw [if_neg (by decide)]
    rw [e, if_pos rfl] at H2
    have eg : gHand S 2 v = gKeep S (xTake (gE S) 2 v (gX S)) := by unfold gHand; rw [if_pos e]
    rw [eg] at c1
    have ca := (hOK_e e).2
    have ei : isp (gz S) v = true := by
      unfold caB at ca
      cases y : isp (gz S) v with
      | true => rfl
      | false => rw [y] at ca; cases ca
    obtain ⟨k, hk, rfl⟩ := isp_k z8 ei
    rw [sr_N (by omega)] at H2
    have cx : cX h1 54 (gz S) (xTake (gE S) 2 (nI k) (gX S)) := c1.2.2.2.1
    refine S72c (ajKc rfl) s1 cx.1 z8 hk ?_
    intro s2
    refine ⟨_, rfl, ?_⟩
    refine S81 s2 (by cases onB (xTake (gE S) 2 (nI k) (gX S)).1 k; exact Or.inl rfl; exact Or.inr rfl) ?_
    intro s3
    exact ⟨_, rfl, H2⟩
noncomputable def aMend (S : GS) (v : Int32) : Int32 := if hOK S 3 v = true then bcF (onM (gz S) (xTake (gE S) 3 v (gX S)).1) else -1
theorem S85 {S : GS} {d : Nat} {v : Int32} {h : ajH} {Q : Option Value → ajH → Prop} (hs : ajShp h) (c : CI S h) (vd : GVd S)
    (H : ∀ h', FR h h' PHd → CI (gHand S 3 v) h' → Q (some (.int (aMend S v))) h') : ajEv (d + 7) 85 0 [.ref 1, .int v] [] h Q := by
  refine W85_0 hs ?_
  refine S55 (o := 3) (by omega) hs c vd ?_
  intro h1 f1 c1 _ s1
  refine ⟨_, rfl, ?_⟩
  have H2 := H h1 f1 c1
  unfold aMend at H2
  cases e : hOK S 3 v with
  | false =>
    rw [if_pos (show flg false = 0 from rfl)]
    rw [e, if_neg (by decide)] at H2; exact H2
  | true =>
    rw [if_neg (by decide)]
    rw [e, if_pos rfl] at H2
    have eg : gHand S 3 v = gKeep S (xTake (gE S) 3 v (gX S)) := by unfold gHand; rw [if_pos e]
    rw [eg] at c1
    have cx : cX h1 54 (gz S) (xTake (gE S) 3 v (gX S)) := c1.2.2.2.1
    rw [cx.1.1.1]
    refine S258 s1 ?_
    intro s2
    exact ⟨_, rfl, H2⟩
