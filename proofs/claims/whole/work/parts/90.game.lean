/-! Games of two who get off, and their rests. -/
def twoB (S : GS) (v1 v2 : Int32) : Bool := isp (gz S) v1 && isp (gz S) v2 && !decide (v1 = v2) && onB (gX S).1 v1.toNatClampNeg && onB (gX S).1 v2.toNatClampNeg
theorem twoB_k {S : GS} {v1 v2 : Int32} (z8 : gz S ≤ 8) (e : twoB S v1 v2 = true) : ∃ a b, a < gz S ∧ b < gz S ∧ v1 = nI a ∧ v2 = nI b ∧ ¬ a = b ∧ onB (gX S).1 a = true ∧ onB (gX S).1 b = true := by
  unfold twoB at e
  simp only [Bool.and_eq_true, Bool.not_eq_true', decide_eq_false_iff_not] at e
  obtain ⟨⟨⟨⟨e1, e2⟩, e3⟩, e4⟩, e5⟩ := e
  obtain ⟨a, ha, rfl⟩ := isp_k z8 e1
  obtain ⟨b, hb', rfl⟩ := isp_k z8 e2
  rw [sr_N (by omega)] at e4 e5
  exact ⟨a, b, ha, hb', rfl, rfl, fun z => e3 (by rw [z]), e4, e5⟩
theorem S124 {S : GS} {d : Nat} {v1 v2 : Int32} {h : ajH} {Q : Option Value → ajH → Prop} (hs : ajShp h) (c : CI S h) (vd : GVd S) (H : Q (some (.int (flg (twoB S v1 v2)))) h) : ajEv (d + 1) 124 0 [.ref 1, .int v1, .int v2] [] h Q := by
  have z8 := vd.z8
  refine W124_0 hs ?_
  unfold twoB at H
  refine S58 hs c.2.1 ?_
  intro s1
  refine ⟨_, rfl, ?_⟩
  cases e1 : isp (gz S) v1 with
  | false => rw [if_pos (show flg false = 0 from rfl)]; rw [e1] at H; (simp at H; exact H)
  | true =>
    rw [if_neg (by decide)]
    refine S58 s1 c.2.1 ?_
    intro s2
    refine ⟨_, rfl, ?_⟩
    cases e2 : isp (gz S) v2 with
    | false => rw [if_pos (show flg false = 0 from rfl)]; rw [e2] at H; (simp at H; exact H)
    | true =>
      rw [if_neg (by decide)]
      by_cases y : v1 = v2
      · rw [if_pos y]; rw [decide_eq_true y] at H; (simp at H; exact H)
      · rw [if_neg y]
        obtain ⟨a, ha, rfl⟩ := isp_k z8 e1
        obtain ⟨b, hb', rfl⟩ := isp_k z8 e2
        rw [e1, e2, decide_eq_false y, sr_N (by omega), sr_N (by omega)] at H
        refine S72b (ajKc rfl) s2 (CS_CB c.2.2.2.1.1) z8 ha ?_
        intro s3
        refine ⟨_, rfl, ?_⟩
        cases e3 : onB (gX S).1 a with
        | false => rw [if_pos (show flg false = 0 from rfl)]; rw [e3] at H; exact H
        | true =>
          rw [if_neg (by decide)]
          refine S72b (ajKc rfl) s3 (CS_CB c.2.2.2.1.1) z8 hb' ?_
          intro s4
          refine ⟨_, rfl, ?_⟩
          rw [e3] at H
          cases e4 : onB (gX S).1 b with
          | false => rw [if_pos (show flg false = 0 from rfl)]; rw [e4] at H; exact H
          | true => rw [if_neg (by decide)]; rw [e4] at H; exact H
theorem S235 {S : GS} {d : Nat} {v1 v2 : Int32} {h : ajH} {Q : Option Value → ajH → Prop} (hs : ajShp h) (c : MI S h) (vd : GVd S) (H : Q (some (.int (flg (twoB S v1 v2)))) h) : ajEv (d + 1) 235 0 [.ref 320, .int v1, .int v2] [] h Q := by
  have z8 := vd.z8
  have rw0 := (mX0 c.2.2.2.1).1
  refine W235_0 hs ?_
  unfold twoB at H
  refine S179 hs c.2.1 ?_
  intro s1
  refine ⟨_, rfl, ?_⟩
  cases e1 : isp (gz S) v1 with
  | false => rw [if_pos (show flg false = 0 from rfl)]; rw [e1] at H; (simp at H; exact H)
  | true =>
    rw [if_neg (by decide)]
    refine S179 s1 c.2.1 ?_
    intro s2
    refine ⟨_, rfl, ?_⟩
    cases e2 : isp (gz S) v2 with
    | false => rw [if_pos (show flg false = 0 from rfl)]; rw [e2] at H; (simp at H; exact H)
    | true =>
      rw [if_neg (by decide)]
      by_cases y : v1 = v2
      · rw [if_pos y]; rw [decide_eq_true y] at H; (simp at H; exact H)
      · rw [if_neg y]
        obtain ⟨a, ha, rfl⟩ := isp_k z8 e1
        obtain ⟨b, hb', rfl⟩ := isp_k z8 e2
        rw [e1, e2, decide_eq_false y, sr_N (by omega), sr_N (by omega)] at H
        refine S193 (Or.inl rfl) s2 rw0 (by omega) ?_
        intro s3
        refine ⟨_, rfl, ?_⟩
        cases e3 : onB (gX S).1 a with
        | false => rw [if_pos (show flg false = 0 from rfl)]; rw [e3] at H; exact H
        | true =>
          rw [if_neg (by decide)]
          refine S193 (Or.inl rfl) s3 rw0 (by omega) ?_
          intro s4
          refine ⟨_, rfl, ?_⟩
          rw [e3] at H
          cases e4 : onB (gX S).1 b with
          | false => rw [if_pos (show flg false = 0 from rfl)]; rw [e4] at H; exact H
          | true => rw [if_neg (by decide)]; rw [e4] at H; exact H
def cl20 (x : Int32) : Int32 := if 0 < (if x < 20 then x else 20) then (if x < 20 then x else 20) else 0
noncomputable def gmO (S : GS) : Int32 := mk (onB (gX S).1) (gz S)
/-- what a has, when off or on, while b is off or on -/
noncomputable def gmH (S : GS) (a b oa ob : Nat) : Int32 := if oa = 1 then 5 else cl20 (eS (gE S) a - br (gE S) (if ob = 1 then gmO S &&& (bt b ^^^ -1) else gmO S) (bN (gX S).1) a)
theorem S125 {S : GS} {d a b oa ob : Nat} {h : ajH} {Q : Option Value → ajH → Prop} (hs : ajShp h) (c : CI S h) (vd : GVd S) (ha : a < gz S) (ho : oa < 2) (hp : ob < 2)
    (H : ∀ h', FR h h' P62 → CI S h' → Q (some (.int (gmH S a b oa ob))) h') : ajEv (d + 2) 125 0 [.ref 1, .int (nI a), .int (nI b), .int (nI oa), .int (nI ob), ajU, ajU] [] h Q := by
  have z8 := vd.z8
  have hz : 0 < gz S := by omega
  have xv := vd.xv hz
  refine W125_0 hs ?_
  unfold gmH at H
  by_cases y : oa = 1
  · rw [if_pos (by rw [y]; rfl)]
    rw [if_pos y] at H
    exact H h (FR_refl _ _) c
  · rw [if_neg (show ¬ nI oa = 1 from fun z => y ((sr_eq (b := 1) (by omega) (by omega)).mp z))]
    rw [if_neg y] at H
    refine S58 hs c.2.1 ?_
    intro s1
    refine ⟨_, rfl, ?_⟩
    rw [isp_y (by omega) ha, if_pos (by decide)]
    have go : ∀ (m : Int32), m = (if ob = 1 then gmO S &&& (bt b ^^^ -1) else gmO S) → ajEv (d + 1 + 1) 125 44 [.ref 1, .int (nI a), .int (nI b), .int (nI oa), .int (nI ob), ajU, ajU] [.int m] h Q := by
      rintro _ rfl
      refine W125_44 s1 ?_
      rw [c.2.2.2.1.1.1.2.2.1, xv.1.1.1]
      refine S68 (E := gE S) (ajKc rfl) (ajKc rfl) (by omega) s1 (CI_CE c.2.1 vd hz) xv.1.1.2 ?_
      intro h1 f1 x1 s2
      have f1' : FR h h1 P62 := FR_mono f1 (fun o j z => z)
      have c1 := CI_62 c f1'
      have ce := CI_CE c1.2.1 vd hz
      rw [sr_in (by omega), sr_N (by omega), x1 a (by omega), (ce.2.2.2.2 a ha).1]
      exact ⟨rfl, by omega, by omega, H h1 f1' c1⟩
    rw [c.2.2.2.1.1.1.1, bt_def]
    by_cases y2 : ob = 1
    · rw [if_neg (fun z => z (by rw [y2]; rfl))]
      exact go _ (by rw [if_pos y2]; rfl)
    · rw [if_pos (show ¬ nI ob = 1 from fun z => y2 ((sr_eq (b := 1) (by omega) (by omega)).mp z))]
      exact go _ (by rw [if_neg y2]; rfl)
noncomputable def gmV (S : GS) (a b oa ob w : Nat) : Int32 := if w = 0 then gmH S a b oa ob else gmH S b a ob oa
theorem hb_of (m : Int32) {k i : Nat} (hk : k < 32) (hi : i < 32) : hb (m &&& (bt k ^^^ -1)) i = (hb m i && !decide (i = k)) := by
  rw [hb_and, hb_not _ hi, hb_bt hk hi]
theorem and_cm (x y z : Int32) : x &&& y &&& z = x &&& z &&& y := by
  refine hb_ext fun i hi => ?_
  rw [hb_and, hb_and, hb_and, hb_and, Bool.and_assoc, Bool.and_comm (hb y i), Bool.and_assoc]
theorem S236_52 {S : GS} {d w : Nat} {m : Int32} {h : ajH} {Q : Option Value → ajH → Prop} {u1 u2 u3 u4 u5 u7 : Value} (hs : ajShp h) (c : MI S h) (vd : GVd S) (hw : w < gz S)
    (H : ∀ h', FR h h' P333 → MI S h' → Q (some (.int (if hb m w = true then cl20 (eS (gE S) w - br (gE S) m (bN (gX S).1) w) else 5))) h') : ajEv (d + 3) 236 52 [.ref 320, u1, u2, u3, u4, u5, .int m, u7] [.int (nI w)] h Q := by
  have z8 := vd.z8
  have hz : 0 < gz S := by omega
  have xv := vd.xv hz
  refine W236_52 hs ?_
  refine S154 hs (by omega) ?_
  intro s1
  refine ⟨_, rfl, ?_⟩
  cases e : hb m w with
  | false =>
    rw [if_neg (show ¬ ¬ flg false = 0 from fun z => z rfl)]
    rw [e, if_neg (by decide)] at H
    exact H h (FR_refl _ _) c
  | true =>
    rw [if_pos (by decide)]
    rw [if_pos e] at H
    rw [(mX0 c.2.2.2.1).1 16 (by omega), xv.1.1.1]
    refine S182 (E := gE S) s1 (MI_ME c.2.1 vd hz) xv.1.1.2 ?_
    intro h1 f1 x1 s2
    refine ⟨rfl, ?_⟩
    have f1' : FR h h1 P333 := FR_mono f1 (fun o j z => z)
    have c1 := MI_333 c f1'
    refine S192 (E := gE S) s2 (MI_ME c1.2.1 vd hz) hw ?_
    intro s3
    refine ⟨_, rfl, ?_⟩
    rw [sr_in (by omega), sr_N (by omega), x1 w (by omega)]
    exact ⟨by omega, H h1 f1' c1⟩
theorem S236 {S : GS} {d a b oa ob w : Nat} {h : ajH} {Q : Option Value → ajH → Prop} (hs : ajShp h) (c : MI S h) (vd : GVd S) (ha : a < gz S) (hb' : b < gz S) (hab : ¬ a = b) (ea : onB (gX S).1 a = true) (eb : onB (gX S).1 b = true) (ho : oa < 2) (hp : ob < 2) (hw : w < 2)
    (H : ∀ h', FR h h' P333 → MI S h' → Q (some (.int (gmV S a b oa ob w))) h') : ajEv (d + 4) 236 0 [.ref 320, .int (nI a), .int (nI b), .int (nI oa), .int (nI ob), .int (nI w), ajU, ajU] [] h Q := by
  have z8 := vd.z8
  have hz : 0 < gz S := by omega
  have oA : hb (gmO S) a = true := by unfold gmO; rw [on_k z8 ha]; exact ea
  have oB : hb (gmO S) b = true := by unfold gmO; rw [on_k z8 hb']; exact eb
  refine W236_0 hs ?_
  refine S181 (E := gE S) (Or.inl rfl) hs (MI_ME c.2.1 vd hz) (mX0 c.2.2.2.1).1 ?_
  intro s1
  refine ⟨_, rfl, ?_⟩
  have eT : thM (eN (gE S)) (gX S).1 0 = gmO S := rfl
  rw [eT, bt_def]
  have go : ∀ m : Int32, m = (if oa = 1 then gmO S &&& (bt a ^^^ -1) else gmO S) → ajEv (d + 3 + 1) 236 26 [.ref 320, .int (nI a), .int (nI b), .int (nI oa), .int (nI ob), .int (nI w), .int m, ajU] [] h Q := by
    intro m em
    refine W236_26 s1 ?_
    rw [bt_def]
    generalize em2 : (if ob = 1 then m &&& (bt b ^^^ -1) else m) = m2
    have hm1 : ∀ i, i < 32 → hb m i = (hb (gmO S) i && (!decide (oa = 1) || !decide (i = a))) := fun i hi => by
      rw [em]
      by_cases y : oa = 1
      · rw [if_pos y, hb_of _ (by omega) hi, decide_eq_true y]; simp
      · rw [if_neg y, decide_eq_false y]; simp
    have hm2 : ∀ i, i < 32 → hb m2 i = (hb (gmO S) i && (!decide (oa = 1) || !decide (i = a)) && (!decide (ob = 1) || !decide (i = b))) := fun i hi => by
      rw [← em2]
      by_cases y : ob = 1
      · rw [if_pos y, hb_of _ (by omega) hi, decide_eq_true y, hm1 i hi]; simp
      · rw [if_neg y, decide_eq_false y, hm1 i hi]; simp
    have v0 : ∀ h', Q (some (.int (gmV S a b oa ob 0))) h' → Q (some (.int (if hb m2 a = true then cl20 (eS (gE S) a - br (gE S) m2 (bN (gX S).1) a) else 5))) h' := by
      intro h' q
      unfold gmV gmH at q
      rw [if_pos rfl] at q
      rw [hm2 a (by omega), oA, decide_eq_true (show a = a from rfl), decide_eq_false hab]
      by_cases y : oa = 1
      · rw [if_pos y] at q
        rw [decide_eq_true y, if_neg (by simp)]; exact q
      · rw [if_neg y] at q
        rw [decide_eq_false y, if_pos (by simp), ← em2, em, if_neg y]; exact q
    have v1 : ∀ h', Q (some (.int (gmV S a b oa ob 1))) h' → Q (some (.int (if hb m2 b = true then cl20 (eS (gE S) b - br (gE S) m2 (bN (gX S).1) b) else 5))) h' := by
      intro h' q
      unfold gmV gmH at q
      rw [if_neg (by omega)] at q
      rw [hm2 b (by omega), oB, decide_eq_true (show b = b from rfl), decide_eq_false (show ¬ b = a from fun z => hab z.symm)]
      by_cases y : ob = 1
      · rw [if_pos y] at q
        rw [decide_eq_true y, if_neg (by simp)]; exact q
      · rw [if_neg y] at q
        rw [decide_eq_false y, if_pos (by simp), ← em2, em, if_neg y]; exact q
    have fin : ajEv (d + 3 + 1) 236 52 [.ref 320, .int (nI a), .int (nI b), ajU, .int (nI ob), .int (nI w), .int m2, ajU] [.int (nI (if w = 0 then a else b))] h Q := by
      by_cases y : w = 0
      · rw [if_pos y]
        refine S236_52 s1 c vd ha (fun h' f' c' => v0 h' ?_)
        have := H h' f' c'
        rw [y] at this; exact this
      · rw [if_neg y]
        refine S236_52 s1 c vd hb' (fun h' f' c' => v1 h' ?_)
        have := H h' f' c'
        rw [show w = 1 by omega] at this; exact this
    by_cases y1 : ob = 1
    · rw [if_neg (fun z => z (by rw [y1]; rfl))]
      rw [if_pos y1] at em2
      rw [em2]
      by_cases y2 : w = 0
      · rw [if_neg (fun z => z (by rw [y2]; rfl))]
        rw [if_pos y2] at fin; exact fin
      · rw [if_pos (nI_ne0 (by omega) (by omega))]
        rw [if_neg y2] at fin; exact fin
    · rw [if_pos (show ¬ nI ob = 1 from fun z => y1 ((sr_eq (b := 1) (by omega) (by omega)).mp z))]
      rw [if_neg y1] at em2
      rw [em2]
      by_cases y2 : w = 0
      · rw [if_neg (fun z => z (by rw [y2]; rfl))]
        rw [if_pos y2] at fin; exact fin
      · rw [if_pos (nI_ne0 (by omega) (by omega))]
        rw [if_neg y2] at fin; exact fin
  by_cases y : oa = 1
  · rw [if_neg (fun z => z (by rw [y]; rfl))]
    exact go _ (by rw [if_pos y])
  · rw [if_pos (show ¬ nI oa = 1 from fun z => y ((sr_eq (b := 1) (by omega) (by omega)).mp z))]
    exact go _ (by rw [if_neg y])
def gmOK (S : GS) (v1 v2 v3 v4 v5 : Int32) : Bool := twoB S v1 v2 && isp 2 v3 && isp 2 v4 && isp 2 v5
noncomputable def aGame (S : GS) (v1 v2 v3 v4 v5 : Int32) : Int32 := if gmOK S v1 v2 v3 v4 v5 = true then gmV S v1.toNatClampNeg v2.toNatClampNeg v3.toNatClampNeg v4.toNatClampNeg v5.toNatClampNeg else -1000000
theorem gm_n {S : GS} {v1 v2 v3 v4 v5 : Int32} {h : ajH} {Q : Option Value → ajH → Prop} (H : Q (some (.int (aGame S v1 v2 v3 v4 v5))) h) (e : gmOK S v1 v2 v3 v4 v5 = false) : Q (some (.int (-1000000))) h := by
  unfold aGame at H
  rw [e, if_neg (by decide)] at H
  exact H
/-- a check of 0 or 1, as the class makes it -/
theorem ck01 {A B : Prop} {v : Int32} (hn : isp 2 v = false → B) (hy : isp 2 v = true → A) : if v < 0 then B else if 1 < v then B else A := by
  cases e : isp 2 v with
  | false =>
    have b := hn e
    rcases isp_2n e with y | y
    · rw [if_pos y]; exact b
    · by_cases y0 : v < 0
      · rw [if_pos y0]; exact b
      · rw [if_neg y0, if_pos y]; exact b
  | true =>
    have a := hy e
    rcases isp_2 e with rfl | rfl
    · rw [if_neg (by decide), if_neg (by decide)]; exact a
    · rw [if_neg (by decide), if_neg (by decide)]; exact a
theorem ck01' {A B : Prop} {v : Int32} (hn : isp 2 v = false → B) (hy : isp 2 v = true → A) : if v < 0 then B else if v ≤ 1 then A else B := by
  cases e : isp 2 v with
  | false =>
    have b := hn e
    rcases isp_2n e with y | y
    · rw [if_pos y]; exact b
    · by_cases y0 : v < 0
      · rw [if_pos y0]; exact b
      · rw [if_neg y0, if_neg (fa_nle y)]; exact b
  | true =>
    have a := hy e
    rcases isp_2 e with rfl | rfl
    · rw [if_neg (by decide), if_pos (by decide)]; exact a
    · rw [if_neg (by decide), if_pos (by decide)]; exact a
theorem S123 {S : GS} {d : Nat} {v1 v2 v3 v4 v5 : Int32} {h : ajH} {Q : Option Value → ajH → Prop} (hs : ajShp h) (c : CI S h) (vd : GVd S)
    (H : ∀ h', FR h h' P62 → CI S h' → Q (some (.int (aGame S v1 v2 v3 v4 v5))) h') : ajEv (d + 3) 123 0 [.ref 1, .int v1, .int v2, .int v3, .int v4, .int v5] [] h Q := by
  have z8 := vd.z8
  have H0 := H h (FR_refl _ _) c
  refine W123_0 hs ?_
  refine S124 hs c vd ?_
  intro s1
  refine ⟨_, rfl, ?_⟩
  cases e1 : twoB S v1 v2 with
  | false =>
    rw [if_pos (show flg false = 0 from rfl)]
    exact gm_n H0 (by unfold gmOK; rw [e1]; rfl)
  | true =>
    rw [if_neg (by decide)]
    refine ck01 (fun e => gm_n H0 (by unfold gmOK; rw [e]; simp)) (fun e3 => ?_)
    refine ck01 (fun e => gm_n H0 (by unfold gmOK; rw [e]; simp)) (fun e4 => ?_)
    refine ck01' (fun e => gm_n H0 (by unfold gmOK; rw [e]; simp)) (fun e5 => ?_)
    obtain ⟨a, b, ha, hb', rfl, rfl, hab, ea, eb⟩ := twoB_k z8 e1
    obtain ⟨oa, ho, rfl⟩ := isp_K (by omega) e3
    obtain ⟨ob, hp, rfl⟩ := isp_K (by omega) e4
    obtain ⟨w, hw, rfl⟩ := isp_K (by omega) e5
    unfold aGame gmOK at H
    rw [e1, e3, e4, e5, if_pos (by decide), sr_N (by omega), sr_N (by omega), sr_N (by omega), sr_N (by omega), sr_N (by omega)] at H
    unfold gmV at H
    by_cases y : w = 0
    · rw [if_neg (fun z => z (by rw [y]; rfl))]
      rw [if_pos y] at H
      refine S125 s1 c vd ha ho hp ?_
      intro h1 f1 c1 s2
      exact ⟨_, rfl, H h1 f1 c1⟩
    · rw [if_pos (nI_ne0 (by omega) (by omega))]
      rw [if_neg y] at H
      refine S125 s1 c vd hb' hp ho ?_
      intro h1 f1 c1 s2
      exact ⟨_, rfl, H h1 f1 c1⟩
theorem S145i {d : Nat} {h : ajH} {Q : Option Value → ajH → Prop} {v : Int32} (hs : ajShp h) (H : Q (some (.int (flg (isp 2 v)))) h) : ajEv d 145 0 [.long v.toInt64, ajU, .long (0 : Int64), ajU, .long (1 : Int64), ajU] [] h Q := by
  refine S145 (lo := 0) (hi := 1) hs ?_
  have q2 := in_isp (n := 2) (v := v) (by omega)
  rw [show nI 2 - 1 = (1 : Int32) from rfl] at q2
  rw [q2]; exact H
theorem S234 {S : GS} {d : Nat} {v1 v2 v3 v4 v5 : Int32} {h : ajH} {Q : Option Value → ajH → Prop} (hs : ajShp h) (c : MI S h) (vd : GVd S)
    (H : ∀ h', FR h h' P333t → MI S h' → Q (some (.int (aGame S v1 v2 v3 v4 v5))) h') : ajEv (d + 5) 234 0 [.ref 320, .int v1, .int v2, .int v3, .int v4, .int v5] [] h Q := by
  have z8 := vd.z8
  refine W234_0 hs ?_
  rintro _ rfl
  have c0 := MI_0 (x := 0) c
  have f0 : FR h (ajSI h 320 0 0) P333t := FR_SI h (by unfold P333t; omega)
  have s0 : ajShp (ajSI h 320 0 0) := hs
  generalize ajSI h 320 0 0 = h0 at c0 f0 s0
  have H0 := H h0 f0 c0
  refine S235 s0 c0 vd ?_
  intro s1
  refine ⟨_, rfl, ?_⟩
  cases e1 : twoB S v1 v2 with
  | false =>
    rw [if_pos (show flg false = 0 from rfl)]
    exact gm_n H0 (by unfold gmOK; rw [e1]; rfl)
  | true =>
    rw [if_neg (by decide)]
    refine S145i s1 ?_
    intro s2
    refine ⟨_, rfl, ?_⟩
    cases e3 : isp 2 v3 with
    | false =>
      rw [if_pos (show flg false = 0 from rfl)]
      exact gm_n H0 (by unfold gmOK; rw [e3]; simp)
    | true =>
      rw [if_neg (by decide)]
      refine S145i s2 ?_
      intro s3
      refine ⟨_, rfl, ?_⟩
      cases e4 : isp 2 v4 with
      | false =>
        rw [if_pos (show flg false = 0 from rfl)]
        exact gm_n H0 (by unfold gmOK; rw [e4]; simp)
      | true =>
        rw [if_neg (by decide)]
        refine S145i s3 ?_
        intro s4
        refine ⟨_, rfl, ?_⟩
        cases e5 : isp 2 v5 with
        | false =>
          rw [if_pos (show flg false = 0 from rfl)]
          exact gm_n H0 (by unfold gmOK; rw [e5]; simp)
        | true =>
          rw [if_neg (by decide)]
          obtain ⟨a, b, ha, hb', rfl, rfl, hab, ea, eb⟩ := twoB_k z8 e1
          obtain ⟨oa, ho, rfl⟩ := isp_K (by omega) e3
          obtain ⟨ob, hp, rfl⟩ := isp_K (by omega) e4
          obtain ⟨w, hw, rfl⟩ := isp_K (by omega) e5
          unfold aGame gmOK at H
          rw [e1, e3, e4, e5, if_pos (by decide), sr_N (by omega), sr_N (by omega), sr_N (by omega), sr_N (by omega), sr_N (by omega)] at H
          refine S236 s4 c0 vd ha hb' hab ea eb ho hp hw ?_
          intro h1 f1 c1 s5
          exact ⟨_, rfl, H h1 (FR_trans f0 (FR_mono f1 (fun o j z => Or.inl z))) c1⟩
/-- neither gains by another choice -/
noncomputable def rsB (S : GS) (a b p q : Nat) : Bool := !decide (gmH S a b p q < gmH S a b (1 - p) q) && !decide (gmH S b a q p < gmH S b a (1 - q) p)
noncomputable def rsF (S : GS) (a b : Nat) (i : Int32) : Nat → Nat → Nat → Int32
  | 0, _, n => if i = -1 then nI n else -1
  | f + 1, t, n => if rsB S a b (t / 2) (t % 2) = true then (if nI n = i then nI (10 * (t / 2) + t % 2) else rsF S a b i f (t + 1) (n + 1)) else rsF S a b i f (t + 1) n
noncomputable def aRest (S : GS) (v1 v2 v3 : Int32) : Int32 := if (twoB S v1 v2 && decide (-1 ≤ v3)) = true then rsF S v1.toNatClampNeg v2.toNatClampNeg v3 4 0 0 else -1
theorem rs_n {S : GS} {v1 v2 v3 : Int32} {h : ajH} {Q : Option Value → ajH → Prop} (H : Q (some (.int (aRest S v1 v2 v3))) h) (e : (twoB S v1 v2 && decide (-1 ≤ v3)) = false) : Q (some (.int (-1))) h := by
  unfold aRest at H
  rw [e, if_neg (by decide)] at H
  exact H
theorem S126_nx {d a b t n : Nat} {i : Int32} {h : ajH} {Q : Option Value → ajH → Prop} (hs : ajShp h) (ht : t < 4) (H1 : t < 3 → ajEv (d + 3) 126 31 [.ref 1, .int (nI a), .int (nI b), .int i, .int (nI n), .int (nI ((t + 1) / 2)), .int (nI ((t + 1) % 2))] [] h Q) (H2 : t = 3 → Q (some (.int (if i = -1 then nI n else -1))) h) :
    ajEv (d + 3) 126 31 [.ref 1, .int (nI a), .int (nI b), .int i, .int (nI n), .int (nI (t / 2)), .int (nI (t % 2 + 1))] [] h Q := by
  have : t = 0 ∨ t = 1 ∨ t = 2 ∨ t = 3 := by omega
  rcases this with rfl | rfl | rfl | rfl
  · exact H1 (by omega)
  · refine W126_31 hs ?_
    rw [if_pos (by decide)]
    refine W126_22 hs ?_
    rw [if_neg (by decide)]
    exact H1 (by omega)
  · exact H1 (by omega)
  · have q := H2 rfl
    refine W126_31 hs ?_
    rw [if_pos (by decide)]
    refine W126_22 hs ?_
    rw [if_pos (by decide)]
    by_cases y : i = -1
    · rw [if_neg (fun z => z y)]; rw [if_pos y] at q; exact q
    · rw [if_pos y]; rw [if_neg y] at q; exact q
theorem S126_31 {S : GS} {d a b : Nat} {i : Int32} (vd : GVd S) (ha : a < gz S) (hb' : b < gz S) : ∀ (f t n : Nat) (h : ajH) (Q : Option Value → ajH → Prop), t + (f + 1) = 4 → ajShp h → CI S h →
    (∀ h', FR h h' P62 → CI S h' → Q (some (.int (rsF S a b i (f + 1) t n))) h') → ajEv (d + 3) 126 31 [.ref 1, .int (nI a), .int (nI b), .int i, .int (nI n), .int (nI (t / 2)), .int (nI (t % 2))] [] h Q := by
  intro f
  induction f with
  | zero =>
    intro t n h Q ht hs c H
    have nx : ∀ (n : Nat) (h1 : ajH), FR h h1 P62 → ajShp h1 → CI S h1 → (∀ h', FR h h' P62 → CI S h' → Q (some (.int (rsF S a b i 0 (t + 1) n))) h') → ajEv (d + 3) 126 31 [.ref 1, .int (nI a), .int (nI b), .int i, .int (nI n), .int (nI (t / 2)), .int (nI (t % 2 + 1))] [] h1 Q :=
      fun n h1 f1 s1 c1 H => S126_nx s1 (by omega) (fun z => by omega) (fun _ => H h1 f1 c1)
    have hp : t / 2 < 2 := by omega
    have hq : t % 2 < 2 := by omega
    have es : rsF S a b i (0 + 1) t n = if rsB S a b (t / 2) (t % 2) = true then (if nI n = i then nI (10 * (t / 2) + t % 2) else rsF S a b i 0 (t + 1) (n + 1)) else rsF S a b i 0 (t + 1) n := rfl
    rw [es] at H
    unfold rsB at H
    generalize t / 2 = p at *
    generalize t % 2 = q at *
    have m1 : (1 : Int32) - nI p = nI (1 - p) := by rw [sl_1, sr_sub (by omega)]
    have m2 : (1 : Int32) - nI q = nI (1 - q) := by rw [sl_1, sr_sub (by omega)]
    refine W126_31 hs ?_
    rw [if_neg (by rw [sl_1, sr_lt (by omega) (by omega)]; omega), m1, m2, nI_1, nI_1]
    refine S125 hs c vd ha hp hq ?_
    intro h1 f1 c1 s1
    refine ⟨_, rfl, ?_⟩
    refine S125 s1 c1 vd ha (by omega) hq ?_
    intro h2 f2 c2 s2
    refine ⟨_, rfl, ?_⟩
    have f02 := FR_trans f1 f2
    by_cases y1 : gmH S a b p q < gmH S a b (1 - p) q
    · rw [if_pos y1]
      rw [decide_eq_true y1, if_neg (by simp)] at H
      exact nx n h2 f02 s2 c2 H
    · rw [if_neg y1]
      rw [decide_eq_false y1] at H
      refine S125 s2 c2 vd hb' hq hp ?_
      intro h3 f3 c3 s3
      refine ⟨_, rfl, ?_⟩
      refine S125 s3 c3 vd hb' (by omega) hp ?_
      intro h4 f4 c4 s4
      refine ⟨_, rfl, ?_⟩
      have f04 := FR_trans f02 (FR_trans f3 f4)
      by_cases y2 : gmH S b a q p < gmH S b a (1 - q) p
      · rw [if_pos y2]
        rw [decide_eq_true y2, if_neg (by simp)] at H
        exact nx n h4 f04 s4 c4 H
      · rw [if_neg y2]
        rw [decide_eq_false y2, if_pos (by simp)] at H
        by_cases y3 : nI n = i
        · rw [if_neg (fun z => z y3), sl_10, sr_mul, sr_add]
          rw [if_pos y3] at H
          exact H h4 f04 c4
        · rw [if_pos y3]
          rw [if_neg y3] at H
          exact nx (n + 1) h4 f04 s4 c4 H
  | succ f ih =>
    intro t n h Q ht hs c H
    have nx : ∀ (n : Nat) (h1 : ajH), FR h h1 P62 → ajShp h1 → CI S h1 → (∀ h', FR h h' P62 → CI S h' → Q (some (.int (rsF S a b i (f + 1) (t + 1) n))) h') → ajEv (d + 3) 126 31 [.ref 1, .int (nI a), .int (nI b), .int i, .int (nI n), .int (nI (t / 2)), .int (nI (t % 2 + 1))] [] h1 Q :=
      fun n h1 f1 s1 c1 H => S126_nx s1 (by omega) (fun z => ih (t + 1) n h1 Q (by omega) s1 c1 (fun h' g c' => H h' (FR_trans f1 g) c')) (fun z => by omega)
    have hp : t / 2 < 2 := by omega
    have hq : t % 2 < 2 := by omega
    have es : rsF S a b i (f + 1 + 1) t n = if rsB S a b (t / 2) (t % 2) = true then (if nI n = i then nI (10 * (t / 2) + t % 2) else rsF S a b i (f + 1) (t + 1) (n + 1)) else rsF S a b i (f + 1) (t + 1) n := rfl
    rw [es] at H
    unfold rsB at H
    generalize t / 2 = p at *
    generalize t % 2 = q at *
    have m1 : (1 : Int32) - nI p = nI (1 - p) := by rw [sl_1, sr_sub (by omega)]
    have m2 : (1 : Int32) - nI q = nI (1 - q) := by rw [sl_1, sr_sub (by omega)]
    refine W126_31 hs ?_
    rw [if_neg (by rw [sl_1, sr_lt (by omega) (by omega)]; omega), m1, m2, nI_1, nI_1]
    refine S125 hs c vd ha hp hq ?_
    intro h1 f1 c1 s1
    refine ⟨_, rfl, ?_⟩
    refine S125 s1 c1 vd ha (by omega) hq ?_
    intro h2 f2 c2 s2
    refine ⟨_, rfl, ?_⟩
    have f02 := FR_trans f1 f2
    by_cases y1 : gmH S a b p q < gmH S a b (1 - p) q
    · rw [if_pos y1]
      rw [decide_eq_true y1, if_neg (by simp)] at H
      exact nx n h2 f02 s2 c2 H
    · rw [if_neg y1]
      rw [decide_eq_false y1] at H
      refine S125 s2 c2 vd hb' hq hp ?_
      intro h3 f3 c3 s3
      refine ⟨_, rfl, ?_⟩
      refine S125 s3 c3 vd hb' (by omega) hp ?_
      intro h4 f4 c4 s4
      refine ⟨_, rfl, ?_⟩
      have f04 := FR_trans f02 (FR_trans f3 f4)
      by_cases y2 : gmH S b a q p < gmH S b a (1 - q) p
      · rw [if_pos y2]
        rw [decide_eq_true y2, if_neg (by simp)] at H
        exact nx n h4 f04 s4 c4 H
      · rw [if_neg y2]
        rw [decide_eq_false y2, if_pos (by simp)] at H
        by_cases y3 : nI n = i
        · rw [if_neg (fun z => z y3), sl_10, sr_mul, sr_add]
          rw [if_pos y3] at H
          exact H h4 f04 c4
        · rw [if_pos y3]
          rw [if_neg y3] at H
          exact nx (n + 1) h4 f04 s4 c4 H
theorem S126 {S : GS} {d : Nat} {v1 v2 v3 : Int32} {h : ajH} {Q : Option Value → ajH → Prop} (hs : ajShp h) (c : CI S h) (vd : GVd S)
    (H : ∀ h', FR h h' P62 → CI S h' → Q (some (.int (aRest S v1 v2 v3))) h') : ajEv (d + 3) 126 0 [.ref 1, .int v1, .int v2, .int v3, ajU, ajU, ajU] [] h Q := by
  have z8 := vd.z8
  have H0 := H h (FR_refl _ _) c
  refine W126_0 hs ?_
  refine S124 hs c vd ?_
  intro s1
  refine ⟨_, rfl, ?_⟩
  cases e1 : twoB S v1 v2 with
  | false =>
    rw [if_pos (show flg false = 0 from rfl)]
    exact rs_n H0 (by rw [e1]; rfl)
  | true =>
    rw [if_neg (by decide)]
    by_cases y : -1 ≤ v3
    · rw [if_pos y]
      obtain ⟨a, b, ha, hb', rfl, rfl, hab, ea, eb⟩ := twoB_k z8 e1
      unfold aRest at H
      rw [e1, decide_eq_true y, if_pos (by decide), sr_N (by omega), sr_N (by omega)] at H
      refine W126_22 s1 ?_
      rw [if_neg (by decide)]
      exact S126_31 vd ha hb' 3 0 0 h Q (by omega) s1 c H
    · rw [if_neg y]
      exact rs_n H0 (by rw [decide_eq_false y, Bool.and_false])
theorem S237_nx {d a b t n : Nat} {i : Int32} {h : ajH} {Q : Option Value → ajH → Prop} {u7 : Value} (hs : ajShp h) (ht : t < 4) (H1 : t < 3 → ∀ u7, ajEv (d + 5) 237 36 [.ref 320, .int (nI a), .int (nI b), .int i, .int (nI n), .int (nI ((t + 1) / 2)), .int (nI ((t + 1) % 2)), u7] [] h Q) (H2 : t = 3 → Q (some (.int (if i = -1 then nI n else -1))) h) :
    ajEv (d + 5) 237 36 [.ref 320, .int (nI a), .int (nI b), .int i, .int (nI n), .int (nI (t / 2)), .int (nI (t % 2 + 1)), u7] [] h Q := by
  have : t = 0 ∨ t = 1 ∨ t = 2 ∨ t = 3 := by omega
  rcases this with rfl | rfl | rfl | rfl
  · exact H1 (by omega) _
  · refine W237_36 hs ?_
    rw [if_pos (by decide)]
    refine W237_27 hs ?_
    rw [if_neg (by decide)]
    exact H1 (by omega) _
  · exact H1 (by omega) _
  · have q := H2 rfl
    refine W237_36 hs ?_
    rw [if_pos (by decide)]
    refine W237_27 hs ?_
    rw [if_pos (by decide)]
    by_cases y : i = -1
    · rw [if_neg (fun z => z y)]; rw [if_pos y] at q; exact q
    · rw [if_pos y]; rw [if_neg y] at q; exact q
theorem S237_36 {S : GS} {d a b : Nat} {i : Int32} (vd : GVd S) (ha : a < gz S) (hb' : b < gz S) (hab : ¬ a = b) (ea : onB (gX S).1 a = true) (eb : onB (gX S).1 b = true) : ∀ (f t n : Nat) (h : ajH) (Q : Option Value → ajH → Prop) (u7 : Value), t + (f + 1) = 4 → ajShp h → MI S h →
    (∀ h', FR h h' P333 → MI S h' → Q (some (.int (rsF S a b i (f + 1) t n))) h') → ajEv (d + 5) 237 36 [.ref 320, .int (nI a), .int (nI b), .int i, .int (nI n), .int (nI (t / 2)), .int (nI (t % 2)), u7] [] h Q := by
  intro f
  induction f with
  | zero =>
    intro t n h Q u7 ht hs c H
    have nx : ∀ (n : Nat) (h1 : ajH) (u7 : Value), FR h h1 P333 → ajShp h1 → MI S h1 → (∀ h', FR h h' P333 → MI S h' → Q (some (.int (rsF S a b i 0 (t + 1) n))) h') → ajEv (d + 5) 237 36 [.ref 320, .int (nI a), .int (nI b), .int i, .int (nI n), .int (nI (t / 2)), .int (nI (t % 2 + 1)), u7] [] h1 Q :=
      fun n h1 u7 f1 s1 c1 H => S237_nx s1 (by omega) (fun z => by omega) (fun _ => H h1 f1 c1)
    have hp : t / 2 < 2 := by omega
    have hq : t % 2 < 2 := by omega
    have es : rsF S a b i (0 + 1) t n = if rsB S a b (t / 2) (t % 2) = true then (if nI n = i then nI (10 * (t / 2) + t % 2) else rsF S a b i 0 (t + 1) (n + 1)) else rsF S a b i 0 (t + 1) n := rfl
    rw [es] at H
    unfold rsB at H
    generalize t / 2 = p at *
    generalize t % 2 = q at *
    have m1 : (1 : Int32) - nI p = nI (1 - p) := by rw [sl_1, sr_sub (by omega)]
    have m2 : (1 : Int32) - nI q = nI (1 - q) := by rw [sl_1, sr_sub (by omega)]
    refine W237_36 hs ?_
    rw [if_neg (by rw [sl_2, sr_le (by omega) (by omega)]; omega), m1, m2]
    refine S236 (w := 0) hs c vd ha hb' hab ea eb (by omega) hq (by omega) ?_
    intro h1 f1 c1 s1
    refine ⟨_, rfl, ?_⟩
    refine S236 (w := 0) s1 c1 vd ha hb' hab ea eb hp hq (by omega) ?_
    intro h2 f2 c2 s2
    refine ⟨_, rfl, ?_⟩
    have f02 := FR_trans f1 f2
    show (if gmH S a b p q < gmH S a b (1 - p) q then _ else _)
    by_cases y1 : gmH S a b p q < gmH S a b (1 - p) q
    · rw [if_pos y1]
      rw [decide_eq_true y1, if_neg (by simp)] at H
      refine W237_101 s2 ?_
      rw [if_neg (fun z => z rfl), nI_1]
      exact nx n h2 _ f02 s2 c2 H
    · rw [if_neg y1]
      rw [decide_eq_false y1] at H
      refine S236 (w := 1) s2 c2 vd ha hb' hab ea eb hp (by omega) (by omega) ?_
      intro h3 f3 c3 s3
      refine ⟨_, rfl, ?_⟩
      refine S236 (w := 1) s3 c3 vd ha hb' hab ea eb hp hq (by omega) ?_
      intro h4 f4 c4 s4
      refine ⟨_, rfl, ?_⟩
      have f04 := FR_trans f02 (FR_trans f3 f4)
      show (if gmH S b a q p < gmH S b a (1 - q) p then _ else _)
      by_cases y2 : gmH S b a q p < gmH S b a (1 - q) p
      · rw [if_pos y2]
        rw [decide_eq_true y2, if_neg (by simp)] at H
        refine W237_101 s4 ?_
        rw [if_neg (fun z => z rfl), nI_1]
        exact nx n h4 _ f04 s4 c4 H
      · rw [if_neg y2]
        rw [decide_eq_false y2, if_pos (by simp)] at H
        refine W237_101 s4 ?_
        rw [if_pos (by decide), nI_1, nI_1, sl_10, sr_mul, sr_add]
        by_cases y3 : nI n = i
        · rw [if_neg (fun z => z y3)]
          rw [if_pos y3] at H
          exact H h4 f04 c4
        · rw [if_pos y3]
          rw [if_neg y3] at H
          exact nx (n + 1) h4 _ f04 s4 c4 H
  | succ f ih =>
    intro t n h Q u7 ht hs c H
    have nx : ∀ (n : Nat) (h1 : ajH) (u7 : Value), FR h h1 P333 → ajShp h1 → MI S h1 → (∀ h', FR h h' P333 → MI S h' → Q (some (.int (rsF S a b i (f + 1) (t + 1) n))) h') → ajEv (d + 5) 237 36 [.ref 320, .int (nI a), .int (nI b), .int i, .int (nI n), .int (nI (t / 2)), .int (nI (t % 2 + 1)), u7] [] h1 Q :=
      fun n h1 u7 f1 s1 c1 H => S237_nx s1 (by omega) (fun z u7 => ih (t + 1) n h1 Q u7 (by omega) s1 c1 (fun h' g c' => H h' (FR_trans f1 g) c')) (fun z => by omega)
    have hp : t / 2 < 2 := by omega
    have hq : t % 2 < 2 := by omega
    have es : rsF S a b i (f + 1 + 1) t n = if rsB S a b (t / 2) (t % 2) = true then (if nI n = i then nI (10 * (t / 2) + t % 2) else rsF S a b i (f + 1) (t + 1) (n + 1)) else rsF S a b i (f + 1) (t + 1) n := rfl
    rw [es] at H
    unfold rsB at H
    generalize t / 2 = p at *
    generalize t % 2 = q at *
    have m1 : (1 : Int32) - nI p = nI (1 - p) := by rw [sl_1, sr_sub (by omega)]
    have m2 : (1 : Int32) - nI q = nI (1 - q) := by rw [sl_1, sr_sub (by omega)]
    refine W237_36 hs ?_
    rw [if_neg (by rw [sl_2, sr_le (by omega) (by omega)]; omega), m1, m2]
    refine S236 (w := 0) hs c vd ha hb' hab ea eb (by omega) hq (by omega) ?_
    intro h1 f1 c1 s1
    refine ⟨_, rfl, ?_⟩
    refine S236 (w := 0) s1 c1 vd ha hb' hab ea eb hp hq (by omega) ?_
    intro h2 f2 c2 s2
    refine ⟨_, rfl, ?_⟩
    have f02 := FR_trans f1 f2
    show (if gmH S a b p q < gmH S a b (1 - p) q then _ else _)
    by_cases y1 : gmH S a b p q < gmH S a b (1 - p) q
    · rw [if_pos y1]
      rw [decide_eq_true y1, if_neg (by simp)] at H
      refine W237_101 s2 ?_
      rw [if_neg (fun z => z rfl), nI_1]
      exact nx n h2 _ f02 s2 c2 H
    · rw [if_neg y1]
      rw [decide_eq_false y1] at H
      refine S236 (w := 1) s2 c2 vd ha hb' hab ea eb hp (by omega) (by omega) ?_
      intro h3 f3 c3 s3
      refine ⟨_, rfl, ?_⟩
      refine S236 (w := 1) s3 c3 vd ha hb' hab ea eb hp hq (by omega) ?_
      intro h4 f4 c4 s4
      refine ⟨_, rfl, ?_⟩
      have f04 := FR_trans f02 (FR_trans f3 f4)
      show (if gmH S b a q p < gmH S b a (1 - q) p then _ else _)
      by_cases y2 : gmH S b a q p < gmH S b a (1 - q) p
      · rw [if_pos y2]
        rw [decide_eq_true y2, if_neg (by simp)] at H
        refine W237_101 s4 ?_
        rw [if_neg (fun z => z rfl), nI_1]
        exact nx n h4 _ f04 s4 c4 H
      · rw [if_neg y2]
        rw [decide_eq_false y2, if_pos (by simp)] at H
        refine W237_101 s4 ?_
        rw [if_pos (by decide), nI_1, nI_1, sl_10, sr_mul, sr_add]
        by_cases y3 : nI n = i
        · rw [if_neg (fun z => z y3)]
          rw [if_pos y3] at H
          exact H h4 f04 c4
        · rw [if_pos y3]
          rw [if_neg y3] at H
          exact nx (n + 1) h4 _ f04 s4 c4 H
theorem S237 {S : GS} {d : Nat} {v1 v2 v3 : Int32} {h : ajH} {Q : Option Value → ajH → Prop} (hs : ajShp h) (c : MI S h) (vd : GVd S)
    (H : ∀ h', FR h h' P333t → MI S h' → Q (some (.int (aRest S v1 v2 v3))) h') : ajEv (d + 5) 237 0 [.ref 320, .int v1, .int v2, .int v3, ajU, ajU, ajU, ajU] [] h Q := by
  have z8 := vd.z8
  refine W237_0 hs ?_
  rintro _ rfl
  have c0 := MI_0 (x := 0) c
  have f0 : FR h (ajSI h 320 0 0) P333t := FR_SI h (by unfold P333t; omega)
  have s0 : ajShp (ajSI h 320 0 0) := hs
  generalize ajSI h 320 0 0 = h0 at c0 f0 s0
  have H0 := H h0 f0 c0
  refine S235 s0 c0 vd ?_
  intro s1
  refine ⟨_, rfl, ?_⟩
  cases e1 : twoB S v1 v2 with
  | false =>
    rw [if_pos (show flg false = 0 from rfl)]
    exact rs_n H0 (by rw [e1]; rfl)
  | true =>
    rw [if_neg (by decide)]
    by_cases y : -1 ≤ v3
    · rw [if_pos y]
      obtain ⟨a, b, ha, hb', rfl, rfl, hab, ea, eb⟩ := twoB_k z8 e1
      unfold aRest at H
      rw [e1, decide_eq_true y, if_pos (by decide), sr_N (by omega), sr_N (by omega)] at H
      refine W237_27 s1 ?_
      rw [if_neg (by decide)]
      exact S237_36 vd ha hb' hab ea eb 3 0 0 h0 Q _ (by omega) s1 c0 (fun h' g c' => H h' (FR_trans f0 (FR_mono g (fun o j z => Or.inl z))) c')
    · rw [if_neg y]
      exact rs_n H0 (by rw [decide_eq_false y, Bool.and_false])
