/-! The class does an act. -/
theorem XV_take {E : EV} {o : Nat} {v : Int32} {X : XT} (g : EVg E) (eo : EVok E) (n8 : eN E ≤ 8) (xv : XV (eN E) X) (ho : o < 4) (ca : caB (eN E) X.1 o v = true) : XV (eN E) (xTake E o v X) := by
  have tt : ∀ R : Nat → Int32, R 21 = nI (tN R) → tN R < 1000 → ¬ (999 : Int32) ≤ R 21 → tN R < 999 := fun R e l y => by
    rw [e, sl_999, sr_le (by omega) (by omega)] at y; omega
  have t1 := xv.1.2.2.2.1
  have ho : o = 0 ∨ o = 1 ∨ o = 2 ∨ o = 3 := by omega
  rcases ho with rfl | rfl | rfl | rfl
  · have y : ¬ (999 : Int32) ≤ X.1 21 := fun z => by unfold caB at ca; rw [decide_eq_true z] at ca; cases ca
    exact XV_turn g eo n8 xv (tt _ t1.1 t1.2 y)
  · have y : ¬ (999 : Int32) ≤ X.1 21 := fun z => by unfold caB at ca; rw [decide_eq_true z] at ca; cases ca
    have e : tN (upR X.1 20 (X.1 20 - 1)) = tN X.1 := by unfold tN; rw [upR_n _ _ (by omega)]
    refine XV_turn g eo n8 (XV_20 _ xv n8) ?_
    show tN (upR X.1 20 (X.1 20 - 1)) < 999
    rw [e]
    exact tt _ t1.1 t1.2 y
  · have e : isp (eN E) v = true := by
      unfold caB at ca
      cases y : isp (eN E) v with
      | true => rfl
      | false => rw [y] at ca; cases ca
    obtain ⟨k, hk, rfl⟩ := isp_k n8 e
    unfold caB at ca
    rw [e, sr_N (by omega)] at ca
    have nb : ¬ X.1 (2 * k + 1) = 2 := fun z => by
      have : brB X.1 k = true := decide_eq_true z
      rw [this] at ca; cases ca
    have x1 := XV_20 (X.1 20 - 2) xv n8
    have hx : (1 : Int32) - X.1 (2 * k + 1) = 0 ∨ (1 : Int32) - X.1 (2 * k + 1) = 1 ∨ (1 : Int32) - X.1 (2 * k + 1) = 2 := by
      rcases xv.1.2.2.2.2.2 k hk with z | z | z
      · rw [z]; exact Or.inr (Or.inl rfl)
      · rw [z]; exact Or.inl rfl
      · exact absurd z nb
    show XV (eN E) (upR (upR X.1 20 (X.1 20 - 2)) (2 * (nI k).toNatClampNeg + 1) (1 - X.1 (2 * (nI k).toNatClampNeg + 1)), X.2)
    rw [sr_N (by omega)]
    refine ⟨RV_how x1.1 n8 hk hx, ?_, xv.2.2⟩
    have e21 : tN (upR (upR X.1 20 (X.1 20 - 2)) (2 * k + 1) (1 - X.1 (2 * k + 1))) = tN X.1 := by unfold tN; rw [upR_n _ _ (by omega), upR_n _ _ (by omega)]
    show X.2.1 ≤ tN _
    rw [e21]; exact xv.2.1
  · have e : isp (eN E) v = true := by
      unfold caB at ca
      cases y : isp (eN E) v with
      | true => rfl
      | false => rw [y] at ca; cases ca
    obtain ⟨k, hk, rfl⟩ := isp_k n8 e
    have x1 := XV_20 (X.1 20 - 4) xv n8
    show XV (eN E) (upR (upR X.1 20 (X.1 20 - 4)) (2 * (nI k).toNatClampNeg + 1) 0, X.2)
    rw [sr_N (by omega)]
    refine ⟨RV_how x1.1 n8 hk (Or.inl rfl), ?_, xv.2.2⟩
    have e21 : tN (upR (upR X.1 20 (X.1 20 - 4)) (2 * k + 1) 0) = tN X.1 := by unfold tN; rw [upR_n _ _ (by omega), upR_n _ _ (by omega)]
    show X.2.1 ≤ tN _
    rw [e21]; exact xv.2.1
def PTk (q o j : Nat) : Prop := PCp q o j ∨ o = q ∨ o = q + 2
theorem b3_PTk {q : Nat} (hq : 54 ≤ q) : ∀ o j, PTk q o j → ¬ b3 o j := by
  intro o j z
  unfold PTk PCp PLw at z
  unfold b3 PLw
  omega
theorem S63 {S : GS} {d q o : Nat} {v : Int32} {X : XT} {h : ajH} {Q : Option Value → ajH → Prop} (ho : o < 4) (hq : sQ q) (hs : ajShp h) (k2 : c2 S h) (k3 : c3 S h) (vd : GVd S) (hz : 0 < gz S) (xv : XV (gz S) X) (cx : cX h q (gz S) X) (ca : caB (gz S) X.1 o v = true)
    (H : ∀ h', FR h h' (PTk q) → cX h' q (gz S) (xTake (gE S) o v X) → (o < 2 → ajI h' q 14 = xTkD (gE S) o X) → Q none h') : ajEv (d + 5) 63 0 [.ref 1, .ref q, .int (nI o), .int v] [] h Q := by
  have z8 := vd.z8
  have hq2 := hq.2
  have ce := CI_CE k2 vd hz
  have ho : o = 0 ∨ o = 1 ∨ o = 2 ∨ o = 3 := by omega
  refine W63_0 hs hq.1 ?_
  rcases ho with rfl | rfl | rfl | rfl
  · rw [if_pos (by decide)]
    refine W63_28 hs hq.1 ?_
    refine S64 hs k3 vd ?_
    intro s1
    refine ⟨_, rfl, ?_⟩
    exact S65n (s := false) (E := gE S) (d := d) hq wQ_4 xv (gE_ok vd) (gE_g vd) s1 ce (CI_CL k3 vd) cx (fun h' f cx' e14 _ => H h' f cx' (fun _ => e14))
  · rw [if_neg (by decide), if_pos (by decide)]
    refine W63_48 hs hq.1 ?_
    rintro _ rfl
    rw [cx.1.1.2.2.2.2.1]
    have f1 : FR h (ajSI h q 4 (X.1 20 - 1)) (fun o j => o = q ∧ j = 4) := FR_SI h ⟨rfl, rfl⟩
    have k3' : c3 S (ajSI h q 4 (X.1 20 - 1)) := c3_FR k3 f1 (fun o j z => by unfold b3; omega)
    have cx1 : cX (ajSI h q 4 (X.1 20 - 1)) q (gz S) (upR X.1 20 (X.1 20 - 1), X.2) := ⟨CS_20 z8 cx.1 f1 (by rw [ajI_SI, if_pos ⟨rfl, rfl⟩]), (FR_I f1 (by omega)).trans cx.2.1, fun e h1 h2 => (FR_I f1 (by omega)).trans (cx.2.2 e h1 h2)⟩
    refine S64 hs k3' vd ?_
    intro s1
    refine ⟨_, rfl, ?_⟩
    exact S65n (s := true) (E := gE S) (d := d) hq wQ_4 (XV_20 _ xv z8) (gE_ok vd) (gE_g vd) s1 (CE_FR ce f1 (by omega) (fun j => by omega)) (CI_CL k3' vd) cx1 (fun h' f cx' e14 _ => H h' (FR_trans (FR_mono f1 (fun o j z => by unfold PTk; omega)) f) cx' (fun _ => e14))
  · rw [if_neg (by decide), if_neg (by decide), if_pos (by decide)]
    have e : isp (gz S) v = true := by
      unfold caB at ca
      cases y : isp (gz S) v with
      | true => rfl
      | false => rw [y] at ca; cases ca
    obtain ⟨k, hk, rfl⟩ := isp_k z8 e
    unfold caB at ca
    rw [e, sr_N (by omega)] at ca
    have nb : ¬ X.1 (2 * k + 1) = 2 := fun z => by
      have : brB X.1 k = true := decide_eq_true z
      rw [this] at ca; cases ca
    have e31 : ∀ x : Int32, x <<< (nI k &&& 31) = x <<< (nI k &&& 31) := fun _ => rfl
    refine W63_78 hs hq.1 ?_
    rintro _ rfl _ rfl
    rw [cx.1.1.2.2.2.2.1]
    have f1 : FR h (ajSI h q 4 (X.1 20 - 2)) (fun o j => o = q ∧ j = 4) := FR_SI h ⟨rfl, rfl⟩
    have cs1 : CS (ajSI h q 4 (X.1 20 - 2)) q (gz S) (upR X.1 20 (X.1 20 - 2)) := CS_20 z8 cx.1 f1 (by rw [ajI_SI, if_pos ⟨rfl, rfl⟩])
    generalize ajSI h q 4 (X.1 20 - 2) = h1 at f1 cs1
    rw [cs1.1.1, bt_def]
    have f2 : FR h1 (ajSI h1 q 0 (mk (onB (upR X.1 20 (X.1 20 - 2))) (gz S) ^^^ bt k)) (fun o j => o = q ∧ j < 2) := FR_SI h1 ⟨rfl, by omega⟩
    have f12 : FR h (ajSI h1 q 0 (mk (onB (upR X.1 20 (X.1 20 - 2))) (gz S) ^^^ bt k)) (PTk q) := FR_trans (FR_mono f1 (fun o j z => by unfold PTk; omega)) (FR_mono f2 (fun o j z => by unfold PTk; omega))
    refine H _ f12 ⟨?_, (FR_I f2 (by omega)).trans ((FR_I f1 (by omega)).trans cx.2.1), fun e h1 h2 => (FR_I f2 (by omega)).trans ((FR_I f1 (by omega)).trans (cx.2.2 e h1 h2))⟩ (fun z => by omega)
    show CS _ q (gz S) (upR (upR X.1 20 (X.1 20 - 2)) (2 * (nI k).toNatClampNeg + 1) (1 - X.1 (2 * (nI k).toNatClampNeg + 1)))
    rw [sr_N (by omega)]
    refine CS_how z8 hk cs1 f2 ?_ ?_
    · rw [ajI_SI, if_pos ⟨rfl, rfl⟩, mk_flip _ (by omega) hk]
      refine mk_congr _ (fun i hi => ?_)
      unfold onB
      by_cases y : i = k
      · subst y
        rw [upR_s, upR_n _ _ (by omega)]
        rcases xv.1.2.2.2.2.2 i hk with z | z | z
        · rw [z, decide_eq_true (rfl : i = i)]; decide
        · rw [z, decide_eq_true (rfl : i = i)]; decide
        · exact absurd z nb
      · rw [upR_n _ _ (by omega : ¬ 2 * i + 1 = 2 * k + 1), decide_eq_false y, Bool.xor_false]
    · rw [FR_I (FR_SI h1 (P := fun o j => o = q ∧ j = 0) ⟨rfl, rfl⟩) (by omega), cs1.1.2.1]
      refine mk_congr _ (fun i hi => ?_)
      unfold brB
      by_cases y : i = k
      · subst y
        rw [upR_s, upR_n _ _ (by omega)]
        rcases xv.1.2.2.2.2.2 i hk with z | z | z
        · rw [z]; decide
        · rw [z]; decide
        · exact absurd z nb
      · rw [upR_n (upR X.1 20 (X.1 20 - 2)) _ (by omega : ¬ 2 * i + 1 = 2 * k + 1)]
  · rw [if_neg (by decide), if_neg (by decide), if_neg (by decide)]
    have e : isp (gz S) v = true := by
      unfold caB at ca
      cases y : isp (gz S) v with
      | true => rfl
      | false => rw [y] at ca; cases ca
    obtain ⟨k, hk, rfl⟩ := isp_k z8 e
    refine W63_103 hs hq.1 ?_
    rintro _ rfl
    rw [cx.1.1.2.2.2.2.1]
    have f1 : FR h (ajSI h q 4 (X.1 20 - 4)) (fun o j => o = q ∧ j = 4) := FR_SI h ⟨rfl, rfl⟩
    have cs1 : CS (ajSI h q 4 (X.1 20 - 4)) q (gz S) (upR X.1 20 (X.1 20 - 4)) := CS_20 z8 cx.1 f1 (by rw [ajI_SI, if_pos ⟨rfl, rfl⟩])
    have s1 : ajShp (ajSI h q 4 (X.1 20 - 4)) := hs
    generalize ajSI h q 4 (X.1 20 - 4) = h1 at f1 cs1 s1
    refine W82_0 s1 hq.1 ?_
    rintro _ rfl _ rfl
    intro s2
    refine ⟨rfl, ?_⟩
    rw [ajI_SI, if_neg (by omega), cs1.1.1, cs1.1.2.1, bt_def]
    have f2 : FR h1 (ajSI (ajSI h1 q 1 (mk (brB (upR X.1 20 (X.1 20 - 4))) (gz S) &&& (bt k ^^^ -1))) q 0 (mk (onB (upR X.1 20 (X.1 20 - 4))) (gz S) ||| bt k)) (fun o j => o = q ∧ j < 2) := FR_trans (FR_SI h1 ⟨rfl, by omega⟩) (FR_SI _ ⟨rfl, by omega⟩)
    refine H _ (FR_trans (FR_mono f1 (fun o j z => by unfold PTk; omega)) (FR_mono f2 (fun o j z => by unfold PTk; omega))) ⟨?_, (FR_I f2 (by omega)).trans ((FR_I f1 (by omega)).trans cx.2.1), fun e h1 h2 => (FR_I f2 (by omega)).trans ((FR_I f1 (by omega)).trans (cx.2.2 e h1 h2))⟩ (fun z => by omega)
    show CS _ q (gz S) (upR (upR X.1 20 (X.1 20 - 4)) (2 * (nI k).toNatClampNeg + 1) 0)
    rw [sr_N (by omega)]
    refine CS_how z8 hk cs1 f2 ?_ ?_
    · rw [ajI_SI, if_pos ⟨rfl, rfl⟩, mk_set _ (by omega) hk]
      refine mk_congr _ (fun i hi => ?_)
      unfold onB
      by_cases y : i = k
      · subst y
        rw [upR_s, decide_eq_true (rfl : i = i), Bool.or_true]; rfl
      · rw [upR_n (upR X.1 20 (X.1 20 - 4)) _ (by omega : ¬ 2 * i + 1 = 2 * k + 1), decide_eq_false y, Bool.or_false]
    · rw [ajI_SI, if_neg (by omega), ajI_SI, if_pos ⟨rfl, rfl⟩, mk_off _ (by omega) (by omega)]
      refine mk_congr _ (fun i hi => ?_)
      unfold brB
      by_cases y : i = k
      · subst y
        rw [upR_s, decide_eq_true (rfl : i = i)]
        simp
      · rw [upR_n (upR X.1 20 (X.1 20 - 4)) _ (by omega : ¬ 2 * i + 1 = 2 * k + 1), decide_eq_false y]
        simp
