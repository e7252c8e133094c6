/-! What is read keeps its bounds; the row that a wheel begins with; the class takes a text. -/
theorem tNr_bd {B : Nat → Nat} {L k lo hi a : Nat} : (tNr B L k lo hi a).1 = true → lo ≤ (tNr B L k lo hi a).2.2 ∧ (tNr B L k lo hi a).2.2 ≤ hi := by
  unfold tNr
  split
  · split
    · exact fun z => by cases z
    · split
      · exact fun z => by cases z
      · rename_i hn
        intro _
        exact ⟨by show lo ≤ (tNum B L k (tSk B L a) 0).2; omega, by show (tNum B L k (tSk B L a) 0).2 ≤ hi; omega⟩
  · exact fun z => by cases z
theorem pIt_bd {B : Nat → Nat} {L : Nat} {s : List Nat} {lo hi : Nat → Nat} : ∀ F M R a, (∀ j, lo j ≤ R j ∧ R j ≤ hi j) → ∀ j, lo j ≤ (pIt B L s lo hi F M R a).2.2 j ∧ (pIt B L s lo hi F M R a).2.2 j ≤ hi j := by
  intro F
  induction F with
  | zero => intro M R a h; exact h
  | succ F ih =>
    intro M R a h
    unfold pIt
    split
    · exact h
    · split
      · exact h
      · split
        · rename_i hok
          have q := tNr_bd hok
          refine ih _ _ _ ?_
          intro j
          by_cases e : j = (ixG (tCh B L (tSk B L a)) s 0).toNatClampNeg
          · simp only [if_pos e]
            rw [e]
            exact q
          · simp only [if_neg e]
            exact h j
        · exact h
theorem kUs_bd (b : Bool) (j : Nat) : kLo b j ≤ kUs b j ∧ kUs b j ≤ kHi b j := by
  cases b
  · show 0 ≤ (if j = 0 then 24 else if j = 1 then 3 else if j = 2 then 20 else 0) ∧ (if j = 0 then 24 else if j = 1 then 3 else if j = 2 then 20 else 0) ≤ (if j = 0 then 99 else if j = 1 then 9 else if j = 2 then 99 else 1)
    repeat' split
    all_goals omega
  · show (if j = 0 then 1 else 0) ≤ (if j = 0 then 30 else if j = 1 then 5 else 2) ∧ (if j = 0 then 30 else if j = 1 then 5 else 2) ≤ (if j = 0 then 99 else 9)
    repeat' split
    all_goals omega
theorem rIt_bd {B : Nat → Nat} {L a : Nat} {b : Bool} : ∀ j, kLo b j ≤ (rIt B L b a).2.2 j ∧ (rIt B L b a).2.2 j ≤ kHi b j := pIt_bd _ _ _ _ (kUs_bd b)
/-- a wheel's bounds -/
def wBd (r : WR) : Prop := (∀ k, k < r.2.2.1 → ∀ j, kLo true j ≤ r.2.2.2.2 k j ∧ r.2.2.2.2 k j ≤ kHi true j) ∧ (∀ j, kLo false j ≤ r.2.2.2.1 j ∧ r.2.2.2.1 j ≤ kHi false j) ∧ r.2.2.1 ≤ 8 ∧ (r.1 = true → 3 ≤ r.2.2.1)
theorem wEnd_bd {B : Nat → Nat} {L : Nat} {g : Nat → WR} {r : Bool × Nat × (Nat → Nat)} {z : Nat} {RU : Nat → Nat} {FO : Nat → Nat → Nat} (hg : ∀ a, wBd (g a)) (b : ∀ k, k < z → ∀ j, kLo true j ≤ FO k j ∧ FO k j ≤ kHi true j) (b2 : ∀ j, kLo false j ≤ RU j ∧ RU j ≤ kHi false j) (z8 : z ≤ 8) : wBd (wEnd B L g r z RU FO) := by
  unfold wEnd
  split
  · split
    · exact hg _
    · split
      · rename_i h3
        exact ⟨b, b2, z8, fun _ => h3⟩
      · exact ⟨b, b2, z8, fun y => by cases y⟩
  · exact ⟨b, b2, z8, fun y => by cases y⟩
theorem pWh_bd {B : Nat → Nat} {L : Nat} : ∀ F fl z RU FO a, (∀ k, k < z → ∀ j, kLo true j ≤ FO k j ∧ FO k j ≤ kHi true j) → (∀ j, kLo false j ≤ RU j ∧ RU j ≤ kHi false j) → z ≤ 8 → wBd (pWh B L F fl z RU FO a) := by
  intro F
  induction F with
  | zero => intro fl z RU FO a b b2 z8; exact ⟨b, b2, z8, fun y => by cases y⟩
  | succ F ih =>
    intro fl z RU FO a b b2 z8
    unfold pWh
    split
    · exact wEnd_bd (fun a' => ih _ _ _ _ _ b rIt_bd z8) b rIt_bd z8
    · split
      · rename_i h2
        have b' : ∀ k, k < z + 1 → ∀ j, kLo true j ≤ (if k = z then (rIt B L true (tSk B L a + 1)).2.2 else FO k) j ∧ (if k = z then (rIt B L true (tSk B L a + 1)).2.2 else FO k) j ≤ kHi true j := by
          intro k hk j
          by_cases e : k = z
          · simp only [if_pos e]
            exact rIt_bd j
          · simp only [if_neg e]
            exact b k (by omega) j
        exact wEnd_bd (fun a' => ih _ _ _ _ _ b' b2 (by omega)) b' b2 (by omega)
      · exact ⟨b, b2, z8, fun y => by cases y⟩
theorem rWh_bd (B : Nat → Nat) (L : Nat) : wBd (rWh B L) := pWh_bd _ _ _ _ _ _ (fun k hk => absurd hk (Nat.not_lt_zero _)) (kUs_bd false) (by omega)
theorem wEnd_at {B : Nat → Nat} {L : Nat} {g : Nat → WR} {r : Bool × Nat × (Nat → Nat)} {z : Nat} {RU : Nat → Nat} {FO : Nat → Nat → Nat} (hg : ∀ a, a ≤ L → (g a).2.1 ≤ L) (hr : r.2.1 ≤ L) : (wEnd B L g r z RU FO).2.1 ≤ L := by
  unfold wEnd
  split
  · split
    · rename_i h
      have := tCh_lt h (by decide)
      exact hg _ (by omega)
    · split <;> exact hr
  · exact hr
theorem pWh_at {B : Nat → Nat} {L : Nat} : ∀ F fl z RU FO a, a ≤ L → (pWh B L F fl z RU FO a).2.1 ≤ L := by
  intro F
  induction F with
  | zero => intro fl z RU FO a ha; exact ha
  | succ F ih =>
    intro fl z RU FO a ha
    have h7 := tSk_le B ha
    unfold pWh
    split
    · rename_i h
      have hlt := tCh_lt h.1 (by decide)
      exact wEnd_at (fun a' h' => ih _ _ _ _ _ h') (rIt_gd (b := false) (by omega)).1
    · split
      · rename_i h
        have hlt := tCh_lt h.1 (by decide)
        exact wEnd_at (fun a' h' => ih _ _ _ _ _ h') (rIt_gd (b := true) (by omega)).1
      · exact h7
theorem jSt_4 (B : Nat → Nat) (L a : Nat) : (jSt B L a).2.2.1 < 4 := by
  unfold jSt
  split
  · show 0 < 4; omega
  · split
    · rename_i h
      show (ixG (tCh B L (tSk B L a)) (ajStr 1013) 0).toNatClampNeg < 4
      omega
    · rename_i h _
      rcases ixG_in (tCh B L (tSk B L a)) (ajStr 1013) 0 with e | ⟨j, _, h2, e⟩
      · exact absurd e h
      · show (ixG (tCh B L (tSk B L a)) (ajStr 1013) 0).toNatClampNeg < 4
        have h4 : (ajStr 1013).length = 4 := rfl
        rw [e, sr_N (by omega)]
        omega
theorem pJ_bd {B : Nat → Nat} {L : Nat} : ∀ F n K D a, n + F ≤ 16 → (∀ k, k < n → K k < 4) → (pJ B L F n K D a).2.2.1 ≤ 16 ∧ ∀ k, k < (pJ B L F n K D a).2.2.1 → (pJ B L F n K D a).2.2.2.1 k < 4 := by
  intro F
  induction F with
  | zero => intro n K D a h hK; exact ⟨by show n ≤ 16; omega, hK⟩
  | succ F ih =>
    intro n K D a h hK
    have h4 := jSt_4 B L a
    have hK' : ∀ k, k < n + 1 → (if k = n then (jSt B L a).2.2.1 else K k) < 4 := by
      intro k hk
      by_cases e : k = n
      · rw [if_pos e]; exact h4
      · rw [if_neg e]; exact hK k (by omega)
    unfold pJ
    split
    · split
      · split
        · exact ⟨by show n ≤ 16; omega, hK⟩
        · exact ih _ _ _ _ (by omega) hK'
      · split
        · exact ⟨by show n + 1 ≤ 16; omega, hK'⟩
        · exact ⟨by show n ≤ 16; omega, hK⟩
    · exact ⟨by show n ≤ 16; omega, hK⟩
theorem rJ_bd (B : Nat → Nat) (L : Nat) : (rJ B L).2.2.1 ≤ 16 ∧ ∀ k, k < (rJ B L).2.2.1 → (rJ B L).2.2.2.1 k < 4 := pJ_bd _ _ _ _ _ (by omega) (fun k hk => absurd hk (Nat.not_lt_zero _))
theorem pJ_at {B : Nat → Nat} {L : Nat} : ∀ F n K D a, a ≤ L → (pJ B L F n K D a).2.1 ≤ L := by
  intro F
  induction F with
  | zero => intro n K D a ha; exact ha
  | succ F ih =>
    intro n K D a ha
    have hg := jSt_gd (B := B) ha
    have h7 := tSk_le B hg.1
    unfold pJ
    split
    · split
      · rename_i h
        have hlt := tCh_lt h (by decide)
        split
        · exact h7
        · exact ih _ _ _ _ (by omega)
      · split <;> exact h7
    · exact hg.1
theorem pLaw_len {B : Nat → Nat} {L : Nat} : ∀ F a N, a ≤ L → pAt (pLaw B L F a N) ≤ L ∧ (pCo (pLaw B L F a N)).length + a ≤ L := by
  intro F
  induction F with
  | zero => intro a N ha; exact ⟨ha, by show 0 + a ≤ L; omega⟩
  | succ F ih =>
    intro a N ha
    have hg := pCla_gd (B := B) ha
    unfold pLaw
    generalize pCla B L a = k at hg ⊢
    have h7 := tSk_le B hg.1
    have h6 := tSk_ge B L k.2.1
    split
    · rename_i hk
      have g := hg.2 hk
      split
      · rename_i h
        have hlt := tCh_lt h (by decide)
        have hi := ih (tSk B L k.2.1 + 1) (N + cLen k) (by omega)
        refine ⟨hi.1, ?_⟩
        show (cCo k N ++ pCo (pLaw B L F (tSk B L k.2.1 + 1) (N + cLen k))).length + a ≤ L
        rw [List.length_append, cLen_eq]
        omega
      · split
        · refine ⟨h7, ?_⟩
          show (cCo k N).length + a ≤ L
          rw [cLen_eq]
          omega
        · exact ⟨h7, by show 0 + a ≤ L; omega⟩
    · exact ⟨hg.1, by show 0 + a ≤ L; omega⟩
theorem txAt_le {T : TP} {o : Nat} : txAt T o ≤ T.2 := by
  unfold txAt
  split
  · exact pWh_at _ _ _ _ _ _ (Nat.zero_le _)
  · split
    · exact (pLaw_len _ _ _ (Nat.zero_le _)).1
    · exact pJ_at _ _ _ _ _ (Nat.zero_le _)
/-- the state that a wheel begins with -/
def iniX (z : Nat) (RU : Nat → Nat) (FO : Nat → Nat → Nat) : XT := (rTold z RU FO, 0, fun _ _ => 0)
theorem XV_ini {z : Nat} {RU : Nat → Nat} {FO : Nat → Nat → Nat} (h0 : 0 < z) (z8 : z ≤ 8) (hf : ∀ k, k < z → FO k 1 < 10) (h1 : RU 1 < 10) (h3 : RU 3 < 2) : XV z (iniX z RU FO) := ⟨RV_told z8 h0 h1 h3 hf, Nat.zero_le _, fun e he => absurd he (Nat.not_lt_zero _)⟩
/-- a wheel told, a law told, a journey told; the tape emptied -/
def sT0 (S : GS) : GS := ((S.1.1, 0), S.2)
def tWh (S : GS) (z : Nat) (RU : Nat → Nat) (FO : Nat → Nat → Nat) : GS := (S.1, (z, RU, FO), S.2.2.1, S.2.2.2.1, iniX z RU FO, (0, gAX S), (false, gIX S), (0, gst S, gsb S))
def tLw (S : GS) (B : Nat → Nat) (L : Nat) : GS := (S.1, S.2.1, (gm S + 1, (fun i => if i = gm S then B else gTB S i), (fun i => if i = gm S then L else gTL S i), gh S, gs S), S.2.2.2)
def tJr (S : GS) (n : Nat) (K : Nat → Nat) (D : Nat → Int32) : GS := (S.1, S.2.1, S.2.2.1, (gmj S + 1, (fun i => if i = gmj S then n else gJn S i), (fun i => if i = gmj S then K else gJK S i), (fun i => if i = gmj S then D else gJD S i)), S.2.2.2.2)
noncomputable def txG (S : GS) (o : Nat) : GS := if txOK (gT S) o = true then (if o = 0 then sT0 (tWh S (rWh (gT S).1 (gT S).2).2.2.1 (rWh (gT S).1 (gT S).2).2.2.2.1 (rWh (gT S).1 (gT S).2).2.2.2.2) else if o = 1 then (if gm S < 4 then sT0 (tLw S (gT S).1 (gT S).2) else S) else (if gmj S < 4 then sT0 (tJr S (rJ (gT S).1 (gT S).2).2.2.1 (rJ (gT S).1 (gT S).2).2.2.2.1 (rJ (gT S).1 (gT S).2).2.2.2.2) else S)) else S
noncomputable def txA (S : GS) (o : Nat) : Int32 := if txOK (gT S) o = true then (if o = 0 then nI (rWh (gT S).1 (gT S).2).2.2.1 else if o = 1 then (if gm S < 4 then nI (gm S) else -1) else (if gmj S < 4 then nI (gmj S) else -1)) else -1
noncomputable def gText (S : GS) (v : Int32) : GS := if isp 3 v = true then txG S v.toNatClampNeg else S
noncomputable def aText (S : GS) (v : Int32) : Int32 := if isp 3 v = true then txA S v.toNatClampNeg else -1
theorem GVd_tWh {S : GS} {z : Nat} {RU : Nat → Nat} {FO : Nat → Nat → Nat} (vd : GVd S) (h0 : 0 < z) (z8 : z ≤ 8) (hf : ∀ k, k < z → FO k 1 < 10 ∧ FO k 2 < 10 ∧ FO k 0 < 100) (h1 : RU 1 < 10) (h3 : RU 3 < 2) : GVd (sT0 (tWh S z RU FO)) :=
  ⟨z8, hf, ⟨h1, h3⟩, fun e => absurd h0 (by have e : z = 0 := e; omega), vd.m4, vd.hl, vd.sl, vd.j4, vd.jn, fun _ => XV_ini h0 z8 (fun k hk => (hf k hk).1) h1 h3, Nat.zero_le _, fun e => absurd h0 (by have e : z = 0 := e; omega), fun i hi => absurd hi (Nat.not_lt_zero _), fun e => Bool.noConfusion (show false = true from e), Nat.zero_le _, fun i hi => absurd hi (Nat.not_lt_zero _), fun e => absurd h0 (by have e : z = 0 := e; omega)⟩
theorem GVd_tLw {S : GS} {B : Nat → Nat} {L : Nat} (vd : GVd S) (h4 : gm S < 4) : GVd (sT0 (tLw S B L)) :=
  ⟨vd.z8, vd.fo, vd.ru, vd.r0, h4, (by
    rcases vd.hl with e | ⟨i, hi, e⟩
    · exact Or.inl e
    · exact Or.inr ⟨i, Nat.lt_succ_of_lt hi, e⟩), vd.sl, vd.j4, vd.jn, vd.xv, vd.a4, vd.az, vd.ax, vd.ix, vd.ns, vd.st, vd.x0⟩
theorem GVd_tJr {S : GS} {n : Nat} {K : Nat → Nat} {D : Nat → Int32} (vd : GVd S) (h4 : gmj S < 4) (hn : n ≤ 16) (hK : ∀ k, k < n → K k < 4) : GVd (sT0 (tJr S n K D)) :=
  ⟨vd.z8, vd.fo, vd.ru, vd.r0, vd.m4, vd.hl, vd.sl, h4, (by
    intro i hi
    have hi : i < gmj S + 1 := hi
    show (if i = gmj S then n else gJn S i) ≤ 16 ∧ ∀ k, k < (if i = gmj S then n else gJn S i) → (if i = gmj S then K else gJK S i) k < 4
    by_cases e : i = gmj S
    · simp only [if_pos e]
      exact ⟨hn, hK⟩
    · simp only [if_neg e]
      exact vd.jn i (by omega)), vd.xv, vd.a4, vd.az, vd.ax, vd.ix, vd.ns, vd.st, vd.x0⟩
theorem rWh_ok {B : Nat → Nat} {L : Nat} (h : (rWh B L).1 = true) : 0 < (rWh B L).2.2.1 ∧ (rWh B L).2.2.1 ≤ 8 ∧ (∀ k, k < (rWh B L).2.2.1 → (rWh B L).2.2.2.2 k 1 < 10 ∧ (rWh B L).2.2.2.2 k 2 < 10 ∧ (rWh B L).2.2.2.2 k 0 < 100) ∧ (rWh B L).2.2.2.1 1 < 10 ∧ (rWh B L).2.2.2.1 3 < 2 := by
  obtain ⟨b, b2, z8, b3⟩ := rWh_bd B L
  have h3 := b3 h
  refine ⟨by omega, z8, fun k hk => ⟨?_, ?_, ?_⟩, ?_, ?_⟩
  · have := (b k hk 1).2; exact Nat.lt_succ_of_le this
  · have := (b k hk 2).2; exact Nat.lt_succ_of_le this
  · have := (b k hk 0).2; exact Nat.lt_succ_of_le this
  · have := (b2 1).2; exact Nat.lt_succ_of_le this
  · have := (b2 3).2; exact Nat.lt_succ_of_le this
theorem GVd_text {S : GS} {v : Int32} (vd : GVd S) : GVd (gText S v) := by
  unfold gText
  split
  · unfold txG
    split
    · rename_i hok
      unfold txOK at hok
      split
      · rename_i h0
        rw [if_pos h0] at hok
        have w := rWh_ok hok
        exact GVd_tWh vd w.1 w.2.1 w.2.2.1 w.2.2.2.1 w.2.2.2.2
      · split
        · split
          · rename_i h4
            exact GVd_tLw vd h4
          · exact vd
        · split
          · rename_i h4
            have b := rJ_bd (gT S).1 (gT S).2
            exact GVd_tJr vd h4 b.1 b.2
          · exact vd
    · exact vd
  · exact vd
/-! the class -/
theorem CI_t0 {S : GS} {h : ajH} (c : CI S h) : CI (sT0 S) (ajSI h 2 1 0) := by
  have f : FR h (ajSI h 2 1 0) (fun o j => o = 2 ∧ j = 1) := FR_SI h ⟨rfl, rfl⟩
  obtain ⟨⟨t, sc, sa⟩, k2, k3, k4, k5, k6, k7⟩ := c
  exact ⟨⟨⟨rfl, Nat.zero_le _, t.2.2.1, fun k hk => absurd hk (Nat.not_lt_zero _)⟩, SC_FR sc f (fun o j ho z => by omega), SA_FR sa f (fun o j ho z => by omega)⟩, c2_FR k2 f (fun o j z => by unfold b2; omega), c3_FR k3 f (fun o j z => by unfold b3; omega), c4_FR k4 f (fun o j z => by unfold b4; omega), c5_FR k5 f (fun o j z => by unfold b5; omega), c6_FR k6 f (fun o j z => by unfold b6; omega), c7_FR k7 f (fun o j z => by unfold b7; omega)⟩
theorem S44 {d z : Nat} {RU : Nat → Nat} {FO : Nat → Nat → Nat} {h : ajH} {Q : Option Value → ajH → Prop} (hs : ajShp h) (c : CW h 10 z RU FO) (z8 : z ≤ 8)
    (H : ∀ h', FR h h' (fun o j => o = 4 ∧ j = 0 ∨ o = 5 ∨ o = 7 ∨ o = 8 ∨ o = 9) → CW h' 4 z RU FO → Q none h') : ajEv d 44 0 [.ref 4, .ref 10] [] h Q := by
  refine W44_0 hs (ajKc rfl) (ajKc rfl) ?_
  rintro _ rfl _ rfl _ rfl _ rfl _ rfl
  refine H _ (FR_trans (FR_trans (FR_trans (FR_trans (FR_SI h (by omega)) (FR_Cp _ (fun j _ _ => by omega))) (FR_Cp _ (fun j _ _ => by omega))) (FR_Cp _ (fun j _ _ => by omega))) (FR_Cp _ (fun j _ _ => by omega))) ⟨?_, fun j hj => ?_, fun k hk => ⟨?_, ?_, ?_⟩⟩
  · rw [ajI_Cp, if_neg (by omega), ajI_Cp, if_neg (by omega), ajI_Cp, if_neg (by omega), ajI_Cp, if_neg (by omega), ajI_SI, if_pos ⟨rfl, rfl⟩]
    exact c.1
  · rw [ajI_Cp, if_neg (by omega), ajI_Cp, if_neg (by omega), ajI_Cp, if_neg (by omega), ajI_Cp, if_pos ⟨rfl, by omega, by omega⟩, ajI_SI, if_neg (by omega), show 0 + (j - 0) = j by omega]
    exact c.2.1 j hj
  · rw [ajI_Cp, if_neg (by omega), ajI_Cp, if_neg (by omega), ajI_Cp, if_pos ⟨rfl, by omega, by omega⟩, ajI_Cp, if_neg (by omega), ajI_SI, if_neg (by omega), show 0 + (k - 0) = k by omega]
    exact (c.2.2 k hk).1
  · rw [ajI_Cp, if_neg (by omega), ajI_Cp, if_pos ⟨rfl, by omega, by omega⟩, ajI_Cp, if_neg (by omega), ajI_Cp, if_neg (by omega), ajI_SI, if_neg (by omega), show 0 + (k - 0) = k by omega]
    exact (c.2.2 k hk).2.1
  · rw [ajI_Cp, if_pos ⟨rfl, by omega, by omega⟩, ajI_Cp, if_neg (by omega), ajI_Cp, if_neg (by omega), ajI_Cp, if_neg (by omega), ajI_SI, if_neg (by omega), show 0 + (k - 0) = k by omega]
    exact (c.2.2 k hk).2.2
def PTwk (o j : Nat) : Prop := o = 4 ∧ j = 0 ∨ o = 5 ∨ o = 7 ∨ o = 8 ∨ o = 9 ∨ o = 54 ∧ (j < 8 ∨ j = 10) ∨ o = 55 ∨ o = 56 ∨ o = 69 ∧ j = 2 ∨ o = 271 ∧ j < 4 ∨ o = 1 ∧ j = 14
theorem S43 {S : GS} {d z : Nat} {RU : Nat → Nat} {FO : Nat → Nat → Nat} {h : ajH} {Q : Option Value → ajH → Prop} (hs : ajShp h) (c : CI S h) (cw : CW h 10 z RU FO) (z8 : z ≤ 8) (r3 : RU 3 < 2)
    (H : ∀ h', FR h h' PTwk → CI (tWh S z RU FO) h' → Q (some (.int (nI z))) h') : ajEv (d + 1) 43 0 [.ref 1] [] h Q := by
  refine W43_0 hs ?_
  refine S44 hs cw z8 ?_
  intro h1 f1 cw1 s1
  refine ⟨rfl, ?_⟩
  refine S45 (LG := fun _ _ => 0) sQ_54 z8 r3 s1 cw1 ?_
  intro h2 f2 cx2 s2
  refine ⟨rfl, ?_⟩
  refine W46_0 s2 ?_
  rintro g1 e1 s3
  refine ⟨rfl, ?_⟩
  refine W47_0 s3 ?_
  rintro g2 e2 g3 e3 g4 e4 g5 e5 s4
  refine ⟨rfl, ?_⟩
  rintro h3 e6
  have f3 : FR h2 h3 PTwk := by
    subst e6 e5 e4 e3 e2 e1
    exact FR_trans (FR_trans (FR_trans (FR_trans (FR_trans (FR_SI h2 (by unfold PTwk; omega)) (FR_SI _ (by unfold PTwk; omega))) (FR_SI _ (by unfold PTwk; omega))) (FR_SI _ (by unfold PTwk; omega))) (FR_SI _ (by unfold PTwk; omega))) (FR_SI _ (by unfold PTwk; omega))
  have f12 : FR h1 h2 PTwk := FR_mono f2 (fun o j z => by unfold PCc at z; unfold PTwk; omega)
  have f01 : FR h h1 PTwk := FR_mono f1 (fun o j z => by unfold PTwk; omega)
  have f : FR h h3 PTwk := FR_trans (FR_trans f01 f12) f3
  have f23 : FR h2 h3 (fun o j => o = 69 ∧ j = 2 ∨ o = 271 ∧ j < 4 ∨ o = 1 ∧ j = 14) := by
    subst e6 e5 e4 e3 e2 e1
    exact FR_trans (FR_trans (FR_trans (FR_trans (FR_trans (FR_SI h2 (by omega)) (FR_SI _ (by omega))) (FR_SI _ (by omega))) (FR_SI _ (by omega))) (FR_SI _ (by omega))) (FR_SI _ (by omega))
  have cw3 : CW h3 4 z RU FO := CW_FR (CW_FR cw1 f2 (by unfold PCc; omega) (fun j => ⟨by unfold PCc; omega, by unfold PCc; omega, by unfold PCc; omega, by unfold PCc; omega⟩)) f23 (by omega) (fun j => ⟨by omega, by omega, by omega, by omega⟩)
  rw [cw3.1]
  refine H h3 f ?_
  obtain ⟨k1, k2, ⟨⟨u1, u2, u3, u4, u5⟩, m4, j4, lc, cj⟩, k4, ⟨v1, v2, p, hp, v3, v4⟩, k6, k7⟩ := c
  refine ⟨c1_FR k1 f (fun o j z => by unfold PTwk at z; unfold b1; omega), cw3, ⟨⟨(FR_I f (by unfold PTwk; omega)).trans u1, (FR_I f (by unfold PTwk; omega)).trans u2, (FR_I f (by unfold PTwk; omega)).trans u3, (FR_I f (by unfold PTwk; omega)).trans u4, ?_⟩, m4, j4, LawsC_FR lc f (fun i hi => by have hi : i < gm S := hi; exact ⟨by unfold PTwk; omega, fun j => by unfold PTwk; omega⟩), fun i hi => CJ_FR' (cj i hi) f (by unfold PTwk; omega) (fun j => ⟨by unfold PTwk; omega, by unfold PTwk; omega⟩)⟩, cX_FR cx2 f23 (fun o j z => by omega), ⟨?_, Nat.zero_le _, p, hp, (FR_I f (by unfold PTwk; omega)).trans v3, fun i hi => absurd hi (Nat.not_lt_zero _)⟩, fun e => Bool.noConfusion (show false = true from e), ⟨?_, ?_, ?_, ?_⟩⟩
  · subst e6 e5 e4 e3 e2 e1; rfl
  · subst e6 e5 e4 e3 e2 e1; rfl
  · subst e6 e5 e4 e3 e2 e1; rfl
  · subst e6 e5 e4 e3 e2 e1; rfl
  · subst e6 e5 e4 e3 e2 e1; rfl
  · subst e6 e5 e4 e3 e2 e1; rfl
theorem kw18 {i : Nat} (h : i < 4) : ajKw (18 + 7 * i) 3 ∧ ajKw (22 + 7 * i) 4 := by
  have : i = 0 ∨ i = 1 ∨ i = 2 ∨ i = 3 := by omega
  rcases this with rfl | rfl | rfl | rfl <;> exact ⟨ajKc rfl, ajKc rfl⟩
theorem S49 {d q : Nat} {cs : List Int32} {h : ajH} {Q : Option Value → ajH → Prop} (hs : ajShp h) (hq : ajKw q 3) (hq2 : q + 1 < 47) (c : CL h cs) (hl : cs.length ≤ 256)
    (H : ∀ h', FR h h' (fun o j => o = q ∧ j = 3 ∨ o = q + 1) → ajI h' q 3 = nI cs.length → (∀ i, i < cs.length → ajI h' (q + 1) i = cs.getD i 0) → Q none h') : ajEv d 49 0 [.ref q, .ref 47] [] h Q := by
  refine W49_0 hs hq ?_
  refine ⟨ajOKw hs (ajKwi (ajKc rfl)), ?_⟩
  rintro h1 e1
  have s1 : ajShp h1 := by subst e1; exact hs
  have r1 : ajR h1 47 0 = 48 := ajRf_3_0 s1 (ajKc rfl)
  rw [r1]
  refine ⟨ajOKw s1 (ajKwi (ajKc rfl)), ⟨ajOKw s1 (ajKwi (ajKc rfl)), by rw [ajLenC (n := 256) rfl]; omega, ?_⟩⟩
  rintro _ rfl
  subst e1
  refine H _ (FR_trans (FR_SI h (by omega)) (FR_Cp _ (fun j _ _ => by omega))) ?_ ?_
  · rw [ajI_Cp, if_neg (by omega), ajI_SI, if_pos ⟨rfl, rfl⟩]
    exact c.1
  · intro i hi
    rw [ajI_Cp, if_pos ⟨rfl, by omega, by omega⟩, ajI_SI, if_neg (by omega), show 0 + (i - 0) = i by omega]
    exact c.2 i hi
def PTl (o j : Nat) : Prop := o = 1 ∧ j = 5 ∨ ∃ i, i < 4 ∧ (o = 18 + 7 * i ∧ j = 3 ∨ o = 18 + 7 * i + 1)
theorem S48 {S : GS} {d : Nat} {T : TP} {h : ajH} {Q : Option Value → ajH → Prop} (hs : ajShp h) (c : CI S h) (hT : T.2 ≤ 240) (ok : pOk (pLaw T.1 T.2 240 0 0) = true) (cl : CL h (pCo (pLaw T.1 T.2 240 0 0)))
    (H : ∀ h', (gm S < 4 → FR h h' (fun o j => o = 1 ∧ j = 5 ∨ o = 18 + 7 * gm S ∧ j = 3 ∨ o = 18 + 7 * gm S + 1) → CI (tLw S T.1 T.2) h' → Q (some (.int (nI (gm S)))) h') ∧ (¬ gm S < 4 → h' = h → Q (some (.int (-1))) h')) : ajEv (d + 1) 48 0 [.ref 1] [] h Q := by
  have hlen := (pLaw_len (B := T.1) (L := T.2) 240 0 0 (Nat.zero_le _)).2
  have m4 := c.2.2.1.2.1
  have e5 := c.2.2.1.1.1
  refine W48_0 hs ?_
  rw [e5]
  by_cases h4 : gm S < 4
  · rw [if_pos (by rw [sl_4, sr_lt (by omega) (by omega)]; exact h4), sr_in (by omega), sr_N (by omega)]
    refine ⟨h4, ?_⟩
    refine S49 hs (kw18 h4).1 (by omega) cl (by omega) ?_
    intro h1 f1 q1 q2 s1
    refine ⟨rfl, ?_⟩
    rintro _ rfl
    have e5' : ajI h1 1 5 = nI (gm S) := (FR_I f1 (by omega)).trans e5
    rw [e5', nI_1, ajI_SI, if_pos ⟨rfl, rfl⟩, sl_1, sr_sub (by omega), show gm S + 1 - 1 = gm S by omega]
    have f2 : FR h1 (ajSI h1 1 5 (nI (gm S + 1))) (fun o j => o = 1 ∧ j = 5 ∨ o = 18 + 7 * gm S ∧ j = 3 ∨ o = 18 + 7 * gm S + 1) := FR_SI h1 (Or.inl ⟨rfl, rfl⟩)
    have f : FR h (ajSI h1 1 5 (nI (gm S + 1))) (fun o j => o = 1 ∧ j = 5 ∨ o = 18 + 7 * gm S ∧ j = 3 ∨ o = 18 + 7 * gm S + 1) := FR_trans (FR_mono f1 (fun o j z => Or.inr z)) f2
    refine (H _).1 h4 f ?_
    obtain ⟨k1, k2, ⟨⟨u1, u2, u3, u4, u5⟩, m4, j4, lc, cj⟩, k4, k5, k6, k7⟩ := c
    refine ⟨c1_FR k1 f (fun o j z => by unfold b1; omega), c2_FR k2 f (fun o j z => by unfold b2; omega), ⟨⟨rfl, (FR_I f (by omega)).trans u2, (FR_I f (by omega)).trans u3, (FR_I f (by omega)).trans u4, (FR_I f (by omega)).trans u5⟩, h4, j4, ?_, fun i hi => ?_⟩, c4_FR k4 f (fun o j z => by unfold b4; omega), c5_FR k5 f (fun o j z => by unfold b5; omega), c6_FR k6 f (fun o j z => by unfold b6; omega), c7_FR k7 f (fun o j z => by unfold b7; omega)⟩
    · intro i hi
      have hi : i < gm S + 1 := hi
      show LawC (if i = gm S then T.1 else gTB S i) (if i = gm S then T.2 else gTL S i) _ (18 + 7 * i)
      by_cases e : i = gm S
      · simp only [if_pos e]
        rw [e]
        exact LawC_FR (P := fun o j => o = 1 ∧ j = 5) ⟨ok, q1, by omega, q2⟩ (FR_SI h1 ⟨rfl, rfl⟩) (by omega) (fun j => by omega)
      · simp only [if_neg e]
        exact LawC_FR (lc i (by omega)) f (by omega) (fun j => by omega)
    · have := j4
      have hi : i < gmj S := hi
      exact CJ_FR' (cj i hi) f (by omega) (fun j => ⟨by omega, by omega⟩)
  · rw [if_neg (by rw [sl_4, sr_lt (by omega) (by omega)]; exact h4)]
    exact (H h).2 h4 rfl
theorem S51 {d q n : Nat} {K : Nat → Nat} {D : Nat → Int32} {h : ajH} {Q : Option Value → ajH → Prop} (hs : ajShp h) (hq : ajKw q 4) (hq2 : q + 2 < 51) (c : CJ h 51 n K D) (hn : n ≤ 16)
    (H : ∀ h', FR h h' (fun o j => o = q ∧ j = 0 ∨ o = q + 1 ∨ o = q + 2) → CJ h' q n K D → Q none h') : ajEv d 51 0 [.ref q, .ref 51] [] h Q := by
  refine W51_0 hs hq (ajKc rfl) ?_
  rintro _ rfl _ rfl _ rfl
  refine H _ (FR_trans (FR_trans (FR_SI h (by omega)) (FR_Cp _ (fun j _ _ => by omega))) (FR_Cp _ (fun j _ _ => by omega))) ⟨?_, fun k hk => ⟨?_, ?_⟩⟩
  · rw [ajI_Cp, if_neg (by omega), ajI_Cp, if_neg (by omega), ajI_SI, if_pos ⟨rfl, rfl⟩]
    exact c.1
  · rw [ajI_Cp, if_neg (by omega), ajI_Cp, if_pos ⟨rfl, by omega, by omega⟩, ajI_SI, if_neg (by omega), show 0 + (k - 0) = k by omega]
    exact (c.2 k hk).1
  · rw [ajI_Cp, if_pos ⟨rfl, by omega, by omega⟩, ajI_Cp, if_neg (by omega), ajI_SI, if_neg (by omega), show 0 + (k - 0) = k by omega]
    exact (c.2 k hk).2
theorem S50 {S : GS} {d n : Nat} {K : Nat → Nat} {D : Nat → Int32} {h : ajH} {Q : Option Value → ajH → Prop} (hs : ajShp h) (c : CI S h) (hn : n ≤ 16) (cn : CJ h 51 n K D)
    (H : ∀ h', (gmj S < 4 → FR h h' (fun o j => o = 1 ∧ j = 9 ∨ o = 22 + 7 * gmj S ∧ j = 0 ∨ o = 22 + 7 * gmj S + 1 ∨ o = 22 + 7 * gmj S + 2) → CI (tJr S n K D) h' → Q (some (.int (nI (gmj S)))) h') ∧ (¬ gmj S < 4 → h' = h → Q (some (.int (-1))) h')) : ajEv (d + 1) 50 0 [.ref 1] [] h Q := by
  have j4 := c.2.2.1.2.2.1
  have e9 := c.2.2.1.1.2.2.2.1
  refine W50_0 hs ?_
  rw [e9]
  by_cases h4 : gmj S < 4
  · rw [if_pos (by rw [sl_4, sr_lt (by omega) (by omega)]; exact h4), sr_in (by omega), sr_N (by omega)]
    refine ⟨h4, ?_⟩
    refine S51 hs (kw18 h4).2 (by omega) cn hn ?_
    intro h1 f1 q1 s1
    refine ⟨rfl, ?_⟩
    rintro _ rfl
    have e9' : ajI h1 1 9 = nI (gmj S) := (FR_I f1 (by omega)).trans e9
    rw [e9', nI_1, ajI_SI, if_pos ⟨rfl, rfl⟩, sl_1, sr_sub (by omega), show gmj S + 1 - 1 = gmj S by omega]
    have f2 : FR h1 (ajSI h1 1 9 (nI (gmj S + 1))) (fun o j => o = 1 ∧ j = 9 ∨ o = 22 + 7 * gmj S ∧ j = 0 ∨ o = 22 + 7 * gmj S + 1 ∨ o = 22 + 7 * gmj S + 2) := FR_SI h1 (Or.inl ⟨rfl, rfl⟩)
    have f : FR h (ajSI h1 1 9 (nI (gmj S + 1))) (fun o j => o = 1 ∧ j = 9 ∨ o = 22 + 7 * gmj S ∧ j = 0 ∨ o = 22 + 7 * gmj S + 1 ∨ o = 22 + 7 * gmj S + 2) := FR_trans (FR_mono f1 (fun o j z => Or.inr z)) f2
    refine (H _).1 h4 f ?_
    obtain ⟨k1, k2, ⟨⟨u1, u2, u3, u4, u5⟩, m4, j4, lc, cj⟩, k4, k5, k6, k7⟩ := c
    refine ⟨c1_FR k1 f (fun o j z => by unfold b1; omega), c2_FR k2 f (fun o j z => by unfold b2; omega), ⟨⟨(FR_I f (by omega)).trans u1, (FR_I f (by omega)).trans u2, (FR_I f (by omega)).trans u3, rfl, (FR_I f (by omega)).trans u5⟩, m4, h4, LawsC_FR lc f (fun i hi => ?_), fun i hi => ?_⟩, c4_FR k4 f (fun o j z => by unfold b4; omega), c5_FR k5 f (fun o j z => by unfold b5; omega), c6_FR k6 f (fun o j z => by unfold b6; omega), c7_FR k7 f (fun o j z => by unfold b7; omega)⟩
    · have hi : i < gm S := hi
      exact ⟨by omega, fun j => by omega⟩
    · have hi : i < gmj S + 1 := hi
      show CJ _ (22 + 7 * i) (if i = gmj S then n else gJn S i) (if i = gmj S then K else gJK S i) (if i = gmj S then D else gJD S i)
      by_cases e : i = gmj S
      · simp only [if_pos e]
        rw [e]
        exact CJ_FR' (P := fun o j => o = 1 ∧ j = 9) q1 (FR_SI h1 ⟨rfl, rfl⟩) (by omega) (fun j => ⟨by omega, by omega⟩)
      · simp only [if_neg e]
        exact CJ_FR' (cj i (by omega)) f (by omega) (fun j => ⟨by omega, by omega⟩)
  · rw [if_neg (by rw [sl_4, sr_lt (by omega) (by omega)]; exact h4)]
    exact (H h).2 h4 rfl
def PTt (o _j : Nat) : Prop := o < 320
theorem S42 {S : GS} {d : Nat} {v : Int32} {h : ajH} {Q : Option Value → ajH → Prop} (hs : ajShp h) (c : CI S h) (vd : GVd S)
    (H : ∀ h', FR h h' PTt → CI (gText S v) h' → Q (some (.int (aText S v))) h') : ajEv (d + 42) 42 0 [.ref 1, .int v, ajU] [] h Q := by
  have m4 := vd.m4
  have j4 := vd.j4
  refine W42_0 hs ?_
  unfold gText aText at H
  by_cases y : v < 0
  · rw [if_pos y]
    have e : isp 3 v = false := by unfold isp; rw [if_pos y]
    rw [e, if_neg (by decide), if_neg (by decide)] at H
    exact H h (FR_refl _ _) c
  · rw [if_neg y]
    obtain ⟨o, ho, rfl⟩ := sr_of y
    by_cases y2 : o ≤ 2
    · rw [if_neg (by rw [sl_2, sr_lt (by omega) (by omega)]; omega)]
      have e : isp 3 (nI o) = true := by unfold isp; rw [if_neg y, if_neg (by rw [sr_le (by omega) (by omega)]; omega)]
      rw [e, if_pos rfl, if_pos rfl, sr_N (by omega)] at H
      unfold txG txA at H
      refine S15 (by omega) hs c ?_
      intro h1 f1 p1 s1
      refine ⟨_, rfl, ?_⟩
      have c1 : CI S h1 := CI_FR c f1 (fun o j z => by unfold PTx PWh P3 PJ at z; unfold b1 b2 b3 b4 b5 b6 b7 PLw; omega)
      have f1t : FR h h1 PTt := FR_mono f1 (fun o j z => by unfold PTx PWh P3 PJ at z; unfold PTt; omega)
      cases e2 : txOK (gT S) o with
      | false =>
        rw [if_neg (fun z => z rfl)]
        rw [e2, if_neg (by decide), if_neg (by decide)] at H
        exact H h1 f1t c1
      | true =>
        rw [if_pos (by decide)]
        rw [e2, if_pos rfl, if_pos rfl] at H
        unfold txOK at e2
        have fin : ∀ (a : Nat) (S' : GS) (h2 : ajH), a < 1000 → ajShp h2 → CI S' h2 → FR h h2 PTt → (∀ h', FR h h' PTt → CI (sT0 S') h' → Q (some (.int (nI a))) h') → ∀ u1, ajEv (d + 42) 42 49 [.ref 1, u1, .int (nI a)] [] h2 Q := by
          intro a S' h2 ha s2 cc ff HH u1
          refine W42_49 s2 ?_
          rw [if_neg (by rw [sr_neg1 (by omega)]; exact fun z => z)]
          rintro _ rfl
          exact HH _ (FR_trans ff (FR_SI h2 (by unfold PTt; omega))) (CI_t0 cc)
        have bad : ∀ (h2 : ajH), ajShp h2 → Q (some (.int (-1))) h2 → ∀ u1, ajEv (d + 42) 42 49 [.ref 1, u1, .int (-1)] [] h2 Q := by
          intro h2 s2 HH u1
          refine W42_49 s2 ?_
          rw [if_pos rfl]
          exact HH
        have : o = 0 ∨ o = 1 ∨ o = 2 := by omega
        rcases this with rfl | rfl | rfl
        · rw [if_neg (show ¬ ¬ nI 0 = 0 from fun z => z rfl)]
          rw [if_pos rfl, if_pos rfl] at H
          rw [if_pos rfl] at e2
          have w := rWh_ok e2
          have cw := (p1.1 rfl).2.1 e2
          refine S43 (d := d + 40) s1 c1 cw w.2.1 w.2.2.2.2 ?_
          intro h2 f2 c2 s2
          refine ⟨_, rfl, ?_⟩
          exact fin _ _ h2 (by omega) s2 c2 (FR_trans f1t (FR_mono f2 (fun o j z => by unfold PTwk at z; unfold PTt; omega))) H _
        · rw [if_pos (by decide), if_neg (show ¬ ¬ nI 1 = 1 from fun z => z rfl)]
          simp only [if_neg (show ¬ (1 : Nat) = 0 by decide), if_pos (rfl : (1 : Nat) = 1)] at H
          rw [if_neg (by decide), if_pos rfl] at e2
          have cl := ((p1.2.1 rfl).2.1 e2).2
          rw [List.nil_append] at cl
          refine S48 (d := d + 40) (T := gT S) s1 c1 c.1.1.2.1 e2 cl ?_
          intro h2
          refine ⟨?_, ?_⟩
          · intro h4 f2 c2 s2
            refine ⟨_, rfl, ?_⟩
            simp only [if_pos h4] at H
            exact fin _ _ h2 (by omega) s2 c2 (FR_trans f1t (FR_mono f2 (fun o j z => by unfold PTt; omega))) H _
          · rintro h4 rfl s2
            refine ⟨_, rfl, ?_⟩
            simp only [if_neg h4] at H
            exact bad _ s2 (H _ f1t c1) _
        · rw [if_pos (by decide), if_pos (by decide)]
          simp only [if_neg (show ¬ (2 : Nat) = 0 by decide), if_neg (show ¬ (2 : Nat) = 1 by decide)] at H
          rw [if_neg (by decide), if_neg (by decide)] at e2
          have cn := (p1.2.2 rfl).2.1 e2
          refine S50 (d := d + 40) s1 c1 (rJ_bd _ _).1 cn ?_
          intro h2
          refine ⟨?_, ?_⟩
          · intro h4 f2 c2 s2
            refine ⟨_, rfl, ?_⟩
            simp only [if_pos h4] at H
            exact fin _ _ h2 (by omega) s2 c2 (FR_trans f1t (FR_mono f2 (fun o j z => by unfold PTt; omega))) H _
          · rintro h4 rfl s2
            refine ⟨_, rfl, ?_⟩
            simp only [if_neg h4] at H
            exact bad _ s2 (H _ f1t c1) _
    · rw [if_pos (by rw [sl_2, sr_lt (by omega) (by omega)]; omega)]
      have e : isp 3 (nI o) = false := by unfold isp; rw [if_neg y, if_pos (by rw [sr_le (by omega) (by omega)]; omega)]
      rw [e, if_neg (by decide), if_neg (by decide)] at H
      exact H h (FR_refl _ _) c
