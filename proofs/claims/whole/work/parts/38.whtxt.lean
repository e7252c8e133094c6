/-! Wheels told as texts: what they are; the class reads them. -/
def kI (b : Bool) : Int32 := if b = true then 107 else 115
def kQ (b : Bool) : Nat := if b = true then 1012 else 1011
def kLen (b : Bool) : Nat := if b = true then 3 else 4
def kLo (b : Bool) (j : Nat) : Nat := if b = true then (if j = 0 then 1 else 0) else 0
def kHi (b : Bool) (j : Nat) : Nat := if b = true then (if j = 0 then 99 else 9) else (if j = 0 then 99 else if j = 1 then 9 else if j = 2 then 99 else 1)
def kUs (b : Bool) (j : Nat) : Nat := if b = true then (if j = 0 then 30 else if j = 1 then 5 else 2) else (if j = 0 then 24 else if j = 1 then 3 else if j = 2 then 20 else 0)
theorem kHi_le (b : Bool) (j : Nat) : kHi b j ≤ 99 := by
  unfold kHi
  repeat' split
  all_goals omega
theorem kLo_le (b : Bool) (j : Nat) : kLo b j ≤ 1 := by
  unfold kLo
  repeat' split
  all_goals omega
theorem kQ_tx (b : Bool) : sTx (kQ b) := by cases b <;> unfold kQ sTx <;> simp
theorem kQ_len (b : Bool) : (ajStr (kQ b)).length = kLen b := by cases b <;> rfl
theorem kLen_le (b : Bool) : kLen b ≤ 4 ∧ 3 ≤ kLen b := by cases b <;> decide
/-- the rows of the class that never change -/
def SA (h : ajH) : Prop := (∀ j, j < 4 → ajI h 1000 j = nI (kUs false j)) ∧ (∀ j, j < 4 → ajI h 1001 j = nI (kLo false j)) ∧ (∀ j, j < 4 → ajI h 1002 j = nI (kHi false j)) ∧ (∀ j, j < 3 → ajI h 1003 j = nI (kUs true j)) ∧ (∀ j, j < 3 → ajI h 1004 j = nI (kLo true j)) ∧ (∀ j, j < 3 → ajI h 1005 j = nI (kHi true j))
theorem SA_FR {h h' : ajH} {P : Nat → Nat → Prop} (s : SA h) (f : FR h h' P) (p : ∀ o j, 1000 ≤ o → ¬ P o j) : SA h' :=
  ⟨fun j hj => (FR_I f (p _ _ (by omega))).trans (s.1 j hj), fun j hj => (FR_I f (p _ _ (by omega))).trans (s.2.1 j hj), fun j hj => (FR_I f (p _ _ (by omega))).trans (s.2.2.1 j hj), fun j hj => (FR_I f (p _ _ (by omega))).trans (s.2.2.2.1 j hj), fun j hj => (FR_I f (p _ _ (by omega))).trans (s.2.2.2.2.1 j hj), fun j hj => (FR_I f (p _ _ (by omega))).trans (s.2.2.2.2.2 j hj)⟩
def kA (b : Bool) (i : Nat) : Nat := if b = true then 1003 + i else 1000 + i
theorem SA_lo {h : ajH} (s : SA h) (b : Bool) {j : Nat} (hj : j < kLen b) : ajI h (kA b 1) j = nI (kLo b j) := by
  cases b with
  | false => exact s.2.1 j hj
  | true => exact s.2.2.2.2.1 j hj
theorem SA_hi {h : ajH} (s : SA h) (b : Bool) {j : Nat} (hj : j < kLen b) : ajI h (kA b 2) j = nI (kHi b j) := by
  cases b with
  | false => exact s.2.2.1 j hj
  | true => exact s.2.2.2.2.2 j hj
theorem kA_ki (b : Bool) {i : Nat} (hi : i < 3) : ajKi (kA b i) 100 := by
  have h : i = 0 ∨ i = 1 ∨ i = 2 := by omega
  rcases h with rfl | rfl | rfl <;> cases b <;> exact ajKci rfl
theorem kA_len {h : ajH} (b : Bool) {i : Nat} (hi : i < 3) : ajLen h (kA b i) = kLen b := by
  have h : i = 0 ∨ i = 1 ∨ i = 2 := by omega
  rcases h with rfl | rfl | rfl <;> cases b <;> exact ajLenC rfl
theorem ixG_in (x : Int32) : ∀ (s : List Nat) (i : Nat), ixG x s i = -1 ∨ ∃ j, i ≤ j ∧ j < i + s.length ∧ ixG x s i = nI j := by
  intro s
  induction s with
  | nil => intro i; exact Or.inl rfl
  | cons y r ih =>
    intro i
    unfold ixG
    by_cases h : nI y = x
    · rw [if_pos h]; exact Or.inr ⟨i, Nat.le_refl _, by rw [List.length_cons]; omega, rfl⟩
    · rw [if_neg h]
      rcases ih (i + 1) with e | ⟨j, h1, h2, e⟩
      · exact Or.inl e
      · exact Or.inr ⟨j, by omega, by rw [List.length_cons]; omega, e⟩
theorem ixG_m1 : ∀ (s : List Nat) (i : Nat), (∀ y, y ∈ s → y < 256) → ixG (-1) s i = -1 := by
  intro s
  induction s with
  | nil => intro i _; rfl
  | cons y r ih =>
    intro i h
    unfold ixG
    rw [if_neg (by rw [sr_neg1 (by have := h y List.mem_cons_self; omega)]; exact fun z => z)]
    exact ih (i + 1) (fun z hz => h z (List.mem_cons_of_mem _ hz))
theorem ixG_L {m : Nat} (hm : m < 256) : ∀ (s : List Nat) (i : Nat), (∀ y, y ∈ s → y < 256) → ixG (nI m) s i = ixL m s i := by
  intro s
  induction s with
  | nil => intro i _; rfl
  | cons y r ih =>
    intro i h
    unfold ixG ixL
    have hy := h y List.mem_cons_self
    by_cases e : y = m
    · rw [if_pos (by rw [e]), if_pos e]
    · rw [if_neg (by rw [sr_eq (by omega) (by omega)]; exact e), if_neg e]
      exact ih (i + 1) (fun z hz => h z (List.mem_cons_of_mem _ hz))
theorem ajStr_mem : ∀ q, sTx q → ∀ y, y ∈ ajStr q → y < 256 := by
  intro q hq
  rcases hq with rfl | rfl | rfl | rfl | rfl <;> exact (by decide)
/-- the class's look into a text of signs, whether there is a sign or not -/
theorem S252t {B : Nat → Nat} {L a d q : Nat} {h : ajH} {Q : Option Value → ajH → Prop} (hs : ajShp h) (sc : SC h) (hB : ∀ k, B k < 256) (hq : sTx q) (hl : a < L) (H : Q (some (.int (ixG (tCh B L a) (ajStr q) 0))) h) : ajEv (d + 3) 252 0 [.ref q, .int (((tCh B L a).toUInt32 % 65536).toInt32)] [] h Q := by
  have hb := hB a
  rw [tCh_in hl] at H ⊢
  rw [ch16 hb]
  refine S252 hs sc hq hb ?_
  rw [← ixG_L hb _ _ (ajStr_mem q hq)]
  exact H
/-- items: whether they go, where, the row -/
def pIt (B : Nat → Nat) (L : Nat) (s : List Nat) (lo hi : Nat → Nat) : Nat → Nat → (Nat → Nat) → Nat → Bool × Nat × (Nat → Nat)
  | 0, _, R, a => (true, tSk B L a, R)
  | F + 1, M, R, a => if ixG (tCh B L (tSk B L a)) s 0 = -1 then (true, tSk B L a, R)
    else if M / 2 ^ (ixG (tCh B L (tSk B L a)) s 0).toNatClampNeg % 2 = 1 then (false, tSk B L a, R)
    else if (tNr B L 2 (lo (ixG (tCh B L (tSk B L a)) s 0).toNatClampNeg) (hi (ixG (tCh B L (tSk B L a)) s 0).toNatClampNeg) (tSk B L a + 1)).1 = true then
      pIt B L s lo hi F (M + 2 ^ (ixG (tCh B L (tSk B L a)) s 0).toNatClampNeg) (fun k => if k = (ixG (tCh B L (tSk B L a)) s 0).toNatClampNeg then (tNr B L 2 (lo (ixG (tCh B L (tSk B L a)) s 0).toNatClampNeg) (hi (ixG (tCh B L (tSk B L a)) s 0).toNatClampNeg) (tSk B L a + 1)).2.2 else R k) (tNr B L 2 (lo (ixG (tCh B L (tSk B L a)) s 0).toNatClampNeg) (hi (ixG (tCh B L (tSk B L a)) s 0).toNatClampNeg) (tSk B L a + 1)).2.1
    else (false, (tNr B L 2 (lo (ixG (tCh B L (tSk B L a)) s 0).toNatClampNeg) (hi (ixG (tCh B L (tSk B L a)) s 0).toNatClampNeg) (tSk B L a + 1)).2.1, R)
theorem tNr_gd {B : Nat → Nat} {L k lo hi a : Nat} (ha : a ≤ L) (hk : 0 < k) : (tNr B L k lo hi a).2.1 ≤ L ∧ ((tNr B L k lo hi a).1 = true → a < (tNr B L k lo hi a).2.1 ∧ lo ≤ (tNr B L k lo hi a).2.2 ∧ (tNr B L k lo hi a).2.2 ≤ hi) := by
  have h6 := tSk_ge B L a
  have h7 := tSk_le B ha
  unfold tNr
  split
  · rename_i hd
    have hn := tNum_all B L k (tSk B L a) 0 h7
    have hg := tNum_gt (m := k) (v := 0) hd.1 hd.2.1 hd.2.2 hk
    split
    · exact ⟨hn.2.1, fun z => by cases z⟩
    · split
      · exact ⟨by show (tNum B L k (tSk B L a) 0).1 - 1 ≤ L; omega, fun z => by cases z⟩
      · exact ⟨hn.2.1, fun _ => ⟨by show a < (tNum B L k (tSk B L a) 0).1; omega, by show lo ≤ (tNum B L k (tSk B L a) 0).2; omega, by show (tNum B L k (tSk B L a) 0).2 ≤ hi; omega⟩⟩
  · exact ⟨h7, fun z => by cases z⟩
theorem ixG_lt {B : Nat → Nat} {L a q : Nat} (hq : sTx q) (h : ¬ ixG (tCh B L a) (ajStr q) 0 = -1) : a < L := by
  by_cases z : a < L
  · exact z
  · rw [tCh_end (by omega), ixG_m1 _ _ (ajStr_mem q hq)] at h
    exact absurd rfl h
theorem pIt_gd {B : Nat → Nat} {L q : Nat} {lo hi : Nat → Nat} (hq : sTx q) : ∀ F M R a, a ≤ L → a ≤ (pIt B L (ajStr q) lo hi F M R a).2.1 ∧ (pIt B L (ajStr q) lo hi F M R a).2.1 ≤ L ∨ (pIt B L (ajStr q) lo hi F M R a).1 = false ∧ (pIt B L (ajStr q) lo hi F M R a).2.1 ≤ L := by
  intro F
  induction F with
  | zero => intro M R a ha; exact Or.inl ⟨tSk_ge B L a, tSk_le B ha⟩
  | succ F ih =>
    intro M R a ha
    have h6 := tSk_ge B L a
    have h7 := tSk_le B ha
    unfold pIt
    split
    · exact Or.inl ⟨h6, h7⟩
    · rename_i hx
      have hlt := ixG_lt hq hx
      split
      · exact Or.inr ⟨rfl, h7⟩
      · have hn := tNr_gd (B := B) (lo := lo (ixG (tCh B L (tSk B L a)) (ajStr q) 0).toNatClampNeg) (hi := hi (ixG (tCh B L (tSk B L a)) (ajStr q) 0).toNatClampNeg) (k := 2) (show tSk B L a + 1 ≤ L by omega) (by omega)
        split
        · rename_i hok
          have h8 := hn.2 hok
          rcases ih (M + 2 ^ (ixG (tCh B L (tSk B L a)) (ajStr q) 0).toNatClampNeg) _ _ hn.1 with z | z
          · exact Or.inl ⟨by omega, z.2⟩
          · exact Or.inr z
        · exact Or.inr ⟨rfl, hn.1⟩
/-- bits of few -/
def pc4 (M : Nat) : Nat := M % 2 + M / 2 % 2 + M / 4 % 2 + M / 8 % 2
theorem m4_bit {M w : Nat} (hM : M < 16) (hw : w < 4) : ((nI M >>> (nI w &&& 31)) &&& 1 = 0) = ¬ M / 2 ^ w % 2 = 1 := (by decide +kernel : ∀ M < 16, ∀ w < 4, ((nI M >>> (nI w &&& 31)) &&& 1 = 0) = ¬ M / 2 ^ w % 2 = 1) M hM w hw
theorem m4_bit1 {M w : Nat} (hM : M < 16) (hw : w < 4) : ((nI M >>> (nI w &&& 31)) &&& 1 = 1) = (M / 2 ^ w % 2 = 1) := (by decide +kernel : ∀ M < 16, ∀ w < 4, ((nI M >>> (nI w &&& 31)) &&& 1 = 1) = (M / 2 ^ w % 2 = 1)) M hM w hw
theorem m4_set {M w : Nat} (hM : M < 16) (hw : w < 4) (h : ¬ M / 2 ^ w % 2 = 1) : nI M ||| (1 <<< (nI w &&& 31)) = nI (M + 2 ^ w) ∧ M + 2 ^ w < 16 ∧ pc4 (M + 2 ^ w) = pc4 M + 1 := (by decide +kernel : ∀ M < 16, ∀ w < 4, ¬ M / 2 ^ w % 2 = 1 → nI M ||| (1 <<< (nI w &&& 31)) = nI (M + 2 ^ w) ∧ M + 2 ^ w < 16 ∧ pc4 (M + 2 ^ w) = pc4 M + 1) M hM w hw h
/-- what stands behind a clause's items: ; or the end -/
def eOK (B : Nat → Nat) (L : Nat) (r : Bool × Nat × (Nat → Nat)) : Bool := r.1 && (decide (tCh B L r.2.1 = 59) || decide (tCh B L r.2.1 = -1))
def PI (t o j : Nat) : Prop := o = 2 ∧ (j = 2 ∨ j = 3) ∨ o = t
theorem S21_119 {B : Nat → Nat} {L a d : Nat} {h : ajH} {Q : Option Value → ajH → Prop} {u1 u2 u3 u4 u5 u6 u7 u8 u9 : Value} (hs : ajShp h) (ct : CT B L h) (ha : ajI h 2 2 = nI a) (hl : a ≤ L)
    (H : ∀ h', FR h h' P2 → (tCh B L (tSk B L a) = 59 ∨ tCh B L (tSk B L a) = -1 → ajI h' 2 2 = nI (tSk B L a) → Q (some (.int 1)) h') ∧ (¬ (tCh B L (tSk B L a) = 59 ∨ tCh B L (tSk B L a) = -1) → ajI h' 2 3 = nI (tSk B L a) → Q (some (.int 0)) h')) : ajEv (d + 1) 21 119 [.ref 2, u1, u2, u3, u4, u5, u6, u7, u8, u9] [] h Q := by
  have h7 := tSk_le B hl
  have f1 : FR h (ajSI h 2 2 (nI (tSk B L a))) P2 := FR_SI h ⟨rfl, Or.inl rfl⟩
  refine W21_119 hs ?_
  refine S19 hs ct ha hl ?_
  intro s1
  refine ⟨_, rfl, ?_⟩
  by_cases e1 : tCh B L (tSk B L a) = -1
  · rw [if_pos e1]
    exact (H _ f1).1 (Or.inr e1) rfl
  · rw [if_neg e1]
    refine S19 (a := tSk B L a) s1 (by rw [CT_2 (by decide)]; exact ct) rfl h7 ?_
    rw [tSk_id, ajSI_SI]
    intro s2
    refine ⟨_, rfl, ?_⟩
    by_cases e2 : tCh B L (tSk B L a) = 59
    · rw [if_pos e2]
      exact (H _ f1).1 (Or.inl e2) rfl
    · rw [if_neg e2]
      refine S22 s2 ?_
      intro _
      refine ⟨_, rfl, ?_⟩
      rw [if_pos rfl]
      exact (H _ (FR_trans f1 (FR_SI _ ⟨rfl, Or.inr rfl⟩))).2 (by rintro (z | z); exact e2 z; exact e1 z) rfl
theorem S21_6 {B : Nat → Nat} {L t : Nat} {b : Bool} (ht : ajKw t 100) (htl : ∀ h : ajH, ajLen h t = kLen b) (ht2 : ¬ t = 2) (ht3 : ¬ t = 3) : ∀ (F d : Nat) (h : ajH) (Q : Option Value → ajH → Prop) (i M a : Nat) (R : Nat → Nat) (u7 u8 u9 : Value), ajShp h → CT B L h → SC h → SA h → ajI h 2 2 = nI a → a ≤ L → M < 16 → i + F = kLen b → (∀ k, k < kLen b → ajI h t k = nI (R k)) →
    (∀ h', FR h h' (PI t) → (eOK B L (pIt B L (ajStr (kQ b)) (kLo b) (kHi b) F M R a) = true → ajI h' 2 2 = nI (pIt B L (ajStr (kQ b)) (kLo b) (kHi b) F M R a).2.1 → (∀ k, k < kLen b → ajI h' t k = nI ((pIt B L (ajStr (kQ b)) (kLo b) (kHi b) F M R a).2.2 k)) → Q (some (.int 1)) h') ∧ (eOK B L (pIt B L (ajStr (kQ b)) (kLo b) (kHi b) F M R a) = false → ajI h' 2 3 = nI (pIt B L (ajStr (kQ b)) (kLo b) (kHi b) F M R a).2.1 → Q (some (.int 0)) h')) →
    ajEv (d + 4) 21 6 [.ref 2, .ref (kQ b), .ref (kA b 1), .ref (kA b 2), .ref t, .int (nI M), .int (nI i), u7, u8, u9] [] h Q := by
  have hq := kQ_tx b
  have hk := kLen_le b
  have hP : ∀ o j, P2 o j → PI t o j := fun o j z => Or.inl z
  intro F
  induction F with
  | zero =>
    intro d h Q i M a R u7 u8 u9 hs ct sc sa ha hl hM hi hR H
    refine W21_6 hs (ajStr_ki _ hq).1 (kA_ki b (by omega)) (kA_ki b (by omega)) (ajKwi ht) ?_
    refine S250 hs sc hq ?_
    intro _
    refine ⟨_, rfl, ?_⟩
    rw [kQ_len, if_pos (by rw [sr_le (by omega) (by omega)]; omega)]
    refine S21_119 hs ct ha hl ?_
    intro h' f
    have H1 := H h' (FR_mono f hP)
    unfold pIt eOK at H1
    refine ⟨fun e1 e2 => ?_, fun e1 e2 => ?_⟩
    · refine H1.1 ?_ e2 (fun k hk2 => (FR_I f (by unfold P2; omega)).trans (hR k hk2))
      rcases e1 with e1 | e1
      · rw [decide_eq_true e1]; rfl
      · rw [decide_eq_true e1, Bool.or_true]; rfl
    · refine H1.2 ?_ e2
      rw [decide_eq_false (fun z => e1 (Or.inl z)), decide_eq_false (fun z => e1 (Or.inr z))]; rfl
  | succ F ih =>
    intro d h Q i M a R u7 u8 u9 hs ct sc sa ha hl hM hi hR H
    have c2 := ct.2.1
    have h6 := tSk_ge B L a
    have h7 := tSk_le B hl
    have f1 : FR h (ajSI h 2 2 (nI (tSk B L a))) P2 := FR_SI h ⟨rfl, Or.inl rfl⟩
    have ct1 : CT B L (ajSI h 2 2 (nI (tSk B L a))) := by rw [CT_2 (by decide)]; exact ct
    have sc1 : SC (ajSI h 2 2 (nI (tSk B L a))) := SC_FR sc f1 (fun o j ho => by unfold P2; omega)
    have sa1 : SA (ajSI h 2 2 (nI (tSk B L a))) := SA_FR sa f1 (fun o j ho => by unfold P2; omega)
    have hR1 : ∀ k, k < kLen b → ajI (ajSI h 2 2 (nI (tSk B L a))) t k = nI (R k) := fun k hk2 => (FR_I f1 (by unfold P2; omega)).trans (hR k hk2)
    refine W21_6 hs (ajStr_ki _ hq).1 (kA_ki b (by omega)) (kA_ki b (by omega)) (ajKwi ht) ?_
    refine S250 hs sc hq ?_
    intro _
    refine ⟨_, rfl, ?_⟩
    rw [kQ_len, if_neg (by rw [sr_le (by omega) (by omega)]; omega)]
    refine S19 hs ct ha hl ?_
    intro s1
    refine ⟨_, rfl, ?_⟩
    -- no such sign: the items end here
    have hend : ixG (tCh B L (tSk B L a)) (ajStr (kQ b)) 0 = -1 → ∀ u1 u2 u3 : Value, ajEv (d + 4) 21 38 [.ref 2, .ref (kQ b), .ref (kA b 1), .ref (kA b 2), .ref t, .int (nI M), .int (nI i), u1, u2, u3] [.int (-1)] (ajSI h 2 2 (nI (tSk B L a))) Q := by
      intro e0 u1 u2 u3
      refine W21_38 s1 (ajStr_ki _ hq).1 (kA_ki b (by omega)) (kA_ki b (by omega)) ht ?_
      rw [if_neg (by decide)]
      refine S21_119 (a := tSk B L a) s1 ct1 rfl h7 ?_
      intro h' f
      have H1 := H h' (FR_trans (FR_mono f1 hP) (FR_mono f hP))
      unfold pIt eOK at H1
      rw [if_pos e0] at H1
      rw [tSk_id]
      refine ⟨fun e1 e2 => ?_, fun e1 e2 => ?_⟩
      · refine H1.1 ?_ e2 (fun k hk2 => (FR_I f (by unfold P2; omega)).trans (hR1 k hk2))
        rcases e1 with e1 | e1
        · rw [decide_eq_true e1]; rfl
        · rw [decide_eq_true e1, Bool.or_true]; rfl
      · refine H1.2 ?_ e2
        rw [decide_eq_false (fun z => e1 (Or.inl z)), decide_eq_false (fun z => e1 (Or.inr z))]; rfl
    by_cases e0 : tCh B L (tSk B L a) = -1
    · rw [if_neg (fun z => z e0)]
      have e3 : ixG (tCh B L (tSk B L a)) (ajStr (kQ b)) 0 = -1 := by rw [e0]; exact ixG_m1 _ _ (ajStr_mem _ hq)
      exact hend e3 _ _ _
    · rw [if_pos e0]
      have hlt : tSk B L a < L := by
        by_cases z : tSk B L a < L
        · exact z
        · exact absurd (tCh_end (by omega)) e0
      refine S252t s1 sc1 ct.2.2.1 hq hlt ?_
      intro _
      refine ⟨_, rfl, ?_⟩
      rcases ixG_in (tCh B L (tSk B L a)) (ajStr (kQ b)) 0 with e3 | ⟨w, _, hw, e3⟩
      · rw [e3]; exact hend e3 _ _ _
      · rw [kQ_len, Nat.zero_add] at hw
        unfold pIt at H
        have en : ¬ nI w = -1 := by rw [sr_neg1 (by omega)]; exact fun z => z
        rw [e3] at H
        simp only [if_neg en, sr_N (show w < 2147483648 by omega)] at H
        rw [e3]
        refine W21_38 s1 (ajStr_ki _ hq).1 (kA_ki b (by omega)) (kA_ki b (by omega)) ht ?_
        rw [if_pos (nI_pos' (by omega))]
        by_cases hb : M / 2 ^ w % 2 = 1
        · rw [if_pos (by rw [m4_bit hM (by omega)]; exact fun z => z hb)]
          simp only [if_pos hb] at H
          refine S22 s1 ?_
          intro _
          refine ⟨_, rfl, Or.inl rfl, ?_⟩
          exact (H _ (FR_trans (FR_mono f1 hP) (FR_SI _ (Or.inl ⟨rfl, Or.inr rfl⟩)))).2 rfl rfl
        · rw [if_neg (by rw [m4_bit hM (by omega)]; exact fun z => z hb), htl, sl_n, if_pos (by rw [sr_lt (by omega) (by omega)]; omega)]
          simp only [if_neg hb] at H
          refine S20 s1 ct1 rfl hlt ?_
          rw [ajSI_SI]
          intro s2
          refine ⟨rfl, ?_⟩
          have f2 : FR h (ajSI h 2 2 (nI (tSk B L a + 1))) P2 := FR_SI h ⟨rfl, Or.inl rfl⟩
          have ct2 : CT B L (ajSI h 2 2 (nI (tSk B L a + 1))) := by rw [CT_2 (by decide)]; exact ct
          have sa2 : SA (ajSI h 2 2 (nI (tSk B L a + 1))) := SA_FR sa f2 (fun o j ho => by unfold P2; omega)
          rw [kA_len b (by omega), kA_len b (by omega), sr_in (by omega), sr_N (by omega), SA_lo sa2 b hw, SA_hi sa2 b hw]
          refine ⟨hw, hw, ?_⟩
          have hlo := kLo_le b w
          have hhi := kHi_le b w
          have hn := tNr_gd (B := B) (L := L) (k := 2) (lo := kLo b w) (hi := kHi b w) (a := tSk B L a + 1) (by omega) (by omega)
          refine S23 (k := 2) s2 ct2 (by omega) (by omega) (by omega) (by omega) rfl (by omega) ?_
          intro h3 f3
          generalize tNr B L 2 (kLo b w) (kHi b w) (tSk B L a + 1) = r at H hn ⊢
          have f23 : FR h h3 P2 := FR_trans f2 f3
          refine ⟨fun hok e4 s3 => ?_, fun hno e4 s3 => ?_⟩
          · refine ⟨_, rfl, ?_⟩
            have hv := hn.2 hok
            simp only [hok, if_true] at H
            rw [if_pos (nI_pos' (by omega)), htl, sr_in (by omega)]
            refine ⟨hw, ?_⟩
            rintro _ rfl
            have em := m4_set hM (show w < 4 by omega) hb
            rw [em.1, nI_1]
            have f4 : FR h (ajSI h3 t w (nI r.2.2)) (PI t) := FR_trans (FR_mono f23 hP) (FR_SI _ (Or.inr rfl))
            refine ih d (ajSI h3 t w (nI r.2.2)) Q (i + 1) (M + 2 ^ w) r.2.1 (fun k => if k = w then r.2.2 else R k) _ _ _ s3 (CT_FR ct f4 (by unfold PI; omega) (fun k _ => by unfold PI; omega)) (SC_FR sc f4 (fun o j ho => by unfold PI; have := ht.1; omega)) (SA_FR sa f4 (fun o j ho => by unfold PI; have := ht.1; omega)) ?_ hn.1 em.2.1 (by omega) ?_ ?_
            · rw [ajI_SI, if_neg (by omega)]; exact e4
            · intro k hk2
              rw [ajI_SI]
              by_cases ek : k = w
              · rw [if_pos ⟨rfl, ek⟩, if_pos ek]
              · rw [if_neg (by omega), if_neg ek]
                exact (FR_I f23 (by unfold P2; omega)).trans (hR k hk2)
            · intro h' f
              exact H h' (FR_trans f4 f)
          · refine ⟨_, rfl, ?_⟩
            simp only [hno, Bool.false_eq_true, if_false] at H
            rw [if_neg (by decide)]
            exact (H h3 (FR_mono f23 hP)).2 rfl e4
