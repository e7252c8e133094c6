/-! The reference reads a law, and reckons: signs, numbers, sums. -/
def P10 (o j : Nat) : Prop := o = 320 ∧ (j = 10 ∨ j = 11 ∨ j = 12)
def MT (B : Nat → Nat) (L t b : Nat) (h : ajH) : Prop := ajR h 320 5 = t ∧ ajI h 320 8 = nI b ∧ ajI h 320 9 = nI L ∧ L ≤ 240 ∧ (t = 321 ∧ b = 0 ∨ t = 322 ∧ b ≤ 720) ∧ (∀ k, B k < 256) ∧ ∀ k, k < L → ajI h t (b + k) = (nI (B k)).toInt8.toInt32
theorem MT_FR {B : Nat → Nat} {L t b : Nat} {h h' : ajH} {P : Nat → Nat → Prop} (c : MT B L t b h) (f : FR h h' P) (p5 : ¬ P 320 5) (p8 : ¬ P 320 8) (p9 : ¬ P 320 9) (p : ∀ j, ¬ P 321 j ∧ ¬ P 322 j) : MT B L t b h' := by
  obtain ⟨c1, c2, c3, c4, c5, c6, c7⟩ := c
  refine ⟨(FR_R f p5).trans c1, (FR_I f p8).trans c2, (FR_I f p9).trans c3, c4, c5, c6, fun k hk => ?_⟩
  rw [← c7 k hk]
  refine FR_I f ?_
  rcases c5 with c5 | c5
  · rw [c5.1]; exact (p _).1
  · rw [c5.1]; exact (p _).2
theorem MT_10 {B : Nat → Nat} {L t b : Nat} {h h' : ajH} (c : MT B L t b h) (f : FR h h' P10) : MT B L t b h' := MT_FR c f (by unfold P10; omega) (by unfold P10; omega) (by unfold P10; omega) (fun j => ⟨by unfold P10; omega, by unfold P10; omega⟩)
theorem MT_OK {B : Nat → Nat} {L t b : Nat} {h : ajH} (hs : ajShp h) (c : MT B L t b h) {a : Nat} (ha : a < L) : ajOK h (ajR h 320 5) 101 ∧ ajIn (ajI h 320 8 + nI a) (ajLen h (ajR h 320 5)) ∧ (ajI h 320 8 + nI a).toNatClampNeg = b + a ∧ ajI h (ajR h 320 5) (b + a) = (nI (B a)).toInt8.toInt32 := by
  obtain ⟨c1, c2, c3, c4, c5, c6, c7⟩ := c
  rw [c1, c2, sr_add, sr_N (by omega), sr_in (by omega)]
  rcases c5 with c5 | c5
  · obtain ⟨rfl, rfl⟩ := c5
    have e : ajLen h 321 = 240 := ajLenC rfl
    rw [e]
    exact ⟨ajOKw hs (ajKwi (ajKc rfl)), by omega, rfl, c7 a ha⟩
  · obtain ⟨rfl, _⟩ := c5
    have e : ajLen h 322 = 960 := ajLenC rfl
    rw [e]
    exact ⟨ajOKw hs (ajKwi (ajKc rfl)), by omega, rfl, c7 a ha⟩
theorem sb_32 {m : Nat} (h : m < 256) : ((nI m).toInt8.toInt32 = 32) = (m = 32) := (by decide +kernel : ∀ m < 256, ((nI m).toInt8.toInt32 = 32) = (m = 32) ) m h
theorem sb_255 {m : Nat} (h : m < 256) : (nI m).toInt8.toInt32 &&& 255 = nI m := sc_k8 m h
theorem sb_dig {m : Nat} (h : m < 256) : (¬ (nI m).toInt8.toInt32 < 48 ∧ ¬ 57 < (nI m).toInt8.toInt32) ↔ (48 ≤ m ∧ m ≤ 57) := (by decide +kernel : ∀ m < 256, (¬ (nI m).toInt8.toInt32 < 48 ∧ ¬ 57 < (nI m).toInt8.toInt32) ↔ (48 ≤ m ∧ m ≤ 57)) m h
theorem SC_10 {h h' : ajH} (c : SC h) (f : FR h h' P10) : SC h' := SC_FR c f (fun o j ho => by unfold P10; omega)
def LT (l : Nat → Int32) (h : ajH) : Prop := ajI h 324 118 = l 0 ∧ ajI h 324 100 = l 1 ∧ ajI h 324 111 = l 2 ∧ ajI h 324 104 = l 3 ∧ ajI h 324 119 = l 4 ∧ ajI h 324 116 = l 5
theorem LT_FR {l : Nat → Int32} {h h' : ajH} {P : Nat → Nat → Prop} (c : LT l h) (f : FR h h' P) (p : ∀ j, ¬ P 324 j) : LT l h' :=
  ⟨(FR_I f (p _)).trans c.1, (FR_I f (p _)).trans c.2.1, (FR_I f (p _)).trans c.2.2.1, (FR_I f (p _)).trans c.2.2.2.1, (FR_I f (p _)).trans c.2.2.2.2.1, (FR_I f (p _)).trans c.2.2.2.2.2⟩
theorem LT_10 {l : Nat → Int32} {h h' : ajH} (c : LT l h) (f : FR h h' P10) : LT l h' := LT_FR c f (fun j => by unfold P10; omega)
theorem P10a : P10 320 10 := ⟨rfl, Or.inl rfl⟩
theorem P10f : P10 320 11 := ⟨rfl, Or.inr (Or.inl rfl)⟩
theorem P10d : P10 320 12 := ⟨rfl, Or.inr (Or.inr rfl)⟩
theorem S150 {d : Nat} {h : ajH} {Q : Option Value → ajH → Prop} {B : Nat → Nat} {L t b a : Nat} (hs : ajShp h) (ct : MT B L t b h) (ha : ajI h 320 10 = nI a) (hl : a ≤ L) (H : Q (some (.int (tCh B L (tSk B L a)))) (ajSI h 320 10 (nI (tSk B L a)))) : ajEv d 150 0 [.ref 320] [] h Q := by
  have c2 := ct.2.2.2.1
  have c3 := ct.2.2.1
  have cB := ct.2.2.2.2.2.1
  generalize hn : L - a = n
  induction n generalizing a h with
  | zero =>
    rw [tSk_end (by omega), ajSI_self h 320 10 ha, tCh_end (by omega)] at H
    refine W150_0 hs ?_
    rw [c3, ha, if_pos (by rw [sr_le (by omega) (by omega)]; omega)]
    refine W150_43 hs ?_
    rw [c3, ha, if_pos (by rw [sr_le (by omega) (by omega)]; omega)]
    exact H
  | succ n ih =>
    have hlt : a < L := by omega
    have hb := cB a
    have hok := MT_OK hs ct hlt
    refine W150_0 hs ?_
    rw [c3, ha, if_neg (by rw [sr_le (by omega) (by omega)]; omega), hok.2.2.1, hok.2.2.2]
    refine ⟨hok.1, hok.2.1, ?_⟩
    by_cases h32 : B a = 32
    · rw [if_neg (fun z => z (by rw [sb_32 hb]; exact h32))]
      intro h1 e1
      subst e1
      rw [tSk_step hlt h32] at H
      rw [nI_1]
      have f1 : FR h (ajSI h 320 10 (nI (a + 1))) P10 := FR_SI h P10a
      refine ih (a := a + 1) hs (MT_10 ct f1) rfl (by omega) ?_ c3 (by omega)
      rw [ajSI_SI]
      exact H
    · rw [if_pos (by rw [sb_32 hb]; exact h32)]
      refine W150_43 hs ?_
      rw [c3, ha, if_neg (by rw [sr_le (by omega) (by omega)]; omega), hok.2.2.1, hok.2.2.2, sb_255 hb]
      refine ⟨hok.1, hok.2.1, ?_⟩
      rw [tSk_stop hlt h32, ajSI_self h 320 10 ha, tCh_in hlt] at H
      exact H
theorem S158 {d : Nat} {h : ajH} {Q : Option Value → ajH → Prop} {B : Nat → Nat} {L t b a : Nat} (hs : ajShp h) (ct : MT B L t b h) (ha : ajI h 320 10 = nI a) (hl : a ≤ L) (H : Q (some (.int (if a < L ∧ 48 ≤ B a ∧ B a ≤ 57 then 1 else 0))) h) : ajEv d 158 0 [.ref 320] [] h Q := by
  have c2 := ct.2.2.2.1
  have c3 := ct.2.2.1
  have hb := ct.2.2.2.2.2.1 a
  refine W158_0 hs ?_
  rw [c3, ha]
  by_cases hlt : a < L
  · have hok := MT_OK hs ct hlt
    have hd := sb_dig hb
    rw [if_neg (by rw [sr_le (by omega) (by omega)]; omega), hok.2.2.1, hok.2.2.2]
    refine ⟨hok.1, hok.2.1, ?_⟩
    by_cases h1 : (nI (B a)).toInt8.toInt32 < 48
    · rw [if_pos h1]
      rw [if_neg (fun z => (hd.mpr z.2).1 h1)] at H
      exact H
    · rw [if_neg h1]
      refine ⟨hok.1, hok.2.1, ?_⟩
      by_cases h2 : 57 < (nI (B a)).toInt8.toInt32
      · rw [if_pos h2]
        rw [if_neg (fun z => (hd.mpr z.2).2 h2)] at H
        exact H
      · rw [if_neg h2]
        rw [if_pos ⟨hlt, hd.mp ⟨h1, h2⟩⟩] at H
        exact H
  · rw [if_pos (by rw [sr_le (by omega) (by omega)]; omega)]
    rw [if_neg (by omega)] at H
    exact H
theorem S151 {d a : Nat} {h : ajH} {Q : Option Value → ajH → Prop} (hs : ajShp h) (ha : ajI h 320 10 = nI a) (hf : ajI h 320 11 = -1) (H : Q (some (.int 0)) (ajSI h 320 11 (nI a))) : ajEv d 151 0 [.ref 320] [] h Q := by
  refine W151_0 hs ?_
  rw [hf, if_neg (fun z => z rfl)]
  rintro _ rfl
  rw [ha]
  exact H
theorem S151f {d a : Nat} {h : ajH} {Q : Option Value → ajH → Prop} (hs : ajShp h) (hf : ajI h 320 11 = nI a) (ha : a < 2147483648) (H : Q (some (.int 0)) h) : ajEv d 151 0 [.ref 320] [] h Q := by
  refine W151_0 hs ?_
  rw [hf, if_pos (by rw [sr_neg1 ha]; exact fun z => z)]
  exact H
theorem S163 {d : Nat} {h : ajH} {Q : Option Value → ajH → Prop} {B : Nat → Nat} {L t b a : Nat} {x : Int32} (hs : ajShp h) (ct : MT B L t b h) (ha : ajI h 320 10 = nI a) (hl : a ≤ L) (hf : ajI h 320 11 = -1) (hx : ¬ x = -1)
    (H1 : tCh B L (tSk B L a) = x → tSk B L a < L → Q (some (.int 1)) (ajSI h 320 10 (nI (tSk B L a + 1)))) (H0 : ¬ tCh B L (tSk B L a) = x → Q (some (.int 0)) (ajSI (ajSI h 320 10 (nI (tSk B L a))) 320 11 (nI (tSk B L a)))) : ajEv (d + 1) 163 0 [.ref 320, .int x] [] h Q := by
  refine W163_0 hs ?_
  rw [hf, if_neg (fun z => z rfl)]
  refine S150 hs ct ha hl ?_
  intro s1
  refine ⟨_, rfl, ?_⟩
  by_cases e : tCh B L (tSk B L a) = x
  · rw [if_pos e]
    rintro _ rfl
    have e2 : ajSI (ajSI h 320 10 (nI (tSk B L a))) 320 10 (ajI (ajSI h 320 10 (nI (tSk B L a))) 320 10 + 1) = ajSI h 320 10 (nI (tSk B L a + 1)) := by
      rw [ajSI_SI, ajI_SI, if_pos ⟨rfl, rfl⟩, nI_1]
    rw [e2]
    exact H1 e (tCh_lt e hx)
  · rw [if_neg e]
    refine S151 (a := tSk B L a) s1 rfl hf ?_
    intro _
    exact ⟨_, rfl, Or.inl rfl, H0 e⟩
theorem S163f {d a : Nat} {h : ajH} {Q : Option Value → ajH → Prop} {x : Int32} (hs : ajShp h) (hf : ajI h 320 11 = nI a) (ha : a < 2147483648) (H : Q (some (.int 0)) h) : ajEv (d + 1) 163 0 [.ref 320, .int x] [] h Q := by
  refine W163_0 hs ?_
  rw [hf, if_pos (by rw [sr_neg1 ha]; exact fun z => z)]
  refine S151f hs hf ha ?_
  intro _
  exact ⟨_, rfl, Or.inl rfl, H⟩
/-- the place of a sign in a row of signs, as Java tells it -/
def ixG (x : Int32) : List Nat → Nat → Int32
  | [], _ => -1
  | y :: r, i => if nI y = x then nI i else ixG x r (i + 1)
theorem ixG_lix (x : Int32) : ixG x (ajStr 1010) 0 = lix x := by
  show (if nI 118 = x then nI 0 else if nI 100 = x then nI 1 else if nI 111 = x then nI 2 else if nI 104 = x then nI 3 else if nI 119 = x then nI 4 else if nI 116 = x then nI 5 else -1) = _
  unfold lix
  simp only [eq_comm (b := x)]
  rfl
theorem S259 {d : Nat} {h : ajH} {Q : Option Value → ajH → Prop} {q i : Nat} (hs : ajShp h) (sc : SC h) (hq : sTx q) (hi : i < (ajStr q).length) (H : Q (some (.int (nI ((ajStr q).getD i 0)))) h) : ajEv (d + 3) 259 0 [.ref q, .int (nI i)] [] h Q := by
  have hl := ajStr_len (h := h) q hq
  have hy := ajStr_lt q hq i hi
  have e1 : ∀ y, y < 128 → ((nI y &&& (255 : Int32)).toUInt32 % 65536).toInt32 = nI y ∧ vp_nar .char (nI y) = nI y := by decide +kernel
  have e2 := e1 _ hy.1
  refine W259_0 hs (ajStr_ki q hq).1 ?_
  refine W254_0 hs (ajStr_ki q hq).1 ?_
  rw [if_neg (by decide), (sc q hq).1, if_neg (by decide)]
  intro _
  refine ⟨_, rfl, ?_⟩
  rw [if_neg (by decide)]
  refine W260_0 hs (ajStr_ki q hq).2 ?_
  refine W261_0 hs ?_
  refine W262_0 hs ?_
  rw [hl.1, if_neg (by rw [sr_lt0 (by omega)]; exact fun z => z), sl_n, if_pos (by rw [sr_lt (by omega) (by omega)]; exact hi)]
  intro _
  refine ⟨_, rfl, ?_⟩
  intro _
  refine ⟨rfl, ?_⟩
  rw [sr_in (by omega), sr_N (by omega), (sc q hq).2 i hi, e2.1]
  refine ⟨hi, e2.2, ?_⟩
  intro _
  exact ⟨_, rfl, e2.2, H⟩
theorem S162_2 {d : Nat} {h : ajH} {Q : Option Value → ajH → Prop} {q : Nat} {x : Int32} (hs : ajShp h) (sc : SC h) (hq : sTx q) : ∀ (n i : Nat), (ajStr q).length - i = n → i ≤ (ajStr q).length → Q (some (.int (if ixG x ((ajStr q).drop i) i = -1 then 0 else 1))) h → ajEv (d + 4) 162 2 [.ref q, .int x, .int (nI i)] [] h Q := by
  have hl := ajStr_len (h := h) q hq
  intro n
  induction n with
  | zero =>
    intro i h1 h2 H
    refine W162_2 hs (ajStr_ki q hq).1 ?_
    refine S250 hs sc hq ?_
    intro _
    refine ⟨_, rfl, ?_⟩
    rw [if_pos (by rw [sr_le (by omega) (by omega)]; omega)]
    rw [List.drop_of_length_le (by omega)] at H
    exact H
  | succ n ih =>
    intro i h1 h2 H
    have hi : i < (ajStr q).length := by omega
    refine W162_2 hs (ajStr_ki q hq).1 ?_
    refine S250 hs sc hq ?_
    intro _
    refine ⟨_, rfl, ?_⟩
    rw [if_neg (by rw [sr_le (by omega) (by omega)]; omega)]
    refine S259 hs sc hq hi ?_
    intro _
    refine ⟨_, rfl, ?_⟩
    rw [List.drop_eq_getElem_cons hi] at H
    unfold ixG at H
    have e : (ajStr q)[i] = (ajStr q).getD i 0 := by rw [List.getD_eq_getElem?_getD, List.getElem?_eq_getElem hi]; rfl
    rw [e] at H
    by_cases hc : nI ((ajStr q).getD i 0) = x
    · rw [if_neg (fun z => z hc)]
      rw [if_pos hc, if_neg (by rw [sr_neg1 (by omega)]; exact fun z => z)] at H
      exact H
    · rw [if_pos hc]
      rw [if_neg hc] at H
      rw [nI_1]
      exact ih (i + 1) (by omega) (by omega) H
theorem S162 {d : Nat} {h : ajH} {Q : Option Value → ajH → Prop} {q : Nat} {x : Int32} (hs : ajShp h) (sc : SC h) (hq : sTx q) (H : Q (some (.int (if ixG x (ajStr q) 0 = -1 then 0 else 1))) h) : ajEv (d + 4) 162 0 [.ref q, .int x, ajU] [] h Q := by
  refine W162_0 hs (ajStr_ki q hq).1 ?_
  exact S162_2 hs sc hq _ 0 rfl (Nat.zero_le _) H
def mPost (z : Bool) (L : Nat) (l : Nat → Int32) (D : Nat) (r : PR) (h h' : ajH) (v : Int32) : Prop := FR h h' P10 ∧ (z = true → v = 0 ∨ v = 1) ∧ (pOk r = true → ajI h' 320 10 = nI (pAt r) ∧ ajI h' 320 11 = -1 ∧ ajI h' 320 12 = nI (6 - D) ∧ v = pVa r l) ∧ (pOk r = false → ajI h' 320 11 = nI (pAt r) ∧ ∃ a', a' ≤ L ∧ ajI h' 320 10 = nI a')
theorem mPost_pre {z : Bool} {L : Nat} {l : Nat → Int32} {D : Nat} {r : PR} {h h1 h' : ajH} {v : Int32} (f : FR h h1 P10) (p : mPost z L l D r h1 h' v) : mPost z L l D r h h' v := ⟨FR_trans f p.1, p.2⟩
def mSpec (z : Bool) (mi : Nat) (ps : List Value) (K : Nat) (B : Nat → Nat) (L D : Nat) (p : Nat → PR) : Prop :=
  ∀ (d : Nat) (h : ajH) (Q : Option Value → ajH → Prop) (a t b : Nat) (l : Nat → Int32), K ≤ d → ajShp h → MT B L t b h → SC h → LT l h → ajI h 320 10 = nI a → a ≤ L → ajI h 320 11 = -1 → ajI h 320 12 = nI (6 - D) →
    (∀ h' v, mPost z L l D (p a) h h' v → Q (some (.int v)) h') → ajEv d mi 0 ps [] h Q
/-- a failure laid at a, where the reading stands -/
theorem mPost_F {z : Bool} {L : Nat} {l : Nat → Int32} {D a : Nat} {h : ajH} {v : Int32} (hv : z = true → v = 0 ∨ v = 1) (hl : a ≤ L) (ha : ajI h 320 10 = nI a) : mPost z L l D (pF a) h (ajSI h 320 11 (nI a)) v :=
  ⟨FR_SI h P10f, hv, fun y => by (cases y), fun _ => ⟨rfl, a, hl, ha⟩⟩
theorem S170 {d : Nat} {h : ajH} {Q : Option Value → ajH → Prop} {a D : Nat} (hs : ajShp h) (ha : ajI h 320 10 = nI a) (hf : ajI h 320 11 = -1) (hd : ajI h 320 12 = nI (6 - D)) (hD : D ≤ 6)
    (H1 : ∀ E, D = E + 1 → Q (some (.int 1)) (ajSI (ajSI h 320 12 (nI (6 - E))) 320 10 (nI (a + 1)))) (H0 : D = 0 → Q (some (.int 0)) (ajSI h 320 11 (nI a))) : ajEv (d + 1) 170 0 [.ref 320] [] h Q := by
  refine W170_0 hs ?_
  rw [hd]
  cases D with
  | zero =>
    rw [if_neg (by decide)]
    refine S151 hs ha hf ?_
    intro _
    exact ⟨_, rfl, Or.inl rfl, H0 rfl⟩
  | succ E =>
    rw [if_pos (by rw [sl_6, sr_eq (by omega) (by omega)]; omega)]
    rintro _ rfl _ rfl
    have e : nI (6 - (E + 1)) + 1 = nI (6 - E) := by rw [nI_1]; congr 1; omega
    rw [e, ajI_SI, if_neg (by omega), ha, nI_1]
    exact H1 E rfl
theorem lix_ex {x : Int32} (h : ¬ lix x = -1) : (x = nI 118 ∧ lix x = nI 0) ∨ (x = nI 100 ∧ lix x = nI 1) ∨ (x = nI 111 ∧ lix x = nI 2) ∨ (x = nI 104 ∧ lix x = nI 3) ∨ (x = nI 119 ∧ lix x = nI 4) ∨ (x = nI 116 ∧ lix x = nI 5) := by
  unfold lix at h ⊢
  by_cases h1 : x = 118
  · subst h1; exact Or.inl ⟨rfl, rfl⟩
  by_cases h2 : x = 100
  · subst h2; exact Or.inr (Or.inl ⟨rfl, rfl⟩)
  by_cases h3 : x = 111
  · subst h3; exact Or.inr (Or.inr (Or.inl ⟨rfl, rfl⟩))
  by_cases h4 : x = 104
  · subst h4; exact Or.inr (Or.inr (Or.inr (Or.inl ⟨rfl, rfl⟩)))
  by_cases h5 : x = 119
  · subst h5; exact Or.inr (Or.inr (Or.inr (Or.inr (Or.inl ⟨rfl, rfl⟩))))
  by_cases h6 : x = 116
  · subst h6; exact Or.inr (Or.inr (Or.inr (Or.inr (Or.inr ⟨rfl, rfl⟩))))
  rw [if_neg h1, if_neg h2, if_neg h3, if_neg h4, if_neg h5, if_neg h6] at h
  exact absurd rfl h
theorem lix_val {l : Nat → Int32} {h : ajH} {x : Int32} (lt : LT l h) (hx : ¬ lix x = -1) : ajIn x 128 ∧ ajI h 324 x.toNatClampNeg = l (lix x).toNatClampNeg := by
  obtain ⟨l0, l1, l2, l3, l4, l5⟩ := lt
  rcases lix_ex hx with ⟨e1, e2⟩ | ⟨e1, e2⟩ | ⟨e1, e2⟩ | ⟨e1, e2⟩ | ⟨e1, e2⟩ | ⟨e1, e2⟩ <;> rw [e2, e1, sr_in (by omega), sr_N (by omega), sr_N (by omega)] <;> exact ⟨by omega, by assumption⟩
theorem lix_nodig {B : Nat → Nat} {L a : Nat} (hB : ∀ k, B k < 256) (h : ¬ lix (tCh B L a) = -1) : ¬ (a < L ∧ 48 ≤ B a ∧ B a ≤ 57) := by
  have hlt := lix_lt h
  have hb := hB a
  rw [tCh_in hlt] at h
  rcases lix_ex h with ⟨e1, _⟩ | ⟨e1, _⟩ | ⟨e1, _⟩ | ⟨e1, _⟩ | ⟨e1, _⟩ | ⟨e1, _⟩ <;> rw [sr_eq (by omega) (by omega)] at e1 <;> omega
theorem S169_90 {B : Nat → Nat} {L D t b d : Nat} {l : Nat → Int32} : ∀ n i a v (h : ajH) (Q : Option Value → ajH → Prop) (u1 : Value), i + n = 4 → ajShp h → MT B L t b h → ajI h 320 10 = nI a → a ≤ L → ajI h 320 11 = -1 → ajI h 320 12 = nI (6 - D) → v + 1 ≤ 10 ^ i →
    (∀ h' w, mPost false L l D (if (tNum B L n a v).1 < L ∧ 48 ≤ B (tNum B L n a v).1 ∧ B (tNum B L n a v).1 ≤ 57 then pF (tNum B L n a v).1 else (true, (tNum B L n a v).1, [nI (tNum B L n a v).2], fun _ => nI (tNum B L n a v).2)) h h' w → Q (some (.int w)) h') →
    ajEv (d + 1) 169 90 [.ref 320, u1, .int (nI v), .int (nI i)] [] h Q := by
  intro n
  induction n with
  | zero =>
    intro i a v h Q u1 h1 hs ct ha hl hf hdp hv H
    have c2 := ct.2.2.2.1
    refine W169_90 hs ?_
    refine S158 hs ct ha hl ?_
    intro _
    refine ⟨_, rfl, ?_⟩
    rw [show tNum B L 0 a v = (a, v) from rfl] at H
    by_cases hd : a < L ∧ 48 ≤ B a ∧ B a ≤ 57
    · rw [if_pos hd] at H
      rw [if_pos hd, if_neg (by decide), hf, if_neg (fun z => z rfl)]
      have e : nI i = 4 := by rw [show i = 4 by omega]; rfl
      rw [if_neg (fun z => z e)]
      refine S151 hs ha hf ?_
      intro _
      exact ⟨_, rfl, H _ 0 (mPost_F (fun z => by (cases z)) hl ha)⟩
    · rw [if_neg hd] at H
      rw [if_neg hd, if_pos rfl]
      exact H h _ ⟨FR_refl _ _, fun z => by (cases z), fun _ => ⟨ha, hf, hdp, rfl⟩, fun z => by (cases z)⟩
  | succ n ih =>
    intro i a v h Q u1 h1 hs ct ha hl hf hdp hv H
    have c2 := ct.2.2.2.1
    have hv4 : v + 1 ≤ 10000 := Nat.le_trans hv (Nat.pow_le_pow_right (by omega) (by omega : i ≤ 4))
    refine W169_90 hs ?_
    refine S158 hs ct ha hl ?_
    intro _
    refine ⟨_, rfl, ?_⟩
    by_cases hd : a < L ∧ 48 ≤ B a ∧ B a ≤ 57
    · unfold tNum at H
      rw [if_pos hd] at H
      rw [if_pos hd, if_neg (by decide), hf, if_neg (fun z => z rfl)]
      rw [if_pos (by rw [sl_4, sr_eq (by omega) (by omega)]; omega), ha]
      have hok := MT_OK hs ct hd.1
      refine ⟨hok.1, hok.2.1, ?_⟩
      rintro _ rfl
      rw [hok.2.2.1, hok.2.2.2, nI_1, nI_1, sb_small (by omega)]
      have e2 : (10 : Int32) * nI v + nI (B a) - 48 = nI (v * 10 + (B a - 48)) := by
        simp only [sl_10, sl_48, sr_mul, sr_add]
        rw [sr_sub (by omega)]
        congr 1
        omega
      rw [e2]
      have hv2 : v * 10 + (B a - 48) + 1 ≤ 10 ^ (i + 1) := by
        rw [Nat.pow_succ]
        omega
      have f1 : FR h (ajSI h 320 10 (nI (a + 1))) P10 := FR_SI h P10a
      refine ih (i + 1) (a + 1) _ (ajSI h 320 10 (nI (a + 1))) Q _ (by omega) hs (MT_10 ct f1) rfl (by omega) hf hdp hv2 ?_
      intro h' w p
      exact H h' w (mPost_pre f1 p)
    · have e : tNum B L (n + 1) a v = (a, v) := by unfold tNum; rw [if_neg hd]
      rw [e, if_neg hd] at H
      rw [if_neg hd, if_pos rfl]
      exact H h _ ⟨FR_refl _ _, fun z => by (cases z), fun _ => ⟨ha, hf, hdp, rfl⟩, fun z => by (cases z)⟩
def m4 : List Value := [.ref 320, ajU, ajU, ajU]
def m5 : List Value := [.ref 320, ajU, ajU, ajU, ajU]
theorem S169 {B : Nat → Nat} {L D : Nat} (hD : D ≤ 6) (hS : ∀ E, D = E + 1 → mSpec false 167 m5 (7 + 3 * E) B L E (pSum B L E)) : mSpec false 169 m4 (5 + 3 * D) B L D (pAtom B L (pInn B L D)) := by
  intro d h Q a t b l hd hs ct sc lt ha hl hf hdp H
  obtain ⟨d, rfl⟩ : ∃ e, d = e + 5 := ⟨d - 5, by omega⟩
  have c2 := ct.2.2.2.1
  have cB := ct.2.2.2.2.2.1
  have h7 := tSk_le B hl
  have h6 := tSk_ge B L a
  refine W169_0 hs ?_
  refine S150 hs ct ha hl ?_
  intro s1
  refine ⟨_, rfl, ?_⟩
  have f1 : FR h (ajSI h 320 10 (nI (tSk B L a))) P10 := FR_SI h P10a
  have ct1 := MT_10 ct f1
  have sc1 := SC_10 sc f1
  have lt1 := LT_10 lt f1
  have ha1 : ajI (ajSI h 320 10 (nI (tSk B L a))) 320 10 = nI (tSk B L a) := rfl
  have hf1 : ajI (ajSI h 320 10 (nI (tSk B L a))) 320 11 = -1 := hf
  have hd1 : ajI (ajSI h 320 10 (nI (tSk B L a))) 320 12 = nI (6 - D) := hdp
  have H : ∀ h' v, mPost false L l D (pAtom B L (pInn B L D) a) (ajSI h 320 10 (nI (tSk B L a))) h' v → Q (some (.int v)) h' := fun h' v p => H h' v (mPost_pre f1 p)
  clear hs ct sc lt ha hf hdp f1
  generalize ajSI h 320 10 (nI (tSk B L a)) = h1 at *
  refine S162 s1 sc1 (Or.inl rfl) ?_
  intro _
  refine ⟨_, rfl, ?_⟩
  rw [ixG_lix]
  unfold pAtom at H
  by_cases hlx : lix (tCh B L (tSk B L a)) = -1
  · rw [if_pos hlx, if_pos rfl]
    by_cases hdg : tSk B L a < L ∧ 48 ≤ B (tSk B L a) ∧ B (tSk B L a) ≤ 57
    · rw [if_pos hdg] at H
      have e91 : ¬ tCh B L (tSk B L a) = 91 := by
        rw [tCh_in hdg.1, sl_91, sr_eq (by omega) (by omega)]
        omega
      rw [if_pos e91]
      refine S158 s1 ct1 ha1 h7 ?_
      intro _
      refine ⟨_, rfl, ?_⟩
      rw [if_pos hdg, if_pos (by decide)]
      exact S169_90 4 0 (tSk B L a) 0 h1 Q _ (by omega) s1 ct1 ha1 h7 hf1 hd1 (by decide) H
    · rw [if_neg hdg, if_neg (fun z => z hlx)] at H
      by_cases e91 : tCh B L (tSk B L a) = 91
      · rw [if_neg (fun z => z e91)]
        rw [if_pos e91] at H
        have hlt := tCh_lt e91 (by decide)
        refine S170 s1 ha1 hf1 hd1 hD ?_ ?_
        · intro E hE s2
          subst hE
          refine ⟨_, rfl, ?_⟩
          rw [if_pos (by decide)]
          have f2 : FR h1 (ajSI (ajSI h1 320 12 (nI (6 - E))) 320 10 (nI (tSk B L a + 1))) P10 := FR_trans (FR_SI h1 P10d) (FR_SI _ P10a)
          have hg := pSum_gd (B := B) (L := L) E (tSk B L a + 1) (by omega)
          refine hS E rfl (d + 4) _ _ (tSk B L a + 1) t b l (by omega) s2 (MT_10 ct1 f2) (SC_10 sc1 f2) (LT_10 lt1 f2) rfl (by omega) hf1 rfl ?_
          intro h3 v3 p3 s3
          refine ⟨_, rfl, ?_⟩
          dsimp only [pInn] at H
          have f3 := FR_trans f2 p3.1
          generalize pSum B L E (tSk B L a + 1) = r at H p3 hg ⊢
          cases hok : pOk r with
          | false =>
            rw [hok, if_neg (by decide)] at H
            have q3 := p3.2.2.2 hok
            have hr := hg.1
            refine S163f s3 q3.1 (by omega) ?_
            intro _
            refine ⟨_, rfl, ?_⟩
            rw [if_neg (by decide)]
            exact H h3 0 ⟨f3, fun z => by (cases z), fun z => by (cases z), fun _ => q3⟩
          | true =>
            rw [hok, if_pos rfl] at H
            have q3 := p3.2.2.1 hok
            have hr := hg.1
            have h8 := tSk_le B hg.1
            refine S163 s3 (MT_10 ct1 f3) q3.1 hg.1 q3.2.1 (by decide) ?_ ?_
            · intro e4 l4 s4
              refine ⟨_, rfl, ?_⟩
              rw [if_pos (by decide)]
              rw [if_pos e4] at H
              rintro _ rfl
              refine H _ v3 ⟨FR_trans (FR_trans f3 (FR_SI _ P10a)) (FR_SI _ P10d), fun z => by (cases z), fun _ => ⟨rfl, q3.2.1, ?_, q3.2.2.2⟩, fun z => by (cases z)⟩
              rw [ajI_SI, if_pos ⟨rfl, rfl⟩, ajI_SI, if_neg (by omega), q3.2.2.1, sl_1, sr_sub (by omega)]
              exact congrArg nI (by omega)
            · intro e4 s4
              refine ⟨_, rfl, ?_⟩
              rw [if_neg (by decide)]
              rw [if_neg e4] at H
              exact H _ 0 (mPost_pre (FR_trans f3 (FR_SI _ P10a)) (mPost_F (fun z => by (cases z)) h8 rfl))
        · intro hE s2
          subst hE
          refine ⟨_, rfl, ?_⟩
          rw [if_neg (by decide)]
          exact H _ 0 (mPost_F (fun z => by (cases z)) h7 ha1)
      · rw [if_pos e91]
        rw [if_neg e91] at H
        refine S158 s1 ct1 ha1 h7 ?_
        intro _
        refine ⟨_, rfl, ?_⟩
        rw [if_neg hdg, if_neg (by decide)]
        refine S151 s1 ha1 hf1 ?_
        intro s2
        refine ⟨_, rfl, ?_⟩
        refine W169_90 s2 ?_
        refine S158 (a := tSk B L a) s2 (MT_10 ct1 (FR_SI _ P10f)) ha1 h7 ?_
        intro _
        refine ⟨_, rfl, ?_⟩
        rw [if_neg hdg, if_pos rfl]
        exact H _ 0 (mPost_F (fun z => by (cases z)) h7 ha1)
  · rw [if_neg hlx, if_neg (by decide)]
    rw [if_neg (lix_nodig cB hlx), if_pos hlx] at H
    rintro _ rfl
    have f2 : FR h1 (ajSI h1 320 10 (ajI h1 320 10 + 1)) P10 := FR_SI _ P10a
    have hv := lix_val (LT_10 lt1 f2) hlx
    refine ⟨hv.1, ?_⟩
    rw [hv.2]
    refine H _ _ ⟨f2, fun z => by (cases z), fun _ => ⟨?_, hf1, hd1, rfl⟩, fun z => by (cases z)⟩
    rw [ajI_SI, if_pos ⟨rfl, rfl⟩, ha1, nI_1]; rfl
