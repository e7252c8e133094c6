/-! Which spokes may be off. -/
def hldF (E : EV) (m : Int32) : Nat → Nat → Bool
  | 0, _ => true
  | f + 1, b => if ov E m b = 0 then hldF E m f (b + 1) else false
def spF (E : EV) (m : Int32) : Nat → Nat → Int32 → Int32
  | 0, _, best => best
  | f + 1, k, best => if (nI k &&& (m ^^^ -1) = 0 ∧ (best = -1 ∨ bcF best < bcF (nI k)) ∧ hldF E (m &&& (nI k ^^^ -1)) (eN E) 0 = true) then spF E m f (k + 1) (nI k) else spF E m f (k + 1) best
noncomputable def aSpare (S : GS) : Int32 := spF (gE S) (mk (onB (gX S).1) (gz S)) (mk (onB (gX S).1) (gz S)).toNatClampNeg 0 (-1)
theorem bc_pos : ∀ k < 256, ¬ bcF (nI k) ≤ -1 := by decide +kernel
def P62 (o _j : Nat) : Prop := o = 62
def P333 (o _j : Nat) : Prop := o = 333
theorem CI_62 {S : GS} {h h' : ajH} (c : CI S h) (f : FR h h' P62) : CI S h' := CI_FR c f (fun o j z => by unfold P62 at z; unfold b1 b2 b3 b4 b5 b6 b7; omega)
theorem MI_333 {S : GS} {h h' : ajH} (c : MI S h) (f : FR h h' P333) : MI S h' := MI_FR8 c f (fun o j z => by unfold P333 at z; unfold d1 d2 d3 d4 d5 d6 d7; omega)
theorem S103_2 {S : GS} {d : Nat} {m : Int32} (vd : GVd S) : ∀ (f b : Nat) (h : ajH) (Q : Option Value → ajH → Prop), b + f = gz S → ajShp h → CI S h →
    (∀ h', FR h h' P62 → CI S h' → Q (some (.int (flg (hldF (gE S) m f b)))) h') → ajEv (d + 3) 103 2 [.ref 1, .int m, .int (nI b)] [] h Q := by
  have z8 := vd.z8
  intro f
  induction f with
  | zero =>
    intro b h Q hb hs c H
    refine W103_2 hs ?_
    rw [c.2.1.1, if_pos (by rw [sr_le (by omega) (by omega)]; omega)]
    exact H h (FR_refl _ _) c
  | succ f ih =>
    intro b h Q hb hs c H
    refine W103_2 hs ?_
    rw [c.2.1.1, if_neg (by rw [sr_le (by omega) (by omega)]; omega)]
    refine S67 (E := gE S) (b := b) (ajKc rfl) (ajKc rfl) (by omega) hs (CI_CE c.2.1 vd (by omega)) (show b < gz S by omega) ?_
    intro h1 f1 x1 s1
    refine ⟨_, rfl, ?_⟩
    have f1' : FR h h1 P62 := FR_mono f1 (fun o j z => z)
    have c1 := CI_62 c f1'
    have es : hldF (gE S) m (f + 1) b = if ov (gE S) m b = 0 then hldF (gE S) m f (b + 1) else false := rfl
    rw [es] at H
    by_cases y : ov (gE S) m b = 0
    · rw [if_pos y, nI_1]
      rw [if_pos y] at H
      exact ih (b + 1) h1 Q (by omega) s1 c1 (fun h' g c' => H h' (FR_trans f1' g) c')
    · rw [if_neg y]
      rw [if_neg y] at H
      exact H h1 f1' c1
theorem S103 {S : GS} {d : Nat} {m : Int32} {h : ajH} {Q : Option Value → ajH → Prop} (hs : ajShp h) (c : CI S h) (vd : GVd S)
    (H : ∀ h', FR h h' P62 → CI S h' → Q (some (.int (flg (hldF (gE S) m (gz S) 0)))) h') : ajEv (d + 3) 103 0 [.ref 1, .int m, ajU] [] h Q := by
  refine W103_0 hs ?_
  exact S103_2 vd (gz S) 0 h Q (by omega) hs c H
theorem S102_6 {S : GS} {d M : Nat} {m : Int32} (vd : GVd S) (em : m = mk (onB (gX S).1) (gz S)) (eM : m = nI M) (hM : M < 256) : ∀ (f k : Nat) (best : Int32) (h : ajH) (Q : Option Value → ajH → Prop) (v1 : Int32) (u4 : Value), k + f = M → ajShp h → CI S h →
    (best = -1 ∧ v1 = -1 ∨ ¬ best = -1 ∧ v1 = bcF best) → (∀ h', FR h h' P62 → CI S h' → Q (some (.int (spF (gE S) m f k best))) h') → ajEv (d + 4) 102 6 [.ref 1, .int v1, .int best, .int (nI k), u4] [] h Q := by
  intro f
  induction f with
  | zero =>
    intro k best h Q v1 u4 hk hs c hv H
    refine W102_6 hs ?_
    rw [c.2.2.2.1.1.1.1, ← em, eM, if_pos (by rw [sr_le (by omega) (by omega)]; omega)]
    exact H h (FR_refl _ _) c
  | succ f ih =>
    intro k best h Q v1 u4 hk hs c hv H
    refine W102_6 hs ?_
    rw [c.2.2.2.1.1.1.1, ← em, if_neg (by rw [eM, sr_le (by omega) (by omega)]; omega)]
    refine S258 hs ?_
    intro s1
    refine ⟨_, rfl, ?_⟩
    have es : spF (gE S) m (f + 1) k best = if (nI k &&& (m ^^^ -1) = 0 ∧ (best = -1 ∨ bcF best < bcF (nI k)) ∧ hldF (gE S) (m &&& (nI k ^^^ -1)) (gz S) 0 = true) then spF (gE S) m f (k + 1) (nI k) else spF (gE S) m f (k + 1) best := rfl
    rw [es] at H
    have hq : (best = -1 ∨ bcF best < bcF (nI k)) ↔ ¬ bcF (nI k) ≤ v1 := by
      rcases hv with ⟨a, b⟩ | ⟨a, b⟩
      · rw [b]; exact ⟨fun _ => bc_pos k (by omega), fun _ => Or.inl a⟩
      · rw [b]
        constructor
        · rintro (z | z)
          · exact absurd z a
          · exact fa_nle z
        · intro z
          by_cases y : bcF best < bcF (nI k)
          · exact Or.inr y
          · exact absurd (Int32.not_lt.mp y) z
    rw [c.2.2.2.1.1.1.1, ← em]
    have skip : ∀ h1 u4, FR h h1 P62 → ajShp h1 → CI S h1 → ¬ (nI k &&& (m ^^^ -1) = 0 ∧ (best = -1 ∨ bcF best < bcF (nI k)) ∧ hldF (gE S) (m &&& (nI k ^^^ -1)) (gz S) 0 = true) → ajEv (d + 4) 102 6 [.ref 1, .int v1, .int best, .int (nI (k + 1)), u4] [] h1 Q := by
      intro h1 u4 f1 s1 c1 z
      rw [if_neg z] at H
      exact ih (k + 1) best h1 Q v1 u4 (by omega) s1 c1 hv (fun h' g c' => H h' (FR_trans f1 g) c')
    rw [nI_1]
    by_cases y1 : nI k &&& (m ^^^ -1) = 0
    · rw [if_neg (fun z => z y1)]
      by_cases y2 : bcF (nI k) ≤ v1
      · rw [if_pos y2]
        exact skip h _ (FR_refl _ _) s1 c (fun z => (hq.mp z.2.1) y2)
      · rw [if_neg y2]
        refine S103 s1 c vd ?_
        intro h1 f1 c1 s2
        refine ⟨_, rfl, ?_⟩
        cases eh : hldF (gE S) (m &&& (nI k ^^^ -1)) (gz S) 0 with
        | false =>
          rw [if_pos (show flg false = 0 from rfl)]
          exact skip h1 _ f1 s2 c1 (fun z => by rw [eh] at z; cases z.2.2)
        | true =>
          rw [if_neg (by decide)]
          rw [if_pos ⟨y1, hq.mpr y2, eh⟩] at H
          refine ih (k + 1) (nI k) h1 Q _ _ (by omega) s2 c1 (Or.inr ⟨fun z => ?_, rfl⟩) (fun h' g c' => H h' (FR_trans f1 g) c')
          exact bc_pos k (by omega) (by
            have : k < 256 := by omega
            have q : ∀ k < 256, ¬ nI k = -1 := by decide +kernel
            exact absurd z (q k this))
    · rw [if_pos y1]
      exact skip h _ (FR_refl _ _) s1 c (fun z => y1 z.1)
theorem S102 {S : GS} {d : Nat} {h : ajH} {Q : Option Value → ajH → Prop} (hs : ajShp h) (c : CI S h) (vd : GVd S)
    (H : ∀ h', FR h h' P62 → CI S h' → Q (some (.int (aSpare S))) h') : ajEv (d + 4) 102 0 [.ref 1, ajU, ajU, ajU, ajU] [] h Q := by
  obtain ⟨M, hM, eM⟩ := mk_lt (onB (gX S).1) (gz S) vd.z8
  have h2 : 2 ^ gz S ≤ 2 ^ 8 := Nat.pow_le_pow_right (by omega) vd.z8
  unfold aSpare at H
  generalize em : mk (onB (gX S).1) (gz S) = m at eM H
  have eN : m.toNatClampNeg = M := by rw [eM]; exact sr_N (by omega)
  rw [eN] at H
  refine W102_0 hs ?_
  exact S102_6 vd em.symm eM (by omega) M 0 (-1) h Q (-1) _ (by omega) hs c (Or.inl ⟨rfl, rfl⟩) H
theorem S221_2 {S : GS} {d : Nat} {m : Int32} (vd : GVd S) : ∀ (f b : Nat) (h : ajH) (Q : Option Value → ajH → Prop), b + f = gz S → ajShp h → MI S h →
    (∀ h', FR h h' P333 → MI S h' → Q (some (.int (flg (hldF (gE S) m f b)))) h') → ajEv (d + 4) 221 2 [.ref 320, .int m, .int (nI b)] [] h Q := by
  have z8 := vd.z8
  intro f
  induction f with
  | zero =>
    intro b h Q hb hs c H
    refine W221_2 hs ?_
    rw [c.2.1.1, if_pos (by rw [sr_le (by omega) (by omega)]; omega)]
    exact H h (FR_refl _ _) c
  | succ f ih =>
    intro b h Q hb hs c H
    refine W221_2 hs ?_
    rw [c.2.1.1, if_neg (by rw [sr_le (by omega) (by omega)]; omega)]
    refine S191 (E := gE S) (b := b) hs (MI_ME c.2.1 vd (by omega)) (show b < gz S by omega) ?_
    intro h1 f1 x1 s1
    refine ⟨_, rfl, ?_⟩
    have f1' : FR h h1 P333 := FR_mono f1 (fun o j z => z)
    have c1 := MI_333 c f1'
    have es : hldF (gE S) m (f + 1) b = if ov (gE S) m b = 0 then hldF (gE S) m f (b + 1) else false := rfl
    rw [es] at H
    by_cases y : ov (gE S) m b = 0
    · rw [if_pos y, nI_1]
      rw [if_pos y] at H
      exact ih (b + 1) h1 Q (by omega) s1 c1 (fun h' g c' => H h' (FR_trans f1' g) c')
    · rw [if_neg y]
      rw [if_neg y] at H
      exact H h1 f1' c1
theorem S221 {S : GS} {d : Nat} {m : Int32} {h : ajH} {Q : Option Value → ajH → Prop} (hs : ajShp h) (c : MI S h) (vd : GVd S)
    (H : ∀ h', FR h h' P333 → MI S h' → Q (some (.int (flg (hldF (gE S) m (gz S) 0)))) h') : ajEv (d + 4) 221 0 [.ref 320, .int m, ajU] [] h Q := by
  refine W221_0 hs ?_
  exact S221_2 vd (gz S) 0 h Q (by omega) hs c H
theorem S220_28 {S : GS} {d M : Nat} {m : Int32} (vd : GVd S) (eM : m = nI M) (hM : M < 256) : ∀ (f k : Nat) (best : Int32) (h : ajH) (Q : Option Value → ajH → Prop), k + f = M → ajShp h → MI S h →
    (∀ h', FR h h' P333 → MI S h' → Q (some (.int (spF (gE S) m f k best))) h') → ajEv (d + 5) 220 28 [.ref 320, .int m, .int best, .int (nI k)] [] h Q := by
  intro f
  induction f with
  | zero =>
    intro k best h Q hk hs c H
    refine W220_28 hs ?_
    rw [eM, if_pos (by rw [sr_le (by omega) (by omega)]; omega)]
    rw [eM] at H
    exact H h (FR_refl _ _) c
  | succ f ih =>
    intro k best h Q hk hs c H
    refine W220_28 hs ?_
    rw [if_neg (by rw [eM, sr_le (by omega) (by omega)]; omega), nI_1]
    have es : spF (gE S) m (f + 1) k best = if (nI k &&& (m ^^^ -1) = 0 ∧ (best = -1 ∨ bcF best < bcF (nI k)) ∧ hldF (gE S) (m &&& (nI k ^^^ -1)) (gz S) 0 = true) then spF (gE S) m f (k + 1) (nI k) else spF (gE S) m f (k + 1) best := rfl
    rw [es] at H
    have skip : ∀ h1, FR h h1 P333 → ajShp h1 → MI S h1 → ¬ (nI k &&& (m ^^^ -1) = 0 ∧ (best = -1 ∨ bcF best < bcF (nI k)) ∧ hldF (gE S) (m &&& (nI k ^^^ -1)) (gz S) 0 = true) → ajEv (d + 5) 220 28 [.ref 320, .int m, .int best, .int (nI (k + 1))] [] h1 Q := by
      intro h1 f1 s1 c1 z
      rw [if_neg z] at H
      exact ih (k + 1) best h1 Q (by omega) s1 c1 (fun h' g c' => H h' (FR_trans f1 g) c')
    by_cases y1 : nI k &&& (m ^^^ -1) = 0
    · rw [if_neg (fun z => z y1)]
      have go : ∀ h1, h1 = h → ajShp h1 → (best = -1 ∨ bcF best < bcF (nI k)) → ajEv (d + 5) 220 60 [.ref 320, .int m, .int best, .int (nI k)] [] h1 Q := by
        rintro _ rfl s1 y2
        refine W220_60 s1 ?_
        refine S221 s1 c vd ?_
        intro h1 f1 c1 s2
        refine ⟨_, rfl, ?_⟩
        rw [nI_1]
        cases eh : hldF (gE S) (m &&& (nI k ^^^ -1)) (gz S) 0 with
        | false =>
          rw [if_pos (show flg false = 0 from rfl)]
          exact skip h1 f1 s2 c1 (fun z => by rw [eh] at z; cases z.2.2)
        | true =>
          rw [if_neg (by decide)]
          rw [if_pos ⟨y1, y2, eh⟩] at H
          exact ih (k + 1) (nI k) h1 Q (by omega) s2 c1 (fun h' g c' => H h' (FR_trans f1 g) c')
      by_cases y0 : best = -1
      · rw [if_pos y0]
        exact go h rfl hs (Or.inl y0)
      · rw [if_neg y0]
        refine S258 hs ?_
        intro s1
        refine ⟨_, rfl, ?_⟩
        refine S258 s1 ?_
        intro s2
        refine ⟨_, rfl, ?_⟩
        by_cases y2 : bcF best < bcF (nI k)
        · rw [if_pos y2]
          exact go h rfl s2 (Or.inr y2)
        · rw [if_neg y2]
          exact skip h (FR_refl _ _) s2 c (fun z => z.2.1.elim y0 y2)
    · rw [if_pos y1]
      exact skip h (FR_refl _ _) hs c (fun z => y1 z.1)
def P333t (o j : Nat) : Prop := o = 333 ∨ o = 320 ∧ j = 0
theorem S220 {S : GS} {d : Nat} {h : ajH} {Q : Option Value → ajH → Prop} (hs : ajShp h) (c : MI S h) (vd : GVd S)
    (H : ∀ h', FR h h' P333t → MI S h' → Q (some (.int (aSpare S))) h') : ajEv (d + 5) 220 0 [.ref 320, ajU, ajU, ajU] [] h Q := by
  obtain ⟨M, hM, eM⟩ := mk_lt (onB (gX S).1) (gz S) vd.z8
  have z8 := vd.z8
  have h2 : 2 ^ gz S ≤ 2 ^ 8 := Nat.pow_le_pow_right (by omega) vd.z8
  unfold aSpare at H
  have eN : (mk (onB (gX S).1) (gz S)).toNatClampNeg = M := by rw [eM]; exact sr_N (by omega)
  rw [eN] at H
  refine W220_0 hs ?_
  rintro _ rfl
  have c0 := MI_0 (x := 0) c
  have f0 : FR h (ajSI h 320 0 0) P333t := FR_SI h (by unfold P333t; omega)
  have s0 : ajShp (ajSI h 320 0 0) := hs
  generalize ajSI h 320 0 0 = h0 at c0 f0 s0
  have H0 := H h0 f0 c0
  rw [c0.2.1.1]
  by_cases hz : 0 < gz S
  · rw [if_pos (fun z => by have := (sr_eq (b := 0) (by omega) (by omega)).mp z; omega)]
    refine S181 (E := gE S) (Or.inl rfl) s0 (MI_ME c0.2.1 vd hz) (mX0 c0.2.2.2.1).1 ?_
    intro s1
    refine ⟨_, rfl, ?_⟩
    refine S220_28 vd eM (by omega) M 0 (-1) h0 Q (by omega) s1 c0 (fun h' g c' => H h' (FR_trans f0 (FR_mono g (fun o j z => Or.inl z))) c')
  · rw [show gz S = 0 by omega, if_neg (show ¬ ¬ nI 0 = 0 from fun z => z rfl)]
    rw [show gz S = 0 by omega] at eM hM
    have : M = 0 := by omega
    rw [this] at H0
    exact H0
