/-! What each bears, on both sides. -/
abbrev EV : Type := Nat × Int32 × (Nat → Int32) × (Nat → Int32) × (Int32 → Int32 → Int32 → Int32 → Int32 → Int32 → Int32)
def eN (E : EV) : Nat := E.1
def eL (E : EV) : Int32 := E.2.1
def eS (E : EV) : Nat → Int32 := E.2.2.1
def eO (E : EV) : Nat → Int32 := E.2.2.2.1
def eV (E : EV) : Int32 → Int32 → Int32 → Int32 → Int32 → Int32 → Int32 := E.2.2.2.2
/-- the wheel as the class has it (q), as the reference has it -/
def CE (h : ajH) (q : Nat) (E : EV) : Prop := ajI h q 0 = nI (eN E) ∧ 1 ≤ eN E ∧ eN E ≤ 8 ∧ ajI h (q + 1) 0 = eL E ∧ ∀ k, k < eN E → ajI h (q + 3) k = eS E k ∧ ajI h (q + 5) k = eO E k
def ME (h : ajH) (E : EV) : Prop := ajI h 320 24 = nI (eN E) ∧ 1 ≤ eN E ∧ eN E ≤ 8 ∧ ajI h 325 0 = eL E ∧ ∀ k, k < eN E → ajI h 327 (3 * k) = eS E k ∧ ajI h 327 (3 * k + 2) = eO E k
theorem CE_FR {h h' : ajH} {P : Nat → Nat → Prop} {q : Nat} {E : EV} (c : CE h q E) (f : FR h h' P) (p0 : ¬ P q 0) (p : ∀ j, ¬ P (q + 1) j ∧ ¬ P (q + 3) j ∧ ¬ P (q + 5) j) : CE h' q E :=
  ⟨(FR_I f p0).trans c.1, c.2.1, c.2.2.1, (FR_I f (p 0).1).trans c.2.2.2.1, fun k hk => ⟨(FR_I f (p k).2.1).trans (c.2.2.2.2 k hk).1, (FR_I f (p k).2.2).trans (c.2.2.2.2 k hk).2⟩⟩
theorem ME_FR {h h' : ajH} {P : Nat → Nat → Prop} {E : EV} (c : ME h E) (f : FR h h' P) (p0 : ¬ P 320 24) (p : ∀ j, ¬ P 325 j ∧ ¬ P 327 j) : ME h' E :=
  ⟨(FR_I f p0).trans c.1, c.2.1, c.2.2.1, (FR_I f (p 0).1).trans c.2.2.2.1, fun k hk => ⟨(FR_I f (p _).2).trans (c.2.2.2.2 k hk).1, (FR_I f (p _).2).trans (c.2.2.2.2 k hk).2⟩⟩
/-- the first place from s on that is there (99: none) -/
def ftf (n : Nat) (m : Int32) (s : Nat) : Nat → Nat → Nat
  | 0, _ => 99
  | f + 1, j => if hb m ((s + j) % n) = true then (s + j) % n else ftf n m s f (j + 1)
def ft (n : Nat) (m : Int32) (s : Nat) : Nat := ftf n m s n 0
def add1 (x : Int32) (t k : Nat) (w : Int32) : Int32 := if k = t then x + w else x
def w1 (E : EV) : Int32 := (eL E + 1) / 2
def w2 (E : EV) : Int32 := (eL E - w1 E + 1) / 2
def w3 (E : EV) : Int32 := eL E - w1 E - w2 E
/-- what k bears, were b the bottom and those of m on -/
def br (E : EV) (m : Int32) (b k : Nat) : Int32 := add1 (add1 (add1 0 (ft (eN E) m b) k (w1 E)) (ft (eN E) m ((b + 1) % eN E)) k (w2 E)) (ft (eN E) m ((b + eN E - 1) % eN E)) k (w3 E)
/-- those who bear too much -/
def ov (E : EV) (m : Int32) (b : Nat) : Int32 := mk (fun k => hb m k && decide (eS E k < br E m b k)) (eN E)
theorem ft_lt {n : Nat} {m : Int32} {s : Nat} (hn : 0 < n) : ∀ f j, ftf n m s f j < n ∨ ftf n m s f j = 99 := by
  intro f
  induction f with
  | zero => intro j; exact Or.inr rfl
  | succ f ih =>
    intro j
    unfold ftf
    split
    · exact Or.inl (Nat.mod_lt _ hn)
    · exact ih (j + 1)
/-! the reference -/
theorem S183_3 {E : EV} {d s : Nat} {m w : Int32} (hs8 : s < 8) : ∀ (f j : Nat) (h : ajH) (Q : Option Value → ajH → Prop) (X : Nat → Int32) (u5 : Value), j + f = eN E → ajShp h → ME h E → (∀ k, k < 8 → ajI h 333 k = X k) →
    (∀ h', FR h h' (fun o _ => o = 333) → (∀ k, k < 8 → ajI h' 333 k = add1 (X k) (ftf (eN E) m s f j) k w) → Q none h') → ajEv (d + 1) 183 3 [.ref 320, .int m, .int (nI s), .int w, .int (nI j), u5] [] h Q := by
  intro f
  induction f with
  | zero =>
    intro j h Q X u5 hj hs me hX H
    have n8 := me.2.2.1
    refine W183_3 hs ?_
    rw [me.1, if_pos (by rw [sr_le (by omega) (by omega)]; omega)]
    refine H h (FR_refl _ _) (fun k hk => ?_)
    rw [hX k hk]
    unfold ftf add1
    rw [if_neg (by omega)]
  | succ f ih =>
    intro j h Q X u5 hj hs me hX H
    have n8 := me.2.2.1
    have n1 := me.2.1
    refine W183_3 hs ?_
    rw [me.1, if_neg (by rw [sr_le (by omega) (by omega)]; omega), sr_add, sr_rem (by omega) (by omega) (by omega), nI_1]
    have hlt := Nat.mod_lt (s + j) (show 0 < eN E by omega)
    refine ⟨nI_ne0 (by omega) (by omega), ?_⟩
    refine S154 hs (by omega) ?_
    intro s1
    refine ⟨_, rfl, ?_⟩
    unfold ftf at H
    cases hm : hb m ((s + j) % eN E) with
    | true =>
      rw [hm, if_pos rfl] at H
      rw [if_pos (by decide), sr_in (by omega), sr_N (by omega)]
      refine ⟨by omega, by omega, ?_⟩
      rintro _ rfl
      refine H _ (FR_SI h rfl) (fun k hk => ?_)
      rw [ajI_SI]
      unfold add1
      by_cases e : k = (s + j) % eN E
      · rw [if_pos ⟨rfl, e⟩, if_pos e, ← e, hX k hk]
      · rw [if_neg (by omega), if_neg e, hX k hk]
    | false =>
      rw [hm, if_neg (by decide)] at H
      rw [if_neg (by decide)]
      exact ih (j + 1) h Q X _ (by omega) s1 me hX H
theorem S183 {E : EV} {d s : Nat} {m w : Int32} {h : ajH} {Q : Option Value → ajH → Prop} {X : Nat → Int32} (hs8 : s < 8) (hs : ajShp h) (me : ME h E) (hX : ∀ k, k < 8 → ajI h 333 k = X k)
    (H : ∀ h', FR h h' (fun o _ => o = 333) → (∀ k, k < 8 → ajI h' 333 k = add1 (X k) (ft (eN E) m s) k w) → Q none h') : ajEv (d + 1) 183 0 [.ref 320, .int m, .int (nI s), .int w, ajU, ajU] [] h Q := by
  refine W183_0 hs ?_
  exact S183_3 hs8 (eN E) 0 h Q X _ (by omega) hs me hX H
theorem ME_333 {h h' : ajH} {E : EV} (c : ME h E) (f : FR h h' (fun o _ => o = 333)) : ME h' E := ME_FR c f (by omega) (fun j => by omega)
theorem S182_2 {E : EV} {d b : Nat} {m : Int32} : ∀ (n i : Nat) (h : ajH) (Q : Option Value → ajH → Prop) (u4 : Value), i + n = 8 → ajShp h → ME h E → b < eN E → (∀ k, k < i → ajI h 333 k = 0) →
    (∀ h', FR h h' (fun o _ => o = 333) → (∀ k, k < 8 → ajI h' 333 k = br E m b k) → Q none h') → ajEv (d + 2) 182 2 [.ref 320, .int m, .int (nI b), .int (nI i), u4] [] h Q := by
  intro n
  induction n with
  | zero =>
    intro i h Q u4 hi hs me hb0 hX H
    have n8 := me.2.2.1
    refine W182_2 hs ?_
    rw [if_pos (by rw [sl_8, sr_le (by omega) (by omega)]; omega), me.2.2.2.1]
    refine S183 (X := fun _ => 0) (by omega) hs me (fun k hk => hX k (by omega)) ?_
    intro h1 f1 x1 s1
    have me1 := ME_333 me f1
    refine ⟨rfl, ?_⟩
    have hlt1 := Nat.mod_lt (b + 1) (show 0 < eN E by omega)
    have hlt2 := Nat.mod_lt (b + eN E - 1) (show 0 < eN E by omega)
    rw [me1.1, nI_1, sr_rem (by omega) (by omega) (by omega)]
    refine ⟨nI_ne0 (by omega) (by omega), ?_⟩
    refine S183 (by omega) s1 me1 x1 ?_
    intro h2 f2 x2 s2
    have me2 := ME_333 me1 f2
    refine ⟨rfl, ?_⟩
    rw [me2.1, sr_add, sl_1, sr_sub (by omega), sr_rem (by omega) (by omega) (by omega), me2.2.2.2.1]
    refine ⟨nI_ne0 (by omega) (by omega), ?_⟩
    refine S183 (by omega) s2 me2 x2 ?_
    intro h3 f3 x3 s3
    refine ⟨rfl, ?_⟩
    exact H h3 (FR_trans (FR_trans f1 f2) f3) x3
  | succ n ih =>
    intro i h Q u4 hi hs me hb0 hX H
    refine W182_2 hs ?_
    rw [if_neg (by rw [sl_8, sr_le (by omega) (by omega)]; omega), sr_in (by omega), sr_N (by omega), nI_1]
    refine ⟨by omega, ?_⟩
    rintro _ rfl
    have f1 : FR h (ajSI h 333 i 0) (fun o _ => o = 333) := FR_SI h rfl
    refine ih (i + 1) _ Q _ (by omega) hs (ME_333 me f1) hb0 (fun k hk => ?_) ?_
    · rw [ajI_SI]
      by_cases e : k = i
      · rw [if_pos ⟨rfl, e⟩]
      · rw [if_neg (by omega)]; exact hX k (by omega)
    · intro h' f x
      exact H h' (FR_trans f1 f) x
theorem S182 {E : EV} {d b : Nat} {m : Int32} {h : ajH} {Q : Option Value → ajH → Prop} (hs : ajShp h) (me : ME h E) (hb0 : b < eN E)
    (H : ∀ h', FR h h' (fun o _ => o = 333) → (∀ k, k < 8 → ajI h' 333 k = br E m b k) → Q none h') : ajEv (d + 2) 182 0 [.ref 320, .int m, .int (nI b), ajU, ajU] [] h Q := by
  refine W182_0 hs ?_
  exact S182_2 8 0 h Q _ (by omega) hs me hb0 (fun k hk => absurd hk (by omega)) H
theorem S192 {E : EV} {d k : Nat} {h : ajH} {Q : Option Value → ajH → Prop} (hs : ajShp h) (me : ME h E) (hk : k < eN E) (H : Q (some (.int (eS E k))) h) : ajEv d 192 0 [.ref 320, .int (nI k)] [] h Q := by
  have n8 := me.2.2.1
  refine W192_0 hs ?_
  rw [sl_3, sr_mul, sr_in (by omega), sr_N (by omega), (me.2.2.2.2 k hk).1]
  exact ⟨by omega, H⟩
theorem S191_11 {E : EV} {d : Nat} {m : Int32} {G : Nat → Int32} : ∀ (n i : Nat) (h : ajH) (Q : Option Value → ajH → Prop) (u2 : Value), i + n = eN E → ajShp h → ME h E → (∀ k, k < 8 → ajI h 333 k = G k) →
    Q (some (.int (mk (fun k => hb m k && decide (eS E k < G k)) (eN E)))) h → ajEv (d + 1) 191 11 [.ref 320, .int m, u2, .int (mk (fun k => hb m k && decide (eS E k < G k)) i), .int (nI i)] [] h Q := by
  intro n
  induction n with
  | zero =>
    intro i h Q u2 hi hs me hX H
    have n8 := me.2.2.1
    refine W191_11 hs ?_
    rw [me.1, if_pos (by rw [sr_le (by omega) (by omega)]; omega)]
    have e : i = eN E := by omega
    rw [e]; exact H
  | succ n ih =>
    intro i h Q u2 hi hs me hX H
    have n8 := me.2.2.1
    refine W191_11 hs ?_
    rw [me.1, if_neg (by rw [sr_le (by omega) (by omega)]; omega)]
    refine S154 hs (by omega) ?_
    intro s1
    refine ⟨_, rfl, ?_⟩
    have hnext : mk (fun k => hb m k && decide (eS E k < G k)) (i + 1) = mk (fun k => hb m k && decide (eS E k < G k)) i ||| (if (hb m i && decide (eS E i < G i)) = true then bt i else 0) := rfl
    have h2 := fun u => ih (i + 1) h Q u (by omega) s1 me hX H
    rw [hnext] at h2
    rw [nI_1]
    cases hm : hb m i with
    | false =>
      rw [hm, Bool.false_and, if_neg (by decide)] at h2
      rw [if_pos (by decide)]
      exact h2 _
    | true =>
      rw [hm, Bool.true_and] at h2
      rw [if_neg (by decide), sr_in (by omega), sr_N (by omega), hX i (by omega)]
      refine ⟨by omega, ?_⟩
      refine S192 s1 me (by omega) ?_
      intro s3
      refine ⟨_, rfl, ?_⟩
      by_cases hc : eS E i < G i
      · rw [decide_eq_true hc, if_pos rfl] at h2
        rw [if_neg (fun z => fa_nle hc z)]
        exact h2 _
      · rw [decide_eq_false hc, if_neg (by decide)] at h2
        rw [if_pos (fa_nlt hc)]
        exact h2 _
theorem S191 {E : EV} {d b : Nat} {m : Int32} {h : ajH} {Q : Option Value → ajH → Prop} (hs : ajShp h) (me : ME h E) (hb0 : b < eN E)
    (H : ∀ h', FR h h' (fun o _ => o = 333) → (∀ k, k < 8 → ajI h' 333 k = br E m b k) → Q (some (.int (ov E m b))) h') : ajEv (d + 3) 191 0 [.ref 320, .int m, .int (nI b), ajU, ajU] [] h Q := by
  refine W191_0 hs ?_
  refine S182 hs me hb0 ?_
  intro h1 f1 x1 s1
  refine ⟨rfl, ?_⟩
  exact S191_11 (eN E) 0 h1 Q _ (by omega) s1 (ME_333 me f1) x1 (H h1 f1 x1)
/-! the class -/
theorem S66 {d q n b : Nat} {h : ajH} {Q : Option Value → ajH → Prop} (hs : ajShp h) (hq : ajKw q 2) (e : ajI h q 0 = nI n) (hn : n ≤ 8) (hb0 : b < n) (H : Q (some (.int (nI ((b + 1) % n)))) h) : ajEv d 66 0 [.ref q, .int (nI b)] [] h Q := by
  refine W66_0 hs hq ?_
  rw [e, nI_1]
  by_cases h1 : b + 1 = n
  · rw [if_pos (by rw [sr_le (by omega) (by omega)]; omega)]
    rw [h1, Nat.mod_self] at H
    exact H
  · rw [if_neg (by rw [sr_le (by omega) (by omega)]; omega)]
    rw [Nat.mod_eq_of_lt (by omega)] at H
    exact H
theorem S70 {d q n b : Nat} {h : ajH} {Q : Option Value → ajH → Prop} (hs : ajShp h) (hq : ajKw q 2) (e : ajI h q 0 = nI n) (hn : n ≤ 8) (hb0 : b < n) (H : Q (some (.int (nI ((b + n - 1) % n)))) h) : ajEv d 70 0 [.ref q, .int (nI b)] [] h Q := by
  refine W70_0 hs hq ?_
  rw [e]
  by_cases h1 : b = 0
  · subst h1
    rw [if_pos (by decide), sl_1, sr_sub (by omega)]
    rw [Nat.zero_add, Nat.mod_eq_of_lt (by omega)] at H
    exact H
  · rw [if_neg (by rw [sl_0, sr_le (by omega) (by omega)]; omega), sl_1, sr_sub (by omega)]
    rw [show b + n - 1 = (b - 1) + n by omega, Nat.add_mod_right, Nat.mod_eq_of_lt (by omega)] at H
    exact H
theorem mod_next {a n : Nat} (hn : 0 < n) : (if n ≤ a % n + 1 then 0 else a % n + 1) = (a + 1) % n := by
  have h1 := Nat.mod_lt a hn
  rw [Nat.add_mod]
  by_cases h2 : n = 1
  · subst h2
    rw [if_pos (by omega)]
    omega
  · rw [Nat.mod_eq_of_lt (show 1 < n by omega)]
    by_cases h3 : n ≤ a % n + 1
    · rw [if_pos h3, show a % n + 1 = n by omega, Nat.mod_self]
    · rw [if_neg h3]
      exact (Nat.mod_eq_of_lt (show a % n + 1 < n by omega)).symm
def kS (q : Nat) : Prop := ajKw q 6
theorem S69_6 {E : EV} {d q v s : Nat} {m w : Int32} (hq : ajKw q 6) (hv : ajKw v 2) (hqv : ¬ q + 3 = v ∧ ¬ q + 3 = v + 1 ∧ ¬ q + 3 = v + 3 ∧ ¬ q + 3 = v + 5) (hs8 : s < 8) : ∀ (f j : Nat) (h : ajH) (Q : Option Value → ajH → Prop) (X : Nat → Int32) (u3 : Value), j + f = eN E → ajShp h → CE h v E → (∀ k, k < 8 → ajI h (q + 3) k = X k) →
    (∀ h', FR h h' (fun o _ => o = q + 3) → (∀ k, k < 8 → ajI h' (q + 3) k = add1 (X k) (ftf (eN E) m s f j) k w) → Q none h') → ajEv d 69 6 [.ref q, .ref v, .int m, u3, .int w, .int (nI ((s + j) % eN E)), .int (nI j)] [] h Q := by
  intro f
  induction f with
  | zero =>
    intro j h Q X u3 hj hs me hX H
    have n8 := me.2.2.1
    have n1 := me.2.1
    refine W69_6 hs hq hv ?_
    rw [me.1, if_pos (by rw [sr_le (by omega) (by omega)]; omega)]
    refine H h (FR_refl _ _) (fun k hk => ?_)
    rw [hX k hk]
    unfold ftf add1
    rw [if_neg (by omega)]
  | succ f ih =>
    intro j h Q X u3 hj hs me hX H
    have n8 := me.2.2.1
    have n1 := me.2.1
    have hlt := Nat.mod_lt (s + j) (show 0 < eN E by omega)
    refine W69_6 hs hq hv ?_
    rw [me.1, if_neg (by rw [sr_le (by omega) (by omega)]; omega), if_neg (by rw [sr_lt0 (by omega)]; exact fun z => z), if_neg (by rw [sl_8, sr_le (by omega) (by omega)]; omega)]
    unfold ftf at H
    cases hm : hb m ((s + j) % eN E) with
    | true =>
      rw [hm, if_pos rfl] at H
      rw [if_neg (by rw [hb_sh0 m (by omega), hm]; exact fun z => by cases z), sr_in (by omega), sr_N (by omega)]
      refine ⟨by omega, by omega, ?_⟩
      rintro _ rfl
      refine H _ (FR_SI h rfl) (fun k hk => ?_)
      rw [ajI_SI]
      unfold add1
      by_cases e : k = (s + j) % eN E
      · rw [if_pos ⟨rfl, e⟩, if_pos e, ← e, hX k hk]
      · rw [if_neg (by omega), if_neg e, hX k hk]
    | false =>
      rw [hm, if_neg (by decide)] at H
      rw [if_pos (by rw [hb_sh0 m (by omega)]; exact hm)]
      refine W69_49 hs hq hv ?_
      have e := mod_next (a := s + j) (n := eN E) (by omega)
      have h2 := fun u => ih (j + 1) h Q X u (by omega) hs me hX H
      rw [show s + (j + 1) = s + j + 1 from rfl, ← e] at h2
      rw [me.1, nI_1, nI_1]
      by_cases h3 : eN E ≤ (s + j) % eN E + 1
      · rw [if_pos h3] at h2
        rw [if_pos (by rw [sr_le (by omega) (by omega)]; exact h3)]
        exact h2 _
      · rw [if_neg h3] at h2
        rw [if_neg (by rw [sr_le (by omega) (by omega)]; exact h3)]
        exact h2 _
theorem S69 {E : EV} {d q v s : Nat} {m w : Int32} {h : ajH} {Q : Option Value → ajH → Prop} {X : Nat → Int32} (hq : ajKw q 6) (hv : ajKw v 2) (hqv : ¬ q + 3 = v ∧ ¬ q + 3 = v + 1 ∧ ¬ q + 3 = v + 3 ∧ ¬ q + 3 = v + 5) (hs8 : s < eN E) (hs : ajShp h) (me : CE h v E) (hX : ∀ k, k < 8 → ajI h (q + 3) k = X k)
    (H : ∀ h', FR h h' (fun o _ => o = q + 3) → (∀ k, k < 8 → ajI h' (q + 3) k = add1 (X k) (ft (eN E) m s) k w) → Q none h') : ajEv d 69 0 [.ref q, .ref v, .int m, .int (nI s), .int w, ajU, ajU] [] h Q := by
  have n8 := me.2.2.1
  refine W69_0 hs hq hv ?_
  have h2 := fun u => S69_6 (d := d) (m := m) (w := w) hq hv hqv (show s < 8 by omega) (eN E) 0 h Q X u (by omega) hs me hX H
  rw [Nat.add_zero, Nat.mod_eq_of_lt hs8] at h2
  exact h2 _
theorem CE_3 {h h' : ajH} {q v : Nat} {E : EV} (hqv : ¬ q + 3 = v ∧ ¬ q + 3 = v + 1 ∧ ¬ q + 3 = v + 3 ∧ ¬ q + 3 = v + 5) (c : CE h v E) (f : FR h h' (fun o _ => o = q + 3)) : CE h' v E := CE_FR c f (by omega) (fun j => by omega)
theorem S68_3 {E : EV} {d q v b : Nat} {m : Int32} (hq : ajKw q 6) (hv : ajKw v 2) (hqv : ¬ q + 3 = v ∧ ¬ q + 3 = v + 1 ∧ ¬ q + 3 = v + 3 ∧ ¬ q + 3 = v + 5) : ∀ (n i : Nat) (h : ajH) (Q : Option Value → ajH → Prop) (u5 u6 : Value), i + n = 8 → ajShp h → CE h v E → b < eN E → (∀ k, k < i → ajI h (q + 3) k = 0) →
    (∀ h', FR h h' (fun o _ => o = q + 3) → (∀ k, k < 8 → ajI h' (q + 3) k = br E m b k) → Q none h') → ajEv (d + 1) 68 3 [.ref q, .ref v, .int m, .int (nI b), .int (nI i), u5, u6] [] h Q := by
  intro n
  induction n with
  | zero =>
    intro i h Q u5 u6 hi hs me hb0 hX H
    have n8 := me.2.2.1
    refine W68_3 hs hq hv ?_
    rw [if_pos (by rw [sl_8, sr_le (by omega) (by omega)]; omega), me.2.2.2.1]
    refine S69 (X := fun _ => 0) hq hv hqv hb0 hs me (fun k hk => hX k (by omega)) ?_
    intro h1 f1 x1 s1
    have me1 := CE_3 hqv me f1
    refine ⟨rfl, ?_⟩
    have hlt1 := Nat.mod_lt (b + 1) (show 0 < eN E by omega)
    have hlt2 := Nat.mod_lt (b + eN E - 1) (show 0 < eN E by omega)
    refine S66 s1 hv me1.1 n8 hb0 ?_
    intro _
    refine ⟨_, rfl, ?_⟩
    refine S69 hq hv hqv hlt1 s1 me1 x1 ?_
    intro h2 f2 x2 s2
    have me2 := CE_3 hqv me1 f2
    refine ⟨rfl, ?_⟩
    refine S70 s2 hv me2.1 n8 hb0 ?_
    intro _
    refine ⟨_, rfl, ?_⟩
    refine S69 hq hv hqv hlt2 s2 me2 x2 ?_
    intro h3 f3 x3 s3
    refine ⟨rfl, ?_⟩
    exact H h3 (FR_trans (FR_trans f1 f2) f3) x3
  | succ n ih =>
    intro i h Q u5 u6 hi hs me hb0 hX H
    refine W68_3 hs hq hv ?_
    rw [if_neg (by rw [sl_8, sr_le (by omega) (by omega)]; omega), sr_in (by omega), sr_N (by omega), nI_1]
    refine ⟨by omega, ?_⟩
    rintro _ rfl
    have f1 : FR h (ajSI h (q + 3) i 0) (fun o _ => o = q + 3) := FR_SI h rfl
    refine ih (i + 1) _ Q _ _ (by omega) hs (CE_3 hqv me f1) hb0 (fun k hk => ?_) ?_
    · rw [ajI_SI]
      by_cases e : k = i
      · rw [if_pos ⟨rfl, e⟩]
      · rw [if_neg (by omega)]; exact hX k (by omega)
    · intro h' f x
      exact H h' (FR_trans f1 f) x
theorem S68 {E : EV} {d q v b : Nat} {m : Int32} {h : ajH} {Q : Option Value → ajH → Prop} (hq : ajKw q 6) (hv : ajKw v 2) (hqv : ¬ q + 3 = v ∧ ¬ q + 3 = v + 1 ∧ ¬ q + 3 = v + 3 ∧ ¬ q + 3 = v + 5) (hs : ajShp h) (me : CE h v E) (hb0 : b < eN E)
    (H : ∀ h', FR h h' (fun o _ => o = q + 3) → (∀ k, k < 8 → ajI h' (q + 3) k = br E m b k) → Q none h') : ajEv (d + 1) 68 0 [.ref q, .ref v, .int m, .int (nI b), ajU, ajU, ajU] [] h Q := by
  refine W68_0 hs hq hv ?_
  exact S68_3 hq hv hqv 8 0 h Q _ _ (by omega) hs me hb0 (fun k hk => absurd hk (by omega)) H
theorem S67_13 {E : EV} {d q v : Nat} {m : Int32} {G : Nat → Int32} (hq : ajKw q 6) (hv : ajKw v 2) : ∀ (n i : Nat) (h : ajH) (Q : Option Value → ajH → Prop) (u3 : Value), i + n = eN E → ajShp h → CE h v E → (∀ k, k < 8 → ajI h (q + 3) k = G k) →
    Q (some (.int (mk (fun k => hb m k && decide (eS E k < G k)) (eN E)))) h → ajEv (d + 1) 67 13 [.ref q, .ref v, .int m, u3, .int (mk (fun k => hb m k && decide (eS E k < G k)) i), .int (nI i)] [] h Q := by
  intro n
  induction n with
  | zero =>
    intro i h Q u3 hi hs me hX H
    have n8 := me.2.2.1
    refine W67_13 hs hq hv ?_
    rw [me.1, if_pos (by rw [sr_le (by omega) (by omega)]; omega)]
    have e : i = eN E := by omega
    rw [e]; exact H
  | succ n ih =>
    intro i h Q u3 hi hs me hX H
    have n8 := me.2.2.1
    refine W67_13 hs hq hv ?_
    rw [me.1, if_neg (by rw [sr_le (by omega) (by omega)]; omega), if_neg (by rw [sl_8, sr_le (by omega) (by omega)]; omega)]
    have hnext : mk (fun k => hb m k && decide (eS E k < G k)) (i + 1) = mk (fun k => hb m k && decide (eS E k < G k)) i ||| (if (hb m i && decide (eS E i < G i)) = true then bt i else 0) := rfl
    have h2 := fun u => ih (i + 1) h Q u (by omega) hs me hX H
    rw [hnext] at h2
    rw [nI_1]
    cases hm : hb m i with
    | false =>
      rw [hm, Bool.false_and, if_neg (by decide), Int32.or_zero] at h2
      rw [if_pos (by rw [hb_sh0 m (by omega)]; exact hm)]
      exact h2 _
    | true =>
      rw [hm, Bool.true_and] at h2
      rw [if_neg (by rw [hb_sh0 m (by omega), hm]; exact fun z => by cases z), sr_in (by omega), sr_N (by omega), hX i (by omega), (me.2.2.2.2 i (by omega)).1]
      refine ⟨by omega, by omega, ?_⟩
      by_cases hc : eS E i < G i
      · rw [decide_eq_true hc, if_pos rfl] at h2
        rw [if_neg (fun z => fa_nle hc z)]
        exact h2 _
      · rw [decide_eq_false hc, if_neg (by decide), Int32.or_zero] at h2
        rw [if_pos (fa_nlt hc)]
        exact h2 _
theorem S67 {E : EV} {d q v b : Nat} {m : Int32} {h : ajH} {Q : Option Value → ajH → Prop} (hq : ajKw q 6) (hv : ajKw v 2) (hqv : ¬ q + 3 = v ∧ ¬ q + 3 = v + 1 ∧ ¬ q + 3 = v + 3 ∧ ¬ q + 3 = v + 5) (hs : ajShp h) (me : CE h v E) (hb0 : b < eN E)
    (H : ∀ h', FR h h' (fun o _ => o = q + 3) → (∀ k, k < 8 → ajI h' (q + 3) k = br E m b k) → Q (some (.int (ov E m b))) h') : ajEv (d + 2) 67 0 [.ref q, .ref v, .int m, .int (nI b), ajU, ajU] [] h Q := by
  refine W67_0 hs hq hv ?_
  refine S68 hq hv hqv hs me hb0 ?_
  intro h1 f1 x1 s1
  refine ⟨rfl, ?_⟩
  exact S67_13 hq hv (eN E) 0 h1 Q _ (by omega) s1 (CE_3 hqv me f1) x1 (H h1 f1 x1)
