/-! One step of the wheel, as it should be; the reference's step. -/
def RW (h : ajH) (r : Nat) (R : Nat → Int32) : Prop := ∀ k, k < 22 → ajI h r k = R k
def rB (r : Nat) : Prop := r = 331 ∨ r = 332
theorem rB_w {r : Nat} (c : rB r) : ajKw r 100 := by
  rcases c with rfl | rfl <;> exact ⟨by decide, rfl⟩
theorem rB_i {r : Nat} (c : rB r) : ajKi r 100 := by
  rcases c with rfl | rfl <;> exact ⟨by decide, rfl⟩
theorem rB_l {r : Nat} (c : rB r) (h : ajH) : ajLen h r = 203 := by
  rcases c with rfl | rfl <;> exact ajLenC rfl
def bN (R : Nat → Int32) : Nat := (R 16).toNatClampNeg
def vN (R : Nat → Int32) (k : Nat) : Nat := (R (2 * k)).toNatClampNeg
def tN (R : Nat → Int32) : Nat := (R 21).toNatClampNeg
def wN (R : Nat → Int32) : Nat := (R 17).toNatClampNeg
/-- a row that is a state of n spokes -/
def RV (n T : Nat) (R : Nat → Int32) : Prop := (R 16 = nI (bN R) ∧ bN R < n) ∧ (∀ k, k < n → R (2 * k) = nI (vN R k) ∧ vN R k < 10) ∧ (R 17 = nI (wN R) ∧ wN R < 10) ∧ (R 21 = nI (tN R) ∧ tN R < T) ∧ (R 18 = 0 ∨ R 18 = 1) ∧ ∀ k, k < n → R (2 * k + 1) = 0 ∨ R (2 * k + 1) = 1 ∨ R (2 * k + 1) = 2
def upR (R : Nat → Int32) (i : Nat) (x : Int32) : Nat → Int32 := fun j => if j = i then x else R j
def onB (R : Nat → Int32) (k : Nat) : Bool := decide (R (2 * k + 1) = 0)
def brB (R : Nat → Int32) (k : Nat) : Bool := decide (R (2 * k + 1) = 2)
def onM (n : Nat) (R : Nat → Int32) : Int32 := mk (onB R) n
/-- the bottom moves on -/
def iGo (n : Nat) (R : Nat → Int32) : Nat → Int32 := upR R 16 (nI ((bN R + 1) % n))
def bmO (E : EV) (R : Nat → Int32) : Int32 := ov E (onM (eN E) R) (bN R)
def iFall (bm : Int32) (R : Nat → Int32) : Nat → Int32 := fun j => if j % 2 = 1 ∧ j < 16 ∧ hb bm (j / 2) = true then 2 else R j
def far (n k : Nat) (b : Int32) : Int32 := if (nI n - (if 0 ≤ (nI k - b) then (nI k - b) else 0 - (nI k - b))) < (if 0 ≤ (nI k - b) then (nI k - b) else 0 - (nI k - b)) then (nI n - (if 0 ≤ (nI k - b) then (nI k - b) else 0 - (nI k - b))) else (if 0 ≤ (nI k - b) then (nI k - b) else 0 - (nI k - b))
def farN (n k b : Nat) : Nat := if n - (k - b + (b - k)) < k - b + (b - k) then n - (k - b + (b - k)) else k - b + (b - k)
theorem far_n : ∀ n < 9, ∀ k < n, ∀ b < n, far n k (nI b) = nI (farN n k b) ∧ farN n k b < 5 := by decide +kernel
def dfl (v d o : Int32) : Int32 := if (if 0 ≤ (v - d) then (v - d) else 0 - (v - d)) ≤ o then v else (if d ≤ v then v + -1 else v + 1)
def iV (E : EV) (R : Nat → Int32) (k : Nat) : Int32 := eV E (R (2 * k)) (R (2 * bN R)) (eO E k) (far (eN E) k (R 16)) (R 17) (R 21 - R 21 / 100 * 100)
def iNv (E : EV) (R : Nat → Int32) (k : Nat) : Int32 := if onB R k = true ∧ ¬ k = bN R then iV E R k else R (2 * k)
def iTalk (E : EV) (R : Nat → Int32) : Nat → Int32 := if onB R (bN R) = true then (fun j => if j % 2 = 0 ∧ j < 2 * eN E then iNv E R (j / 2) else R j) else R
def chF (E : EV) (R : Nat → Int32) : Nat → Int32
  | 0 => 0
  | i + 1 => if ¬ chF E R i = 0 then 1 else if iNv E R i = R (2 * i) then 0 else 1
def chg (E : EV) (R : Nat → Int32) : Int32 := if onB R (bN R) = true then chF E R (eN E) else 0
def fI (R : Nat → Int32) : Nat → Int32
  | 0 => 0
  | k + 1 => if onB R k = true ∧ ¬ R (2 * k) < 5 then fI R k + 1 else fI R k
def dnF (n : Nat) (R : Nat → Int32) : Int32 := if R 18 = 1 then (if (2 : Int32) * fI R n ≤ bcF (onM n R) then 0 else 1) else (if onB R (bN R) = true then (if R (2 * bN R) < 5 then 0 else 1) else 0)
def iEnd (d : Int32) (R : Nat → Int32) : Nat → Int32 := upR (if d = 0 then R else upR (upR R 19 (R 19 + 1)) 20 (if (R 20 + 1) < 999 then (R 20 + 1) else 999)) 21 (R 21 + 1)
/-- the state behind the falls and the talk -/
def iMid (E : EV) (R : Nat → Int32) : Nat → Int32 := iTalk E (iFall (bmO E R) R)
def iDone (E : EV) (R : Nat → Int32) : Int32 := dnF (eN E) (iMid E R)
def iChg (E : EV) (R : Nat → Int32) : Int32 := chg E (iFall (bmO E R) R)
def iPl (E : EV) (R : Nat → Int32) : Nat → Int32 := iEnd (iDone E R) (iMid E R)
def EVok (E : EV) : Prop := ∀ k, k < eN E → ∃ o, o < 10 ∧ eO E k = nI o
/-- the laws of the reference, and which one holds -/
def MV (h : ajH) (m : Nat) (TB : Nat → Nat → Nat) (TL : Nat → Nat) (E : EV) : Prop := LawsM h m TB TL ∧ MemoOK h m TB TL ∧ SC h ∧ ((ajI h 320 30 = -1 ∧ ∀ v d o f w t, eV E v d o f w t = dfl v d o) ∨ ∃ i, i < m ∧ ajI h 320 30 = nI i ∧ ∀ v d o f w t, eV E v d o f w t = lw TB TL i v d o f w t)
theorem MV_FR {h h' : ajH} {P : Nat → Nat → Prop} {m : Nat} {TB : Nat → Nat → Nat} {TL : Nat → Nat} {E : EV} (c : MV h m TB TL E) (f : FR h h' P) (p0 : ¬ P 320 30) (p : ∀ j, ¬ P 322 j ∧ ¬ P 323 j ∧ ¬ P 334 j ∧ ¬ P 335 j) (q : ∀ o j, P o j → o = 320 ∨ 324 ≤ o ∧ o < 1000) : MV h' m TB TL E :=
  ⟨LawsM_FR c.1 f (fun j => ⟨(p j).1, (p j).2.1⟩), MemoOK_FR c.2.1 f (fun j => ⟨(p j).2.2.1, (p j).2.2.2⟩), SC_FR c.2.2.1 f (fun o j ho z => by have := q o j z; omega), by rw [FR_I f p0]; exact c.2.2.2⟩
theorem iFall_e (bm : Int32) (R : Nat → Int32) {j : Nat} (h : j % 2 = 0 ∨ 16 ≤ j) : iFall bm R j = R j := by
  unfold iFall
  rw [if_neg (by omega)]
theorem iFall_b (bm : Int32) (R : Nat → Int32) : bN (iFall bm R) = bN R := by
  unfold bN
  rw [iFall_e bm R (by omega)]
theorem iTalk_e (E : EV) (R : Nat → Int32) {j : Nat} (h : j % 2 = 1 ∨ 2 * eN E ≤ j) : iTalk E R j = R j := by
  unfold iTalk
  split
  · dsimp only
    rw [if_neg (by omega)]
  · rfl
theorem iTalk_b (E : EV) (R : Nat → Int32) (n8 : eN E ≤ 8) : bN (iTalk E R) = bN R := by
  unfold bN
  rw [iTalk_e E R (by omega)]
theorem RV_fall {n T : Nat} {R : Nat → Int32} (bm : Int32) (c : RV n T R) (n8 : n ≤ 8) : RV n T (iFall bm R) := by
  obtain ⟨⟨a1, a2⟩, hv, ⟨w1, w2⟩, ⟨t1, t2⟩, x, y⟩ := c
  refine ⟨⟨?_, ?_⟩, fun k hk => ?_, ⟨?_, ?_⟩, ⟨?_, ?_⟩, ?_, fun k hk => ?_⟩
  · rw [iFall_b, iFall_e _ _ (by omega)]; exact a1
  · rw [iFall_b]; exact a2
  · unfold vN
    rw [iFall_e _ _ (by omega)]; exact hv k hk
  · unfold wN
    rw [iFall_e _ _ (by omega)]; exact w1
  · unfold wN
    rw [iFall_e _ _ (by omega)]; exact w2
  · unfold tN
    rw [iFall_e _ _ (by omega)]; exact t1
  · unfold tN
    rw [iFall_e _ _ (by omega)]; exact t2
  · rw [iFall_e _ _ (by omega)]; exact x
  · unfold iFall
    split
    · exact Or.inr (Or.inr rfl)
    · exact y k hk
/-- what a talk comes to lies in 0 .. 9 -/
def EVg (E : EV) : Prop := ∀ v d o f w t, v < 10 → d < 10 → o < 10 → ∃ a, a < 10 ∧ eV E (nI v) (nI d) (nI o) f w t = nI a
theorem dfl_g : ∀ v < 10, ∀ d < 10, ∀ o < 10, ∃ a, a < 10 ∧ dfl (nI v) (nI d) (nI o) = nI a := by
  have e : ∀ v < 10, ∀ d < 10, ∀ o < 10, (dfl (nI v) (nI d) (nI o)).toNatClampNeg < 10 ∧ dfl (nI v) (nI d) (nI o) = nI (dfl (nI v) (nI d) (nI o)).toNatClampNeg := by decide +kernel
  intro v hv d hd o ho
  exact ⟨_, (e v hv d hd o ho).1, (e v hv d hd o ho).2⟩
theorem cl_g (p : Int32) : ∃ a, a < 10 ∧ (if 0 < (if p < 9 then p else 9) then (if p < 9 then p else 9) else 0) = nI a := by
  by_cases e : p < 9
  · rw [if_pos e]
    by_cases e0 : 0 < p
    · rw [if_pos e0]
      obtain ⟨j, hj, rfl⟩ := sr_of (x := p) (fun z => by
        rcases sr_cs p with y | ⟨j, hj, rfl⟩
        · exact fa_nle y (by
            rw [Int32.le_iff_toInt_le]; rw [Int32.lt_iff_toInt_lt] at e0; omega)
        · rw [sr_lt0 hj] at z; exact z)
      rw [sl_9, sr_lt hj (by omega)] at e
      exact ⟨j, by omega, rfl⟩
    · rw [if_neg e0]; exact ⟨0, by omega, rfl⟩
  · rw [if_neg e, if_pos (by decide)]
    exact ⟨9, by omega, rfl⟩
theorem MV_g {h : ajH} {m : Nat} {TB : Nat → Nat → Nat} {TL : Nat → Nat} {E : EV} (c : MV h m TB TL E) : EVg E := by
  intro v d o f w t hv hd ho
  rcases c.2.2.2 with ⟨_, e⟩ | ⟨i, _, _, e⟩
  · rw [e]; exact dfl_g v hv d hd o ho
  · rw [e]; exact cl_g _
theorem iNv_g {E : EV} {T : Nat} {R : Nat → Int32} (g : EVg E) (eo : EVok E) (c : RV (eN E) T R) {k : Nat} (hk : k < eN E) : ∃ a, a < 10 ∧ iNv E R k = nI a := by
  unfold iNv
  split
  · unfold iV
    obtain ⟨o, ho, e⟩ := eo k hk
    rw [e, (c.2.1 k hk).1, (c.2.1 (bN R) c.1.2).1]
    exact g _ _ _ _ _ _ (c.2.1 k hk).2 (c.2.1 (bN R) c.1.2).2 ho
  · exact ⟨_, (c.2.1 k hk).2, (c.2.1 k hk).1⟩
theorem RV_talk {E : EV} {T : Nat} {R : Nat → Int32} (g : EVg E) (eo : EVok E) (c : RV (eN E) T R) (n8 : eN E ≤ 8) : RV (eN E) T (iTalk E R) := by
  have hn := fun k hk => iNv_g (k := k) g eo c hk
  obtain ⟨⟨a1, a2⟩, hv, ⟨w1, w2⟩, ⟨t1, t2⟩, x, y⟩ := c
  refine ⟨⟨?_, ?_⟩, fun k hk => ?_, ⟨?_, ?_⟩, ⟨?_, ?_⟩, ?_, fun k hk => ?_⟩
  · rw [iTalk_b _ _ n8, iTalk_e _ _ (by omega)]; exact a1
  · rw [iTalk_b _ _ n8]; exact a2
  · unfold vN
    have e : iTalk E R (2 * k) = R (2 * k) ∨ iTalk E R (2 * k) = iNv E R k := by
      unfold iTalk
      split
      · right
        dsimp only
        rw [if_pos (by omega), show 2 * k / 2 = k by omega]
      · exact Or.inl rfl
    rcases e with e | e
    · rw [e]; exact hv k hk
    · rw [e]
      obtain ⟨a, ha, ea⟩ := hn k hk
      rw [ea, sr_N (by omega)]
      exact ⟨rfl, ha⟩
  · unfold wN
    rw [iTalk_e _ _ (by omega)]; exact w1
  · unfold wN
    rw [iTalk_e _ _ (by omega)]; exact w2
  · unfold tN
    rw [iTalk_e _ _ (by omega)]; exact t1
  · unfold tN
    rw [iTalk_e _ _ (by omega)]; exact t2
  · rw [iTalk_e _ _ (by omega)]; exact x
  · rw [iTalk_e _ _ (by omega)]; exact y k hk
theorem upR_n (R : Nat → Int32) {i j : Nat} (x : Int32) (h : ¬ j = i) : upR R i x j = R j := if_neg h
theorem upR_s (R : Nat → Int32) (i : Nat) (x : Int32) : upR R i x i = x := if_pos rfl
theorem iEnd_e (d : Int32) (R : Nat → Int32) {j : Nat} (h : j < 19) : iEnd d R j = R j := by
  unfold iEnd
  rw [upR_n _ _ (by omega)]
  split
  · rfl
  · rw [upR_n _ _ (by omega), upR_n _ _ (by omega)]
theorem RV_end {n T : Nat} {R : Nat → Int32} (d : Int32) (c : RV n T R) (n8 : n ≤ 8) (hT : T < 2147483648) : RV n (T + 1) (iEnd d R) := by
  obtain ⟨⟨a1, a2⟩, hv, ⟨w1, w2⟩, ⟨t1, t2⟩, x, y⟩ := c
  have e21 : iEnd d R 21 = nI (tN R + 1) := by
    unfold iEnd
    rw [upR_s, t1, nI_1]
  refine ⟨⟨?_, ?_⟩, fun k hk => ?_, ⟨?_, ?_⟩, ⟨?_, ?_⟩, ?_, fun k hk => ?_⟩
  · unfold bN
    rw [iEnd_e _ _ (by omega)]; exact a1
  · unfold bN
    rw [iEnd_e _ _ (by omega)]; exact a2
  · unfold vN
    rw [iEnd_e _ _ (by omega)]; exact hv k hk
  · unfold wN
    rw [iEnd_e _ _ (by omega)]; exact w1
  · unfold wN
    rw [iEnd_e _ _ (by omega)]; exact w2
  · unfold tN
    rw [e21, sr_N (by omega)]
  · unfold tN
    rw [e21, sr_N (by omega)]; omega
  · rw [iEnd_e _ _ (by omega)]; exact x
  · rw [iEnd_e _ _ (by omega)]; exact y k hk
theorem RV_go {n T : Nat} {R : Nat → Int32} (c : RV n T R) (n8 : n ≤ 8) : RV n T (iGo n R) ∧ bN (iGo n R) = (bN R + 1) % n := by
  obtain ⟨⟨a1, a2⟩, hv, ⟨w1, w2⟩, ⟨t1, t2⟩, x, y⟩ := c
  have hlt := Nat.mod_lt (bN R + 1) (show 0 < n by omega)
  have e16 : bN (iGo n R) = (bN R + 1) % n := by
    unfold bN iGo
    rw [upR_s, sr_N (by omega)]; rfl
  refine ⟨⟨⟨?_, ?_⟩, fun k hk => ?_, ⟨?_, ?_⟩, ⟨?_, ?_⟩, ?_, fun k hk => ?_⟩, e16⟩
  · rw [e16]; unfold iGo; rw [upR_s]
  · rw [e16]; exact hlt
  · unfold vN iGo
    rw [upR_n _ _ (by omega)]; exact hv k hk
  · unfold wN iGo
    rw [upR_n _ _ (by omega)]; exact w1
  · unfold wN iGo
    rw [upR_n _ _ (by omega)]; exact w2
  · unfold tN iGo
    rw [upR_n _ _ (by omega)]; exact t1
  · unfold tN iGo
    rw [upR_n _ _ (by omega)]; exact t2
  · unfold iGo
    rw [upR_n _ _ (by omega)]; exact x
  · unfold iGo
    rw [upR_n _ _ (by omega)]; exact y k hk
theorem RV_mid {E : EV} {T : Nat} {R : Nat → Int32} (g : EVg E) (eo : EVok E) (c : RV (eN E) T R) (n8 : eN E ≤ 8) : RV (eN E) T (iMid E R) := RV_talk g eo (RV_fall _ c n8) n8
theorem RV_pl {E : EV} {T : Nat} {R : Nat → Int32} (g : EVg E) (eo : EVok E) (c : RV (eN E) T R) (n8 : eN E ≤ 8) (hT : T < 2147483648) : RV (eN E) (T + 1) (iPl E R) := RV_end _ (RV_mid g eo c n8) n8 hT
