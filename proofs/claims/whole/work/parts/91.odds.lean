/-! The odds of a slippery road. -/
def ptF (z pc a : Nat) : Nat → Nat → Nat → Nat → Nat
  | 0, _, p, b => if b = a then p else 0
  | f + 1, k, p, b => if k % 2 = 0 then ptF z pc a f (k / 2) (p - p * pc / 100) ((b + 1) % z) else ptF z pc a f (k / 2) (p * pc / 100) b
def trF (z pc a : Nat) : Nat → Nat → Nat → Nat
  | 0, p, b => if b = a then p else 0
  | f + 1, p, b => trF z pc a f (p * pc / 100) b + trF z pc a f (p - p * pc / 100) ((b + 1) % z)
def sF (g : Nat → Nat) : Nat → Nat
  | 0 => 0
  | n + 1 => sF g n + g n
theorem sF_ad (g l : Nat → Nat) : ∀ n, sF (fun j => g j + l j) n = sF g n + sF l n := by
  intro n
  induction n with
  | zero => rfl
  | succ n ih =>
    show sF (fun j => g j + l j) n + (g n + l n) = (sF g n + g n) + (sF l n + l n)
    rw [ih]; omega
theorem sF_2 (g : Nat → Nat) : ∀ m, sF g (2 * m) = sF (fun j => g (2 * j) + g (2 * j + 1)) m := by
  intro m
  induction m with
  | zero => rfl
  | succ m ih =>
    rw [show 2 * (m + 1) = 2 * m + 1 + 1 by omega]
    show sF g (2 * m) + g (2 * m) + g (2 * m + 1) = sF (fun j => g (2 * j) + g (2 * j + 1)) m + (g (2 * m) + g (2 * m + 1))
    rw [ih]; omega
theorem sF_cg (g l : Nat → Nat) (e : ∀ j, g j = l j) : ∀ n, sF g n = sF l n := by
  intro n
  induction n with
  | zero => rfl
  | succ n ih =>
    show sF g n + g n = sF l n + l n
    rw [ih, e]
theorem sF_tr (z pc a : Nat) : ∀ n p b, sF (fun k => ptF z pc a n k p b) (2 ^ n) = trF z pc a n p b := by
  intro n
  induction n with
  | zero =>
    intro p b
    show 0 + (if b = a then p else 0) = (if b = a then p else 0)
    omega
  | succ n ih =>
    intro p b
    rw [show 2 ^ (n + 1) = 2 * 2 ^ n by rw [Nat.pow_succ]; omega, sF_2]
    have e : ∀ j, ptF z pc a (n + 1) (2 * j) p b + ptF z pc a (n + 1) (2 * j + 1) p b = ptF z pc a n j (p * pc / 100) b + ptF z pc a n j (p - p * pc / 100) ((b + 1) % z) := by
      intro j
      have e1 : ptF z pc a (n + 1) (2 * j) p b = ptF z pc a n j (p - p * pc / 100) ((b + 1) % z) := by
        show (if 2 * j % 2 = 0 then ptF z pc a n (2 * j / 2) (p - p * pc / 100) ((b + 1) % z) else ptF z pc a n (2 * j / 2) (p * pc / 100) b) = _
        rw [if_pos (by omega), show 2 * j / 2 = j by omega]
      have e2 : ptF z pc a (n + 1) (2 * j + 1) p b = ptF z pc a n j (p * pc / 100) b := by
        show (if (2 * j + 1) % 2 = 0 then ptF z pc a n ((2 * j + 1) / 2) (p - p * pc / 100) ((b + 1) % z) else ptF z pc a n ((2 * j + 1) / 2) (p * pc / 100) b) = _
        rw [if_neg (by omega), show (2 * j + 1) / 2 = j by omega]
      rw [e1, e2]; omega
    rw [sF_cg _ _ e, sF_ad, ih, ih]
    rfl
theorem slip_le {p pc : Nat} (h : pc ≤ 100) : p * pc / 100 ≤ p := by
  have : p * pc ≤ p * 100 := Nat.mul_le_mul_left p h
  omega
theorem slip_l {p pc : Nat} (hp : p ≤ 1000000000) (h : pc ≤ 100) : lN p * (nI pc).toInt64 / 100 = lN (p * pc / 100) := by
  have : p * pc ≤ p * 100 := Nat.mul_le_mul_left p h
  rw [nI_l (by omega), lN_mul, show (100 : Int64) = lN 100 from rfl, pk_lDiv (by omega) (by omega) (by omega)]
theorem S128_17 {S : GS} {d a n pc k : Nat} {h : ajH} {Q : Option Value → ajH → Prop} (vd : GVd S) (hs : ajShp h) (c : CI S h) (ha : a < gz S) (n8 : n ≤ 8) (hpc : pc ≤ 100) : ∀ (f t p b : Nat) (u9 u10 : Value), t + f = n → p ≤ 1000000000 → b < gz S →
    Q (some (.int (nI (ptF (gz S) pc a f (k / 2 ^ t) p b)))) h → ajEv (d + 1) 128 17 [.ref 1, .int (nI a), .int (nI n), .int (nI pc), .int (nI k), .long (lN p), ajU, .int (nI b), .int (nI t), u9, u10] [] h Q := by
  have z8 := vd.z8
  intro f
  induction f with
  | zero =>
    intro t p b u9 u10 ht hp hb' H
    refine W128_17 hs ?_
    rw [if_pos (by rw [sr_le (by omega) (by omega)]; omega)]
    have e : ptF (gz S) pc a 0 (k / 2 ^ t) p b = if b = a then p else 0 := rfl
    rw [e] at H
    by_cases y : b = a
    · rw [if_neg (fun z => z (by rw [y])), lN_i]
      rw [if_pos y] at H; exact H
    · rw [if_pos (fun z => y ((sr_eq (by omega) (by omega)).mp z))]
      rw [if_neg y] at H; exact H
  | succ f ih =>
    intro t p b u9 u10 ht hp hb' H
    have sl := slip_le (p := p) hpc
    refine W128_17 hs ?_
    rw [if_neg (by rw [sr_le (by omega) (by omega)]; omega), slip_l hp hpc, lN_sub sl, nI_1]
    have e : ptF (gz S) pc a (f + 1) (k / 2 ^ t) p b = if (k / 2 ^ t) % 2 = 0 then ptF (gz S) pc a f (k / 2 ^ t / 2) (p - p * pc / 100) ((b + 1) % gz S) else ptF (gz S) pc a f (k / 2 ^ t / 2) (p * pc / 100) b := rfl
    rw [e, Nat.div_div_eq_div_mul, ← Nat.pow_succ] at H
    have hbit : hb (nI k) t = decide (k / 2 ^ t % 2 = 1) := by
      rw [hb_tb _ (by omega), Nat.testBit_eq_decide_div_mod_eq]
    by_cases y : k / 2 ^ t % 2 = 0
    · rw [if_pos (by rw [hb_sh0 _ (by omega), hbit]; exact decide_eq_false (by omega))]
      rw [if_pos y] at H
      refine S66 hs (ajKc rfl) c.2.1.1 z8 hb' ?_
      intro s1
      refine ⟨_, rfl, ?_⟩
      exact ih (t + 1) _ _ _ _ (by omega) (by omega) (Nat.mod_lt _ (by omega)) H
    · rw [if_neg (by rw [hb_sh0 _ (by omega), hbit, decide_eq_true (by omega)]; exact fun z => by cases z)]
      rw [if_neg y] at H
      exact ih (t + 1) _ _ _ _ (by omega) (by omega) hb' H
def odOK (S : GS) (v1 v2 v3 : Int32) : Bool := isp (gz S) v1 && rg 0 8 v2 && rg 0 100 v3
def aOdds (S : GS) (v1 v2 v3 : Int32) : Int32 := if odOK S v1 v2 v3 = true then nI (trF (gz S) v3.toNatClampNeg v1.toNatClampNeg v2.toNatClampNeg 1000000000 (bN (gX S).1)) else -1
theorem od_n {S : GS} {v1 v2 v3 : Int32} {h : ajH} {Q : Option Value → ajH → Prop} (H : Q (some (.int (aOdds S v1 v2 v3))) h) (e : odOK S v1 v2 v3 = false) : Q (some (.int (-1))) h := by
  unfold aOdds at H
  rw [e, if_neg (by decide)] at H
  exact H
theorem S127_36 {S : GS} {d a n pc : Nat} {h : ajH} {Q : Option Value → ajH → Prop} (vd : GVd S) (hs : ajShp h) (c : CI S h) (ha : a < gz S) (n8 : n ≤ 8) (hpc : pc ≤ 100)
    (H : Q (some (.int (nI (trF (gz S) pc a n 1000000000 (bN (gX S).1))))) h) : ∀ (f k : Nat), k + f = 2 ^ n → ajEv (d + 2) 127 36 [.ref 1, .int (nI a), .int (nI n), .int (nI pc), .int (nI (sF (fun k => ptF (gz S) pc a n k 1000000000 (bN (gX S).1)) k)), .int (nI k)] [] h Q := by
  have xv := (vd.xv (by omega)).1
  have p8 : 2 ^ n ≤ 2 ^ 8 := Nat.pow_le_pow_right (by omega) n8
  intro f
  induction f with
  | zero =>
    intro k hk
    refine W127_36 hs ?_
    rw [bt_8 n n8, if_pos (by rw [sr_le (by omega) (by omega)]; omega), show k = 2 ^ n by omega, sF_tr]
    exact H
  | succ f ih =>
    intro k hk
    refine W127_36 hs ?_
    rw [bt_8 n n8, if_neg (by rw [sr_le (by omega) (by omega)]; omega)]
    refine W128_0 hs ?_
    rw [c.2.2.2.1.1.1.2.2.1, xv.1.1]
    refine S128_17 vd hs c ha n8 hpc n 0 1000000000 (bN (gX S).1) _ _ (by omega) (by omega) xv.1.2 ?_
    intro s1
    refine ⟨_, rfl, ?_⟩
    rw [sr_add, nI_1, show k / 2 ^ 0 = k by rw [Nat.pow_zero, Nat.div_one]]
    exact ih (k + 1) (by omega)
theorem S127 {S : GS} {d : Nat} {v1 v2 v3 : Int32} {h : ajH} {Q : Option Value → ajH → Prop} (hs : ajShp h) (c : CI S h) (vd : GVd S)
    (H : Q (some (.int (aOdds S v1 v2 v3))) h) : ajEv (d + 2) 127 0 [.ref 1, .int v1, .int v2, .int v3, ajU, ajU] [] h Q := by
  have z8 := vd.z8
  refine W127_0 hs ?_
  refine S58 hs c.2.1 ?_
  intro s1
  refine ⟨_, rfl, ?_⟩
  cases e1 : isp (gz S) v1 with
  | false =>
    rw [if_pos (show flg false = 0 from rfl)]
    exact od_n H (by unfold odOK; rw [e1]; rfl)
  | true =>
    rw [if_neg (by decide)]
    by_cases y1 : v2 < 0
    · rw [if_pos y1]; exact od_n H (by unfold odOK rg; rw [decide_eq_true y1]; simp)
    · rw [if_neg y1]
      by_cases y2 : 8 < v2
      · rw [if_pos y2]; exact od_n H (by unfold odOK rg; rw [decide_eq_true y2]; simp)
      · rw [if_neg y2]
        have e2 : rg 0 8 v2 = true := by unfold rg; rw [decide_eq_false y1, decide_eq_false y2]; rfl
        by_cases y3 : v3 < 0
        · rw [if_pos y3]; exact od_n H (by unfold odOK; rw [show rg 0 100 v3 = false by unfold rg; rw [decide_eq_true y3]; rfl]; simp)
        · rw [if_neg y3]
          by_cases y4 : v3 ≤ 100
          · rw [if_pos y4]
            have e3 : rg 0 100 v3 = true := by unfold rg; rw [decide_eq_false y3, decide_eq_false (fun z => fa_nle z y4)]; rfl
            obtain ⟨a, ha, rfl⟩ := isp_k z8 e1
            obtain ⟨n, _, hn, rfl⟩ := rg_k (lo := 0) (hi := 8) (by omega) (by omega) e2
            obtain ⟨pc, _, hpc, rfl⟩ := rg_k (lo := 0) (hi := 100) (by omega) (by omega) e3
            unfold aOdds odOK at H
            rw [e1, e2, e3, if_pos (by decide), sr_N (by omega), sr_N (by omega), sr_N (by omega)] at H
            exact S127_36 vd s1 c ha hn hpc H (2 ^ n) 0 (by omega)
          · rw [if_neg y4]
            exact od_n H (by unfold odOK; rw [show rg 0 100 v3 = false by unfold rg; rw [decide_eq_true (Int32.not_le.mp y4)]; simp]; simp)
theorem S239 {S : GS} {a pc : Nat} {h : ajH} (vd : GVd S) (hs : ajShp h) (c : MI S h) (ha : a < gz S) (hpc : pc ≤ 100) : ∀ (n d p b : Nat) (Q : Option Value → ajH → Prop), n ≤ 8 → p ≤ 1000000000 → b < gz S →
    Q (some (.int (nI (trF (gz S) pc a n p b)))) h → ajEv (d + 1 + n) 239 0 [.ref 320, .int (nI a), .int (nI b), .int (nI n), .int (nI pc), .int (nI p), ajU] [] h Q := by
  have z8 := vd.z8
  intro n
  induction n with
  | zero =>
    intro d p b Q n8 hp hb' H
    refine W239_0 hs ?_
    rw [if_neg (fun z => z rfl)]
    have e : trF (gz S) pc a 0 p b = if b = a then p else 0 := rfl
    rw [e] at H
    by_cases y : b = a
    · rw [if_neg (fun z => z (by rw [y]))]
      rw [if_pos y] at H; exact H
    · rw [if_pos (fun z => y ((sr_eq (by omega) (by omega)).mp z).symm)]
      rw [if_neg y] at H; exact H
  | succ n ih =>
    intro d p b Q n8 hp hb' H
    have sl := slip_le (p := p) hpc
    refine W239_0 (d := d + 1 + n) hs ?_
    rw [if_pos (nI_ne0 (by omega) (by omega)), nI_l (by omega), slip_l hp hpc, lN_i, sr_sub sl, show nI (n + 1) - 1 = nI n by rw [sl_1, sr_sub (by omega)]; rfl]
    refine ih d _ _ _ (by omega) (by omega) hb' ?_
    intro s1
    refine ⟨_, rfl, ?_⟩
    rw [c.2.1.1, nI_1, pk_rem (by omega) (by omega) (by omega)]
    refine ⟨nI_ne0 (by omega) (by omega), ?_⟩
    refine ih d _ _ _ (by omega) (by omega) (Nat.mod_lt _ (by omega)) ?_
    intro s2
    refine ⟨_, rfl, ?_⟩
    rw [sr_add]
    exact H
theorem S238 {S : GS} {d : Nat} {v1 v2 v3 : Int32} {h : ajH} {Q : Option Value → ajH → Prop} (hs : ajShp h) (c : MI S h) (vd : GVd S)
    (H : ∀ h', FR h h' (fun o j => o = 320 ∧ j = 0) → MI S h' → Q (some (.int (aOdds S v1 v2 v3))) h') : ajEv (d + 10) 238 0 [.ref 320, .int v1, .int v2, .int v3] [] h Q := by
  have z8 := vd.z8
  refine W238_0 hs ?_
  rintro _ rfl
  have c0 := MI_0 (x := 0) c
  have f0 : FR h (ajSI h 320 0 0) (fun o j => o = 320 ∧ j = 0) := FR_SI h ⟨rfl, rfl⟩
  have s0 : ajShp (ajSI h 320 0 0) := hs
  generalize ajSI h 320 0 0 = h0 at c0 f0 s0
  have H := H h0 f0 c0
  refine S179 s0 c0.2.1 ?_
  intro s1
  refine ⟨_, rfl, ?_⟩
  cases e1 : isp (gz S) v1 with
  | false =>
    rw [if_pos (show flg false = 0 from rfl)]
    exact od_n H (by unfold odOK; rw [e1]; rfl)
  | true =>
    rw [if_neg (by decide)]
    refine S145r (lo := 0) (hi := 8) s1 ?_
    intro s2
    refine ⟨_, rfl, ?_⟩
    cases e2 : rg 0 8 v2 with
    | false =>
      rw [if_pos (show flg false = 0 from rfl)]
      exact od_n H (by unfold odOK; rw [e2]; simp)
    | true =>
      rw [if_neg (by decide)]
      refine S145r (lo := 0) (hi := 100) s2 ?_
      intro s3
      refine ⟨_, rfl, ?_⟩
      cases e3 : rg 0 100 v3 with
      | false =>
        rw [if_pos (show flg false = 0 from rfl)]
        exact od_n H (by unfold odOK; rw [e3]; simp)
      | true =>
        rw [if_neg (by decide)]
        obtain ⟨a, ha, rfl⟩ := isp_k z8 e1
        obtain ⟨n, _, hn, rfl⟩ := rg_k (lo := 0) (hi := 8) (by omega) (by omega) e2
        obtain ⟨pc, _, hpc, rfl⟩ := rg_k (lo := 0) (hi := 100) (by omega) (by omega) e3
        unfold aOdds odOK at H
        rw [e1, e2, e3, if_pos (by decide), sr_N (by omega), sr_N (by omega), sr_N (by omega)] at H
        have xv := (vd.xv (by omega)).1
        rw [(mX0 c0.2.2.2.1).1 16 (by omega), xv.1.1, show (1000000000 : Int32) = nI 1000000000 from rfl, show d + 9 = (d + (8 - n)) + 1 + n by omega]
        refine S239 vd s3 c0 ha hpc n _ _ _ _ hn (by omega) xv.1.2 ?_
        intro s4
        exact ⟨_, rfl, H⟩
