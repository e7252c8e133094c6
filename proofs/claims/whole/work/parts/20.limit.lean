/-! The abstract machine without its fuel: what it comes to with enough of it, and equations for that. -/
theorem ajInv_more {n d mi pc : Nat} {en : ajE} {ps st : List Value} {h : ajH} {q : Option Value × ajH} (ih : ∀ (d mi pc : Nat) (ps st : List Value) (h : ajH) (q : Option Value × ajH), ajRun n d mi pc ps st h = some q → ajRun (n + 1) d mi pc ps st h = some q) (hs : ajInv n d mi pc en ps st h = some q) : ajInv (n + 1) d mi pc en ps st h = some q := by
  unfold ajInv at hs ⊢
  dsimp only at hs ⊢
  generalize (if en.2.2.2.2.1 = 0 then en.2.2.2.1 else en.2.2.2.1 + 1) = b at hs ⊢
  split at hs
  · rename_i h0
    rw [if_pos h0]
    split at hs
    · rename_i h1
      rw [if_pos h1]
      split at hs
      · rename_i h2; rw [if_pos h2]; exact ih _ _ _ _ _ _ _ hs
      · cases hs
    · rename_i h1
      rw [if_neg h1]
      split at hs
      · rename_i h2
        rw [if_pos h2]
        split at hs
        · rename_i h3; exact ih _ _ _ _ _ _ _ hs
        · cases hs
      · rename_i h2
        rw [if_neg h2]
        split at hs
        · rename_i h3
          rw [if_pos h3]
          split at hs
          · rename_i h4
            split at hs
            · split at hs
              · rename_i h5
                have h6 := ih _ _ _ _ _ _ _ h5
                rw [h6]
                exact ih _ _ _ _ _ _ _ hs
              · cases hs
            · cases hs
          · rename_i h4
            split at hs
            · rename_i h5; rw [if_pos h5]; exact ih _ _ _ _ _ _ _ hs
            · cases hs
          · cases hs
        · rename_i h3
          rw [if_neg h3]
          split at hs
          · rename_i h4
            rw [if_pos h4]
            split at hs
            · rename_i h5; exact ih _ _ _ _ _ _ _ hs
            · cases hs
          · rename_i h4
            rw [if_neg h4]
            split at hs
            · cases hs
            · split at hs
              · rename_i h5
                rw [if_pos h5]
                split at hs
                · rename_i h6
                  have h7 := ih _ _ _ _ _ _ _ h6
                  rw [h7]
                  exact ih _ _ _ _ _ _ _ hs
                · cases hs
              · cases hs
  · cases hs
/-- what an instruction is: a step (0), a call (1), an end (2) -/
def ajKd : Instr → Nat
  | .invokevirtual _ => 1
  | .invokestatic _ => 1
  | .invokespecial _ => 1
  | .ireturn => 2
  | .lreturn => 2
  | .areturn => 2
  | .return_ => 2
  | _ => 0
theorem ajRun_step {n d mi pc : Nat} {en : ajE} {ps st : List Value} {h : ajH} (hen : ajCode mi pc = some en) (hk : ajKd en.1 = 0) : ajRun (n + 1) d mi pc ps st h = match ajStep en pc (ajKill mi pc ps) st h with
    | some (pc', ps', st', h') => ajRun n d mi pc' ps' st' h'
    | none => none := by
  obtain ⟨ins, len, a, b, t, z, ts⟩ := en
  conv => lhs; unfold ajRun; rw [hen]
  cases ins <;> first | rfl | (cases hk; done)
theorem ajRun_call {n d mi pc : Nat} {en : ajE} {ps st : List Value} {h : ajH} (hen : ajCode mi pc = some en) (hk : ajKd en.1 = 1) : ajRun (n + 1) d mi pc ps st h = ajInv n d mi pc en (ajKill mi pc ps) st h := by
  obtain ⟨ins, len, a, b, t, z, ts⟩ := en
  conv => lhs; unfold ajRun; rw [hen]
  cases ins <;> first | rfl | (cases hk; done)
theorem ajRun_more : ∀ (n d mi pc : Nat) (ps st : List Value) (h : ajH) (q : Option Value × ajH), ajRun n d mi pc ps st h = some q → ajRun (n + 1) d mi pc ps st h = some q := by
  intro n
  induction n with
  | zero => intro d mi pc ps st h q hs; cases hs
  | succ n ih =>
    intro d mi pc ps st h q hs
    obtain ⟨en, hen, h1⟩ := ajRun_some hs
    have hkd : ajKd en.1 = 0 ∨ ajKd en.1 = 1 ∨ ajKd en.1 = 2 := by
      cases en.1 <;> first | exact Or.inl rfl | exact Or.inr (Or.inl rfl) | exact Or.inr (Or.inr rfl)
    rcases hkd with hk | hk | hk
    · rw [ajRun_step hen hk] at hs ⊢
      split at hs
      · rename_i h2; exact ih _ _ _ _ _ _ _ hs
      · cases hs
    · rw [ajRun_call hen hk] at hs ⊢
      exact ajInv_more ih hs
    · obtain ⟨ins, len, a, b, t, z, ts⟩ := en
      unfold ajRun at hs ⊢
      rw [hen] at hs ⊢
      cases ins <;> first | exact hs | (cases hk; done)
theorem ajRun_le {n n' d mi pc : Nat} {ps st : List Value} {h : ajH} {q : Option Value × ajH} (hn : n ≤ n') (hs : ajRun n d mi pc ps st h = some q) : ajRun n' d mi pc ps st h = some q := by
  induction hn with
  | refl => exact hs
  | step _ ih => exact ajRun_more _ _ _ _ _ _ _ _ ih
noncomputable def ajLim (d mi pc : Nat) (ps st : List Value) (h : ajH) : Option (Option Value × ajH) :=
  @dite _ (∃ q, ∃ n, ajRun n d mi pc ps st h = some q) (Classical.propDecidable _) (fun hx => some (Classical.choose hx)) (fun _ => none)
theorem ajLim_iff {d mi pc : Nat} {ps st : List Value} {h : ajH} {q : Option Value × ajH} : ajLim d mi pc ps st h = some q ↔ ∃ n, ajRun n d mi pc ps st h = some q := by
  unfold ajLim
  split
  · rename_i hx
    obtain ⟨n, hn⟩ := Classical.choose_spec hx
    constructor
    · intro e
      exact ⟨n, by rw [hn]; exact e⟩
    · rintro ⟨n', hn'⟩
      have h1 := ajRun_le (Nat.le_max_left n n') hn
      have h2 := ajRun_le (Nat.le_max_right n n') hn'
      rw [h1] at h2
      exact h2
  · rename_i hx
    constructor
    · intro e; cases e
    · intro e; exact absurd ⟨q, e⟩ hx
theorem ajLim_ext {d mi pc : Nat} {ps st : List Value} {h : ajH} {x : Option (Option Value × ajH)} (hx : ∀ q, (∃ n, ajRun n d mi pc ps st h = some q) ↔ x = some q) : ajLim d mi pc ps st h = x := by
  cases hy : ajLim d mi pc ps st h with
  | some q => exact ((hx q).mp (ajLim_iff.mp hy)).symm
  | none =>
    cases x with
    | none => rfl
    | some q =>
      have h1 := ajLim_iff.mpr ((hx q).mpr rfl)
      rw [hy] at h1
      cases h1
/-- one instruction, with the look at the tables -/
def ajNext (mi pc : Nat) (ps st : List Value) (h : ajH) : ajO := match ajCode mi pc with
  | some en => match ajKd en.1 with
    | 0 => ajStep en pc (ajKill mi pc ps) st h
    | _ => none
  | none => none
theorem ajE_n {d mi pc : Nat} {ps st : List Value} {h : ajH} (hk : (ajCode mi pc).map (fun en => ajKd en.1) = some 0) : ajLim d mi pc ps st h = match ajNext mi pc ps st h with
    | some (pc', ps', st', h') => ajLim d mi pc' ps' st' h'
    | none => none := by
  cases hen : ajCode mi pc with
  | none => rw [hen] at hk; cases hk
  | some en =>
    rw [hen] at hk
    have hk : ajKd en.1 = 0 := Option.some.inj hk
    have hn : ajNext mi pc ps st h = ajStep en pc (ajKill mi pc ps) st h := by unfold ajNext; rw [hen]; dsimp only; rw [hk]; rfl
    rw [hn]
    refine ajLim_ext fun q => ?_
    constructor
    · rintro ⟨n, hq⟩
      cases n with
      | zero => cases hq
      | succ n =>
        rw [ajRun_step hen hk] at hq
        split at hq
        · exact ajLim_iff.mpr ⟨n, hq⟩
        · cases hq
    · intro hq
      split at hq
      · rename_i h2
        obtain ⟨n, hn⟩ := ajLim_iff.mp hq
        refine ⟨n + 1, ?_⟩
        rw [ajRun_step hen hk, h2]
        exact hn
      · cases hq
theorem ajNext_kd {mi pc : Nat} {ps st : List Value} {h : ajH} {x : Nat × List Value × List Value × ajH} (e : ajNext mi pc ps st h = some x) : (ajCode mi pc).map (fun en => ajKd en.1) = some 0 := by
  unfold ajNext at e
  split at e
  · rename_i en hen
    rw [hen]
    split at e
    · rename_i hk; exact congrArg some hk
    · cases e
  · cases e
/-- some steps -/
def ajSeg (mi : Nat) : Nat → Nat × List Value × List Value × ajH → ajO
  | 0, q => some q
  | k + 1, q => match ajNext mi q.1 q.2.1 q.2.2.1 q.2.2.2 with
    | some q' => ajSeg mi k q'
    | none => none
theorem ajE_k {d mi pc pc' : Nat} {ps st ps' st' : List Value} {h h' : ajH} (k : Nat) (e : ajSeg mi k (pc, ps, st, h) = some (pc', ps', st', h')) : ajLim d mi pc ps st h = ajLim d mi pc' ps' st' h' := by
  induction k generalizing pc ps st h with
  | zero => cases e; rfl
  | succ k ih =>
    unfold ajSeg at e
    split at e
    · rename_i q' hq
      dsimp only at hq
      obtain ⟨p1, p2, p3, p4⟩ := q'
      rw [ajE_n (ajNext_kd hq), hq]
      exact ih e
    · cases e
theorem ajE_g {d mi pc pc' : Nat} {ps st ps' st' : List Value} {h h' : ajH} {P : Prop} [Decidable P] (hk : (ajCode mi pc).map (fun en => ajKd en.1) = some 0) (e : ajNext mi pc ps st h = if P then some (pc', ps', st', h') else none) : ajLim d mi pc ps st h = if P then ajLim d mi pc' ps' st' h' else none := by
  rw [ajE_n hk, e]
  by_cases hp : P
  · rw [if_pos hp, if_pos hp]
  · rw [if_neg hp, if_neg hp]
theorem ajE_b {d mi pc p1 p2 : Nat} {ps st ps1 st1 ps2 st2 : List Value} {h h1 h2 : ajH} {c : Prop} [Decidable c] (hk : (ajCode mi pc).map (fun en => ajKd en.1) = some 0) (e : ajNext mi pc ps st h = if decide c = true then some (p1, ps1, st1, h1) else some (p2, ps2, st2, h2)) : ajLim d mi pc ps st h = if c then ajLim d mi p1 ps1 st1 h1 else ajLim d mi p2 ps2 st2 h2 := by
  rw [ajE_n hk, e]
  by_cases hc : c
  · rw [if_pos (decide_eq_true hc), if_pos hc]
  · rw [if_neg (fun z => hc (of_decide_eq_true z)), if_neg hc]
theorem ajE_b0 {d mi pc p1 p2 : Nat} {ps st ps1 st1 ps2 st2 : List Value} {h h1 h2 : ajH} {c : Prop} [Decidable c] (hk : (ajCode mi pc).map (fun en => ajKd en.1) = some 0) {x9 : Prop} [Decidable x9] (e : ajNext mi pc ps st h = if c then some (p1, ps1, st1, h1) else if x9 then some (p2, ps2, st2, h2) else none) : ajLim d mi pc ps st h = if c then ajLim d mi p1 ps1 st1 h1 else if x9 then ajLim d mi p2 ps2 st2 h2 else none := by
  rw [ajE_n hk, e]
  by_cases hc : c
  · rw [if_pos hc, if_pos hc]
  · rw [if_neg hc, if_neg hc]
    by_cases hx : x9
    · rw [if_pos hx, if_pos hx]
    · rw [if_neg hx, if_neg hx]
/-- a switch, one case after the other -/
def ajSc {β : Type} (x : Int32) (f : Nat → β) (dd : β) : Int → List Nat → β
  | _, [] => dd
  | k, t :: r => if x = Int32.ofInt k then f t else ajSc x f dd (k + 1) r
theorem ajSc_eq {β : Type} (x : Int32) (f : Nat → β) (t0 : Nat) : ∀ (ts : List Nat) (lo : Int), -2147483648 ≤ lo → lo + (ts.length : Int) ≤ 2147483648 → ajSc x f (f t0) lo ts = (if x.toInt < lo ∨ lo + (ts.length : Int) ≤ x.toInt then f t0 else f (ts.getD (x.toInt - lo).toNat 0)) := by
  intro ts
  induction ts with
  | nil =>
    intro lo h1 h2
    unfold ajSc
    rw [if_pos]
    show x.toInt < lo ∨ lo + ((0 : Nat) : Int) ≤ x.toInt
    omega
  | cons t r ih =>
    intro lo h1 h2
    unfold ajSc
    rw [List.length_cons] at h2
    by_cases hx : x = Int32.ofInt lo
    · have hxi : x.toInt = lo := by
        rw [hx]
        exact Int32.toInt_ofInt_of_le (by omega) (by omega)
      rw [if_pos hx, if_neg (by rw [List.length_cons]; omega), hxi]
      simp
    · have hne : x.toInt ≠ lo := by
        intro e
        apply hx
        rw [← e]
        exact (Int32.ofInt_toInt x).symm
      rw [if_neg hx, ih (lo + 1) (by omega) (by omega), List.length_cons]
      by_cases hc : x.toInt < lo + 1 ∨ lo + 1 + (r.length : Int) ≤ x.toInt
      · rw [if_pos hc, if_pos (by omega)]
      · rw [if_neg hc, if_neg (by omega)]
        have e : (x.toInt - lo).toNat = (x.toInt - (lo + 1)).toNat + 1 := by omega
        rw [e]
        rfl
theorem ajSw_eq {β : Type} (x : Int32) (f : Nat → β) (t0 : Nat) (ts : List Nat) (lo hi : Int) (h1 : -2147483648 ≤ lo) (h2 : hi < 2147483648) (h3 : (ts.length : Int) = hi - lo + 1) : f (ajSw (t0 :: ts) lo hi x) = ajSc x f (f t0) lo ts := by
  rw [ajSc_eq x f t0 ts lo h1 (by omega)]
  unfold ajSw
  by_cases hc : x.toInt < lo ∨ hi < x.toInt
  · rw [if_pos hc, if_pos (by omega)]; rfl
  · rw [if_neg hc, if_neg (by omega)]; rfl
theorem ajE_sw {d mi pc t0 : Nat} {ts : List Nat} {lo hi : Int} {x : Int32} {ps st ps' st' : List Value} {h h' : ajH} (hk : (ajCode mi pc).map (fun en => ajKd en.1) = some 0) (e : ajNext mi pc ps st h = some (ajSw (t0 :: ts) lo hi x, ps', st', h')) (h1 : -2147483648 ≤ lo) (h2 : hi < 2147483648) (h3 : (ts.length : Int) = hi - lo + 1) : ajLim d mi pc ps st h = ajSc x (fun t => ajLim d mi t ps' st' h') (ajLim d mi t0 ps' st' h') lo ts := by
  rw [ajE_n hk, e]
  exact ajSw_eq x (fun t => ajLim d mi t ps' st' h') t0 ts lo hi h1 h2 h3
-- ends
theorem ajE_end {d mi pc : Nat} {ps st : List Value} {h : ajH} {x : Option (Option Value × ajH)} (e : ∀ n, ajRun (n + 1) d mi pc ps st h = x) : ajLim d mi pc ps st h = x := by
  refine ajLim_ext fun q => ?_
  constructor
  · rintro ⟨n, hq⟩
    cases n with
    | zero => cases hq
    | succ n => rw [← e n]; exact hq
  · intro hq; exact ⟨1, by rw [e 0]; exact hq⟩
-- calls
theorem ajE_call {d mi pc a b cq : Nat} {en : ajE} {ps st ps' rest as ps0 : List Value} {h : ajH} (hen : ajCode mi pc = some en) (hk : ajKd en.1 = 1) (ha : en.2.2.1 = a) (hA : Nat.blt a 500 = true) (hb : (if en.2.2.2.2.1 = 0 then en.2.2.2.1 else en.2.2.2.1 + 1) = b) (hcq : en.2.2.2.2.1 = cq) (hs : ajStk b st = true) (has : (st.take b).reverse = as) (hrest : st.drop b = rest) (harg : ajArg a as = true) (hps : ajKill mi pc ps = ps') (hent : ajEnt (ajMx a) as = ps0) :
    ajLim (d + 1) mi pc ps st h = if ajRcv h cq as = true then (match ajLim d a 0 ps0 [] h with
      | some (r, h') => ajLim (d + 1) mi (pc + 3) ps' (r.toList ++ rest) h'
      | none => none) else none := by
  have hA := Nat.blt_eq ▸ hA
  have hrun : ∀ n, ajRun (n + 1) (d + 1) mi pc ps st h = if ajRcv h cq as = true then (match ajRun n d a 0 ps0 [] h with
      | some (r, h') => ajRun n (d + 1) mi (pc + 3) ps' (r.toList ++ rest) h'
      | none => none) else none := by
    intro n
    rw [ajRun_call hen hk]
    unfold ajInv
    dsimp only
    rw [hb, if_pos hs, ha, if_neg (by omega), if_neg (by omega), if_neg (by omega), if_neg (by omega), has, hrest, hcq, harg, hps, hent, Bool.true_and]
    rfl
  refine ajLim_ext fun q => ?_
  constructor
  · rintro ⟨n, hq⟩
    cases n with
    | zero => cases hq
    | succ n =>
      rw [hrun] at hq
      split at hq
      · rename_i hc
        rw [if_pos hc]
        split at hq
        · rename_i r h' h2
          rw [ajLim_iff.mpr ⟨n, h2⟩]
          exact ajLim_iff.mpr ⟨n, hq⟩
        · cases hq
      · cases hq
  · intro hq
    split at hq
    · rename_i hc
      split at hq
      · rename_i r h' h2
        obtain ⟨n1, g1⟩ := ajLim_iff.mp h2
        obtain ⟨n2, g2⟩ := ajLim_iff.mp hq
        refine ⟨max n1 n2 + 1, ?_⟩
        rw [hrun, if_pos hc, ajRun_le (Nat.le_max_left n1 n2) g1]
        exact ajRun_le (Nat.le_max_right n1 n2) g2
      · cases hq
    · cases hq
/-- a call that is no call of the tables: the walk goes on at once -/
theorem ajE_inl {d mi pc pc' : Nat} {en : ajE} {ps st ps' st' : List Value} {h h' : ajH} {P : Prop} [Decidable P] (hen : ajCode mi pc = some en) (hk : ajKd en.1 = 1) (e : ∀ n, ajInv n d mi pc en (ajKill mi pc ps) st h = if P then ajRun n d mi pc' ps' st' h' else none) : ajLim d mi pc ps st h = if P then ajLim d mi pc' ps' st' h' else none := by
  refine ajLim_ext fun q => ?_
  constructor
  · rintro ⟨n, hq⟩
    cases n with
    | zero => cases hq
    | succ n =>
      rw [ajRun_call hen hk, e] at hq
      split at hq
      · rename_i hc; rw [if_pos hc]; exact ajLim_iff.mpr ⟨n, hq⟩
      · cases hq
  · intro hq
    split at hq
    · rename_i hc
      obtain ⟨n, g⟩ := ajLim_iff.mp hq
      exact ⟨n + 1, by rw [ajRun_call hen hk, e, if_pos hc]; exact g⟩
    · cases hq
-- answers by their kinds
def ajBI (x : Option (Option Value × ajH)) (k : Int32 → ajH → Option (Option Value × ajH)) : Option (Option Value × ajH) := match x with
  | some (some (.int v), h) => k v h
  | _ => none
def ajBL (x : Option (Option Value × ajH)) (k : Int64 → ajH → Option (Option Value × ajH)) : Option (Option Value × ajH) := match x with
  | some (some (.long v), h) => k v h
  | _ => none
def ajBR (x : Option (Option Value × ajH)) (k : Nat → ajH → Option (Option Value × ajH)) : Option (Option Value × ajH) := match x with
  | some (some (.ref v), h) => k v h
  | _ => none
def ajBV (x : Option (Option Value × ajH)) (k : ajH → Option (Option Value × ajH)) : Option (Option Value × ajH) := match x with
  | some (none, h) => k h
  | _ => none
theorem ajRun_kind : ∀ (n d mi pc : Nat) (ps st : List Value) (h : ajH) (r : Option Value) (h' : ajH), ajRun n d mi pc ps st h = some (r, h') → (∃ x, r = some (.int x) ∧ ajRt mi < 4) ∨ (∃ x, r = some (.long x) ∧ ajRt mi = 4) ∨ (∃ x, r = some (.ref x) ∧ ajRt mi = 5) ∨ (r = none ∧ ajRt mi = 6) := by
  intro n
  induction n with
  | zero => intro d mi pc ps st h r h' hs; cases hs
  | succ n ih =>
    intro d mi pc ps st h r h' hs
    obtain ⟨en, hen, h1⟩ := ajRun_some hs
    rcases h1 with ⟨-, x, -, hr, hq⟩ | ⟨-, x, -, hr, hq⟩ | ⟨-, x, -, hr, hq⟩ | ⟨-, -, hr, hq⟩ | ⟨-, h1⟩ | ⟨u, h1, h2⟩
    · cases hq
      refine Or.inl ⟨x, rfl, ?_⟩
      unfold ajRet at hr
      split at hr <;> first | omega | cases hr
    · cases hq; exact Or.inr (Or.inl ⟨x, rfl, hr⟩)
    · cases hq; exact Or.inr (Or.inr (Or.inl ⟨x, rfl, hr⟩))
    · cases hq; exact Or.inr (Or.inr (Or.inr ⟨rfl, hr⟩))
    · obtain ⟨b, -, -, h1⟩ := ajInv_some h1
      rcases h1 with ⟨-, -, h1⟩ | ⟨-, h2, h3, h1⟩ | ⟨-, ⟨-, d1, r1, h2, rfl, h3, h1⟩ | ⟨-, -, h1⟩⟩ | ⟨d1, r1, h2, rfl, -, -, h3, -, -, -, -, h1⟩ | ⟨-, v, -, h1⟩ <;> exact ih _ _ _ _ _ _ _ _ h1
    · exact ih _ _ _ _ _ _ _ _ h2
theorem ajE_cI {d mi pc a b cq : Nat} {en : ajE} {ps st ps' rest as ps0 : List Value} {h : ajH} (hen : ajCode mi pc = some en) (hk : ajKd en.1 = 1) (ha : en.2.2.1 = a) (hA : Nat.blt a 500 = true) (hb : (if en.2.2.2.2.1 = 0 then en.2.2.2.1 else en.2.2.2.1 + 1) = b) (hcq : en.2.2.2.2.1 = cq) (hs : ajStk b st = true) (has : (st.take b).reverse = as) (hrest : st.drop b = rest) (harg : ajArg a as = true) (hps : ajKill mi pc ps = ps') (hent : ajEnt (ajMx a) as = ps0) (hrt : Nat.blt (ajRt a) 4 = true) :
    ajLim (d + 1) mi pc ps st h = if ajRcv h cq as = true then ajBI (ajLim d a 0 ps0 [] h) (fun v h' => ajLim (d + 1) mi (pc + 3) ps' (.int v :: rest) h') else none := by
  rw [ajE_call hen hk ha hA hb hcq hs has hrest harg hps hent]
  have hrt := Nat.blt_eq ▸ hrt
  split
  · unfold ajBI
    cases hx : ajLim d a 0 ps0 [] h with
    | none => rfl
    | some q =>
      obtain ⟨r, h'⟩ := q
      obtain ⟨n, hn⟩ := ajLim_iff.mp hx
      rcases ajRun_kind _ _ _ _ _ _ _ _ _ hn with ⟨x, rfl, z⟩ | ⟨x, rfl, z⟩ | ⟨x, rfl, z⟩ | ⟨rfl, z⟩ <;> first | rfl | omega
  · rfl
theorem ajE_cL {d mi pc a b cq : Nat} {en : ajE} {ps st ps' rest as ps0 : List Value} {h : ajH} (hen : ajCode mi pc = some en) (hk : ajKd en.1 = 1) (ha : en.2.2.1 = a) (hA : Nat.blt a 500 = true) (hb : (if en.2.2.2.2.1 = 0 then en.2.2.2.1 else en.2.2.2.1 + 1) = b) (hcq : en.2.2.2.2.1 = cq) (hs : ajStk b st = true) (has : (st.take b).reverse = as) (hrest : st.drop b = rest) (harg : ajArg a as = true) (hps : ajKill mi pc ps = ps') (hent : ajEnt (ajMx a) as = ps0) (hrt : ajRt a = 4) :
    ajLim (d + 1) mi pc ps st h = if ajRcv h cq as = true then ajBL (ajLim d a 0 ps0 [] h) (fun v h' => ajLim (d + 1) mi (pc + 3) ps' (.long v :: rest) h') else none := by
  rw [ajE_call hen hk ha hA hb hcq hs has hrest harg hps hent]
  split
  · unfold ajBL
    cases hx : ajLim d a 0 ps0 [] h with
    | none => rfl
    | some q =>
      obtain ⟨r, h'⟩ := q
      obtain ⟨n, hn⟩ := ajLim_iff.mp hx
      rcases ajRun_kind _ _ _ _ _ _ _ _ _ hn with ⟨x, rfl, z⟩ | ⟨x, rfl, z⟩ | ⟨x, rfl, z⟩ | ⟨rfl, z⟩ <;> first | rfl | omega
  · rfl
theorem ajE_cR {d mi pc a b cq : Nat} {en : ajE} {ps st ps' rest as ps0 : List Value} {h : ajH} (hen : ajCode mi pc = some en) (hk : ajKd en.1 = 1) (ha : en.2.2.1 = a) (hA : Nat.blt a 500 = true) (hb : (if en.2.2.2.2.1 = 0 then en.2.2.2.1 else en.2.2.2.1 + 1) = b) (hcq : en.2.2.2.2.1 = cq) (hs : ajStk b st = true) (has : (st.take b).reverse = as) (hrest : st.drop b = rest) (harg : ajArg a as = true) (hps : ajKill mi pc ps = ps') (hent : ajEnt (ajMx a) as = ps0) (hrt : ajRt a = 5) :
    ajLim (d + 1) mi pc ps st h = if ajRcv h cq as = true then ajBR (ajLim d a 0 ps0 [] h) (fun v h' => ajLim (d + 1) mi (pc + 3) ps' (.ref v :: rest) h') else none := by
  rw [ajE_call hen hk ha hA hb hcq hs has hrest harg hps hent]
  split
  · unfold ajBR
    cases hx : ajLim d a 0 ps0 [] h with
    | none => rfl
    | some q =>
      obtain ⟨r, h'⟩ := q
      obtain ⟨n, hn⟩ := ajLim_iff.mp hx
      rcases ajRun_kind _ _ _ _ _ _ _ _ _ hn with ⟨x, rfl, z⟩ | ⟨x, rfl, z⟩ | ⟨x, rfl, z⟩ | ⟨rfl, z⟩ <;> first | rfl | omega
  · rfl
theorem ajE_cV {d mi pc a b cq : Nat} {en : ajE} {ps st ps' rest as ps0 : List Value} {h : ajH} (hen : ajCode mi pc = some en) (hk : ajKd en.1 = 1) (ha : en.2.2.1 = a) (hA : Nat.blt a 500 = true) (hb : (if en.2.2.2.2.1 = 0 then en.2.2.2.1 else en.2.2.2.1 + 1) = b) (hcq : en.2.2.2.2.1 = cq) (hs : ajStk b st = true) (has : (st.take b).reverse = as) (hrest : st.drop b = rest) (harg : ajArg a as = true) (hps : ajKill mi pc ps = ps') (hent : ajEnt (ajMx a) as = ps0) (hrt : ajRt a = 6) :
    ajLim (d + 1) mi pc ps st h = if ajRcv h cq as = true then ajBV (ajLim d a 0 ps0 [] h) (fun h' => ajLim (d + 1) mi (pc + 3) ps' rest h') else none := by
  rw [ajE_call hen hk ha hA hb hcq hs has hrest harg hps hent]
  split
  · unfold ajBV
    cases hx : ajLim d a 0 ps0 [] h with
    | none => rfl
    | some q =>
      obtain ⟨r, h'⟩ := q
      obtain ⟨n, hn⟩ := ajLim_iff.mp hx
      rcases ajRun_kind _ _ _ _ _ _ _ _ _ hn with ⟨x, rfl, z⟩ | ⟨x, rfl, z⟩ | ⟨x, rfl, z⟩ | ⟨rfl, z⟩ <;> first | rfl | omega
  · rfl
