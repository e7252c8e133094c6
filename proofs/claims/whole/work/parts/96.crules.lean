/-! Rules for heaps that are not yet whole, and for the law's call of 'spoke'. -/
theorem ajW_nw {d mi pc pc' a n k : Nat} {ps st ps' st' : List Value} {h : ajH} {Q : Option Value → ajH → Prop} (hk : (ajCode mi pc).map (fun en => ajKd en.1) = some 0) (e : ajNext mi pc ps st h = if ajX h = 0 ∧ ajN h < 999 ∧ ajSh (ajN h) = (a, n) then some (pc', ps', .ref (ajN h) :: st', ajAl h n) else none) (c : ajX h = 0 ∧ ajN h = k ∧ k < 999 ∧ ajSh k = (a, n)) (hw : ∀ h1, h1 = ajAl h n → ajEv d mi pc' ps' (.ref k :: st') h1 Q) : ajEv d mi pc ps st h Q := by
  obtain ⟨c1, c2, c3, c4⟩ := c
  subst c2
  exact ajEv_eq ((ajE_g hk e).trans (if_pos ⟨c1, c3, c4⟩)) (hw _ rfl)
theorem ajW_na {d mi pc pc' a n k : Nat} {x : Int32} {ps st ps' st' : List Value} {h : ajH} {Q : Option Value → ajH → Prop} (hk : (ajCode mi pc).map (fun en => ajKd en.1) = some 0) (e : ajNext mi pc ps st h = if ¬ x < 0 ∧ ajX h = 0 ∧ ajN h < 999 ∧ ajSh (ajN h) = (a, x.toNatClampNeg) ∧ x.toNatClampNeg ≤ 10000 then some (pc', ps', .ref (ajN h) :: st', ajAl h x.toNatClampNeg) else none) (x0 : ¬ x < 0 ∧ x.toNatClampNeg = n ∧ n ≤ 10000) (c : ajX h = 0 ∧ ajN h = k ∧ k < 999 ∧ ajSh k = (a, n)) (hw : ∀ h1, h1 = ajAl h n → ajEv d mi pc' ps' (.ref k :: st') h1 Q) : ajEv d mi pc ps st h Q := by
  obtain ⟨c1, c2, c3, c4⟩ := c
  obtain ⟨x1, x2, x3⟩ := x0
  subst c2
  subst x2
  exact ajEv_eq ((ajE_g hk e).trans (if_pos ⟨x1, c1, c3, c4, x3⟩)) (hw _ rfl)
theorem ajW_kV {d mi pc a b cq : Nat} {en : ajE} {ps st ps' rest as ps0 : List Value} {h : ajH} {Q : Option Value → ajH → Prop} (hen : ajCode mi pc = some en) (hk : ajKd en.1 = 1) (ha : en.2.2.1 = a) (hA : Nat.blt a 500 = true) (hb : (if en.2.2.2.2.1 = 0 then en.2.2.2.1 else en.2.2.2.1 + 1) = b) (hcq : en.2.2.2.2.1 = cq) (hs : ajStk b st = true) (has : (st.take b).reverse = as) (hrest : st.drop b = rest) (harg : ajArg a as = true) (hps : ajKill mi pc ps = ps') (hent : ajEnt (ajMx a) as = ps0) (hrt : ajRt a = 6) (g : ajRcv h cq as = true)
    (hw : ajEv d a 0 ps0 [] h (fun r h' => r = none ∧ ajEv (d + 1) mi (pc + 3) ps' rest h' Q)) : ajEv (d + 1) mi pc ps st h Q := by
  obtain ⟨r, h', e, rfl, v⟩ := hw
  have e1 := (ajE_cV (d := d) hen hk ha hA hb hcq hs has hrest harg hps hent hrt).trans (if_pos g)
  rw [e] at e1
  exact ajEv_eq e1 v
theorem ajW_kI {d mi pc a b cq : Nat} {en : ajE} {ps st ps' rest as ps0 : List Value} {h : ajH} {Q : Option Value → ajH → Prop} (hen : ajCode mi pc = some en) (hk : ajKd en.1 = 1) (ha : en.2.2.1 = a) (hA : Nat.blt a 500 = true) (hb : (if en.2.2.2.2.1 = 0 then en.2.2.2.1 else en.2.2.2.1 + 1) = b) (hcq : en.2.2.2.2.1 = cq) (hs : ajStk b st = true) (has : (st.take b).reverse = as) (hrest : st.drop b = rest) (harg : ajArg a as = true) (hps : ajKill mi pc ps = ps') (hent : ajEnt (ajMx a) as = ps0) (hrt : Nat.blt (ajRt a) 4 = true) (g : ajRcv h cq as = true)
    (hw : ajEv d a 0 ps0 [] h (fun r h' => ∃ x, r = some (.int x) ∧ ajEv (d + 1) mi (pc + 3) ps' (.int x :: rest) h' Q)) : ajEv (d + 1) mi pc ps st h Q := by
  obtain ⟨r, h', e, x, rfl, v⟩ := hw
  have e1 := (ajE_cI (d := d) hen hk ha hA hb hcq hs has hrest harg hps hent hrt).trans (if_pos g)
  rw [e] at e1
  exact ajEv_eq e1 v
theorem ajInv_ob {n d mi pc b : Nat} {en : ajE} {ps st rest as : List Value} {h : ajH} (hb : (if en.2.2.2.2.1 = 0 then en.2.2.2.1 else en.2.2.2.1 + 1) = b) (ha : en.2.2.1 = 502) (hs : ajStk b st = true) (has : (st.take b).reverse = as) (hrest : st.drop b = rest) : ajInv n d mi pc en ps st h = if ajOne as = true then ajRun n d mi (pc + 3) ps rest h else none := by
  unfold ajInv
  dsimp only
  rw [hb, if_pos hs, if_pos ha, has, hrest]
theorem ajW_ob {d mi pc b : Nat} {en : ajE} {ps st ps' rest as : List Value} {h : ajH} {Q : Option Value → ajH → Prop} (hen : ajCode mi pc = some en) (hk : ajKd en.1 = 1) (ha : en.2.2.1 = 502) (hb : (if en.2.2.2.2.1 = 0 then en.2.2.2.1 else en.2.2.2.1 + 1) = b) (hs : ajStk b st = true) (has : (st.take b).reverse = as) (hrest : st.drop b = rest) (hps : ajKill mi pc ps = ps') (p : ajOne as = true) (hw : ajEv d mi (pc + 3) ps' rest h Q) : ajEv d mi pc ps st h Q :=
  ajW_inl (P := ajOne as = true) hen hk (fun n => by rw [hps]; exact ajInv_ob hb ha hs has hrest) p (fun h1 e => by rw [e]; exact hw)
theorem ajW_501 {d mi pc : Nat} {en : ajE} {ps st ps' rest as : List Value} {h : ajH} {Q : Option Value → ajH → Prop} (hen : ajCode mi pc = some en) (hk : ajKd en.1 = 1) (ha : en.2.2.1 = 501) (hb : (if en.2.2.2.2.1 = 0 then en.2.2.2.1 else en.2.2.2.1 + 1) = 4) (hs : ajStk 4 st = true) (has : (st.take 4).reverse = as) (hrest : st.drop 4 = rest) (hps : ajKill mi pc ps = ps')
    (hw : (ajSpk h as = some true ∧ ajEv d ajSpI 0 (ajEnt (ajMx ajSpI) (as.take 3)) [] h (fun r h' => ∃ x, r = some (.int x) ∧ ajEv (d + 2) mi (pc + 3) ps' (.int 0 :: rest) (ajOut as h' x) Q)) ∨ (ajSpk h as = some false ∧ 8 ≤ d + 2 ∧ ajEv (d + 2) mi (pc + 3) ps' (.int 1 :: rest) (ajTh h) Q)) : ajEv (d + 2) mi pc ps st h Q := by
  rcases hw with ⟨hp, r, h1, e1, x, rfl, r2, h2, e2, q⟩ | ⟨hp, h8, r2, h2, e2, q⟩
  · obtain ⟨n1, e1⟩ := ajLim_iff.mp e1
    obtain ⟨n2, e2⟩ := ajLim_iff.mp e2
    refine ⟨r2, h2, ajLim_iff.mpr ⟨max n1 n2 + 1, ?_⟩, q⟩
    rw [ajRun_call hen hk, hps]
    unfold ajInv
    dsimp only
    rw [hb, if_pos hs, ha, if_neg (by decide), if_neg (by decide), if_pos rfl, has, hrest, hp]
    dsimp only
    rw [ajRun_le (Nat.le_max_left n1 n2) e1]
    exact ajRun_le (Nat.le_max_right n1 n2) e2
  · obtain ⟨n2, e2⟩ := ajLim_iff.mp e2
    refine ⟨r2, h2, ajLim_iff.mpr ⟨n2 + 1, ?_⟩, q⟩
    rw [ajRun_call hen hk, hps]
    unfold ajInv
    dsimp only
    rw [hb, if_pos hs, ha, if_neg (by decide), if_neg (by decide), if_pos rfl, has, hrest, hp]
    dsimp only
    rw [if_pos h8]
    exact e2
