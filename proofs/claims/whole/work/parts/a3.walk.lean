/-! 'spoke', asked for what isn't there: a walk, step by step, to its throw. -/
section AXG
variable {p : Program} {l : Launch} {e : Env} {R : Room} {s : State} {m : MethodId} {args : Array Value} {below : List Frame} {meth : Method} {c : Code} {H : Heap} {locs : List Loc} {cells slots : Nat} {Q : State → Prop}
variable {pc : Nat} {ls : Array Slot} {base : Nat} {D : va_G} {dA : Nat → ClassId} {cst : Nat → Value} {xs : Nat → Int32} {L mi : Nat} {h : ajH} {ps st : List Value} {en : ajE}
/-- one step behind a guard, nothing written -/
theorem ajW_go {pc' : Nat} {ps' st' : List Value} {P : Prop} [Decidable P] (C0 : ajCtx base D dA cst xs L mi p R s m args meth c) (Y : ajDyn base D dA cst xs L s h H locs cells) (hl : ajLv base cst ls (ajMx mi) ps) (hc : cells ≤ R.cells) (hw : slots ≤ R.slots) (hen : ajCode mi pc = some en) (hs : ajStep en pc (ajKill mi pc ps) st h = if P then some (pc', ps', st', h) else none) (hp : P)
    (kk : ∀ (H1 : Heap) (locs1 : List Loc) (ls1 : Array Slot), ajDyn base D dA cst xs L s h H1 locs1 cells → ajLv base cst ls1 (ajMx mi) ps' → W p l e R s m args below meth c H1 locs1 cells slots Q (F0 m pc' ls1 (st'.map (ajCz base cst)))) : W p l e R s m args below meth c H locs cells slots Q (F0 m pc ls (st.map (ajCz base cst))) := by
  rw [if_pos hp] at hs
  refine ajW_step C0 Y (ajLv_kill hl) (ajChk_all mi pc en hen) hs (by dsimp only; omega) (by dsimp only; omega) ?_
  intro H1 locs1 ls1 cells1 slots1 Y1 hl1 e1 e2
  dsimp only at Y1 hl1 e1 e2 ⊢
  have e1 : cells1 = cells := by omega
  have e2 : slots1 = slots := by omega
  subst e1 e2
  exact kk H1 locs1 ls1 Y1 hl1
/-- a branch -/
theorem ajW_br {p1 p2 : Nat} {ps1 st1 ps2 st2 : List Value} {q : Prop} [Decidable q] (C0 : ajCtx base D dA cst xs L mi p R s m args meth c) (Y : ajDyn base D dA cst xs L s h H locs cells) (hl : ajLv base cst ls (ajMx mi) ps) (hc : cells ≤ R.cells) (hw : slots ≤ R.slots) (hen : ajCode mi pc = some en) (hs : ajStep en pc (ajKill mi pc ps) st h = if decide q = true then some (p1, ps1, st1, h) else some (p2, ps2, st2, h))
    (k1 : q → ∀ (H1 : Heap) (locs1 : List Loc) (ls1 : Array Slot), ajDyn base D dA cst xs L s h H1 locs1 cells → ajLv base cst ls1 (ajMx mi) ps1 → W p l e R s m args below meth c H1 locs1 cells slots Q (F0 m p1 ls1 (st1.map (ajCz base cst))))
    (k2 : ¬ q → ∀ (H1 : Heap) (locs1 : List Loc) (ls1 : Array Slot), ajDyn base D dA cst xs L s h H1 locs1 cells → ajLv base cst ls1 (ajMx mi) ps2 → W p l e R s m args below meth c H1 locs1 cells slots Q (F0 m p2 ls1 (st2.map (ajCz base cst)))) : W p l e R s m args below meth c H locs cells slots Q (F0 m pc ls (st.map (ajCz base cst))) := by
  by_cases z : q
  · rw [if_pos (decide_eq_true z)] at hs
    exact ajW_go C0 Y hl hc hw hen (hs.trans (if_pos trivial).symm) trivial (k1 z)
  · rw [if_neg (by rw [decide_eq_true_eq]; exact z)] at hs
    exact ajW_go C0 Y hl hc hw hen (hs.trans (if_pos trivial).symm) trivial (k2 z)
end AXG
section AXN
variable {l : Launch} {base : Nat} {D : va_G} {dA : Nat → ClassId} {cst : Nat → Value} {xs : Nat → Int32} {L : Nat}
/-- a method's contract, out of any walk -/
theorem ajMet_w {d a : Nat} {as : List Value} {h h1 : ajH} {r : Option Value} (hcst : ajCst cst) (hm : ajMOK a) (harg : ajArg a as = true) (hz : ajZz h) (hk : ajHk xs L h) (m1 : ajCt h ≤ ajCt h1) (m2 : ajW h ≤ ajW h1)
    (walk : ∀ (p : Program) (e : Env) (R : Room) (s : State) (m : MethodId) (args : Array Value) (below : List Frame) (meth : Method) (c : Code) (Q : State → Prop) (ls : Array Slot), R = ajRm d (ajCt h1 - ajCt h) (ajW h1 - ajW h) → ajCtx base D dA cst xs L a p R s m args meth c → ajDyn base D dA cst xs L s h s.heap [] 0 → ajLv base cst ls (ajMx a) (ajEnt (ajMx a) as) →
      (∀ (H1 : Heap) (locs1 : List Loc) (ls1 : Array Slot) (cells1 slots1 pc1 : Nat), ajDyn base D dA cst xs L s h1 H1 locs1 cells1 → cells1 + ajCt h = ajCt h1 → slots1 + ajW h = ajW h1 → ajRetAt a pc1 r → W p l e R s m args below meth c H1 locs1 cells1 slots1 Q (F0 m pc1 ls1 (r.toList.map (ajCz base cst)))) →
      W p l e R s m args below meth c s.heap [] 0 0 Q (F0 m 0 ls [])) : ajMet l base D dA cst xs L d a as h r h1 := by
  obtain ⟨hcode, hpl⟩ := hm
  unfold ajArg at harg
  rw [Bool.and_eq_true, Nat.ble_eq] at harg
  have hreal : ∀ v ∈ as, ajReal v := fun v hv => ajRl_real (List.all_eq_true.mp harg.1 v hv)
  refine Met.ofW (cc := ajBy a) (maxL := ajMx a) (ret := ajFt a) hpl rfl ?_
  intro p e s m args below meth c s₁ B hml hv
  obtain ⟨rfl, hE, hP, hbl, hcap⟩ := hv
  have hts0 := atoms_spec (ws := ajWd a) B.pre
  have hts : ∀ w ∈ ajGw, w.before (as.map (ajCz base cst)).toArray s = true := fun w hw => hts0 w (List.mem_cons_of_mem _ hw)
  have hown : s.vm.findClass (ajOwn a) = some m.cls := findClass_of_methodNamed B.named
  have C0 : ajCtx base D dA cst xs L a p (headSpec (ajWd a) (ajRm d (ajCt h1 - ajCt h) (ajW h1 - ajW h))).room s m (as.map (ajCz base cst)).toArray meth c := ⟨B.exec, B.bytes, hml, hown, hts, (name_of_methodNamed B.named B.method).1, hE, hcst, hbl, by show 1 ≤ d + 4; omega, by show 100 ≤ 100 * (d + 2); omega⟩
  rw [lg_entry_eq]
  have hl := ajLv_entry (base := base) hcst hreal harg.2
  have hS : va_S (ajA base) s.heap s.heap [] := va_S.rf
  refine walk p e _ s m _ below meth c _ _ rfl C0 ⟨hP, hz, hk, hS, by omega⟩ hl ?_
  intro H1 locs1 ls1 cells1 slots1 pc1 Y1 e1 e2 hret
  have ec : cells1 = ajCt h1 - ajCt h := by omega
  have es : slots1 = ajW h1 - ajW h := by omega
  subst ec; subst es
  obtain ⟨g1, g2, g3, g4, g5⟩ := Y1
  have hq : ∀ t : State, t.heap = H1 → s.WarmedH t.vm → ajQc base D dA cst xs L r h1 (as.map (ajCz base cst)).toArray s (.returned (r.map (ajCz base cst))) t := fun t ht _ => ⟨⟨rfl, by rw [ht]; exact g1, g2, g3⟩, g4.F ht⟩
  unfold ajRetAt at hret
  split at hret
  · rename_i x
    obtain ⟨hd, hr⟩ := hret
    unfold ajRet at hr
    split at hr
    · rename_i hrt
      have h5 := of_decide_eq_true (ajRt_eq hrt (by omega))
      exact W.iret B.exec B.bytes (by rw [B.returns]; exact h5) hq g4.2.2 hd B.notSynchronized
    · rename_i hrt
      have h5 := of_decide_eq_true (ajRt_eq hrt (by omega))
      exact W.zret B.exec B.bytes (by rw [B.returns]; exact h5) (by rcases of_decide_eq_true hr with rfl | rfl <;> rfl) hq g4.2.2 hd B.notSynchronized
    · rename_i hrt
      have h5 := of_decide_eq_true (ajRt_eq hrt (by omega))
      exact W.zret B.exec B.bytes (by rw [B.returns]; exact h5) (by have h6 := of_decide_eq_true hr; unfold vp_nar at h6; exact congrArg Value.int h6) hq g4.2.2 hd B.notSynchronized
    · rename_i hrt
      have h5 := of_decide_eq_true (ajRt_eq hrt (by omega))
      exact W.zret B.exec B.bytes (by rw [B.returns]; exact h5) (by have h6 := of_decide_eq_true hr; unfold vp_nar at h6; exact congrArg Value.int h6) hq g4.2.2 hd B.notSynchronized
    · cases hr
  · obtain ⟨hd, hrt⟩ := hret
    have h5 := of_decide_eq_true (ajRt_eq hrt (by omega))
    exact W.lret B.exec B.bytes (by rw [B.returns]; exact h5) hq g4.2.2 hd B.notSynchronized
  · rename_i x
    obtain ⟨hd, hrt⟩ := hret
    obtain ⟨C, hf⟩ := ajRtT5 (ajRt_eq hrt (by omega))
    exact W.aret B.exec B.bytes (by rw [B.returns]; exact hf) (Or.inl ⟨C, rfl⟩) (ajCz_ref base hcst x) hq g4.2.2 hd B.notSynchronized
  · obtain ⟨hd, hrt⟩ := hret
    have h5 := of_decide_eq_true (ajRt_eq hrt (by omega))
    exact W.vret B.exec B.bytes (by rw [B.returns]; exact h5) hq g4.2.2 hd B.notSynchronized
  · exact hret.elim
/-- whether k is a spoke -/
def spIs (h : ajH) (x : Nat) (k : Int32) : Int32 := if k < 0 then 0 else if ajI h (ajR h x 1) 0 ≤ k then 0 else 1
theorem M58 {x : Nat} {k : Int32} {h : ajH} (hcst : ajCst cst) (hm : ajMOK 58) (hx0 : ajOK h x 0) (hx1 : ajOK h (ajR h x 1) 2) (hz : ajZz h) (hk : ajHk xs L h) : ajMet l base D dA cst xs L 0 58 [.ref x, .int k] h (some (.int (spIs h x k))) h := by
  refine ajMet_w hcst hm rfl hz hk (Nat.le_refl _) (Nat.le_refl _) ?_
  intro p e R s m args below meth c Q ls hR C0 Y hl kfin
  have hc : 0 ≤ R.cells := Nat.zero_le _
  have hw : 0 ≤ R.slots := Nat.zero_le _
  have fin : ∀ (v : Int32), spIs h x k = v → (v = 0 ∨ v = 1) → ∀ (H1 : Heap) (locs1 : List Loc) (ls1 : Array Slot), ajDyn base D dA cst xs L s h H1 locs1 0 → W p l e R s m args below meth c H1 locs1 0 0 Q (F0 m 20 ls1 (([.int v] : List Value).map (ajCz base cst))) := by
    intro v hv hb H1 locs1 ls1 Y1
    have z := kfin H1 locs1 ls1 0 0 20 Y1 (by omega) (by omega) ⟨by decide +kernel, by
      rw [hv]
      show decide (v = 0 ∨ v = 1) = true
      exact decide_eq_true hb⟩
    rw [hv] at z
    exact z
  have zero : spIs h x k = 0 → ∀ (H1 : Heap) (locs1 : List Loc) (ls1 : Array Slot), ajDyn base D dA cst xs L s h H1 locs1 0 → ajLv base cst ls1 (ajMx 58) [.ref x, .int k] → W p l e R s m args below meth c H1 locs1 0 0 Q (F0 m 19 ls1 (([] : List Value).map (ajCz base cst))) := by
    intro hv H1 locs1 ls1 Y1 hl1
    exact ajW_go (P := True) (pc' := 20) (ps' := [.ref x, .int k]) (st' := [.int 0]) C0 Y1 hl1 hc hw rfl (by rw [if_pos trivial]; rfl) trivial (fun H2 l2 ls2 Y2 _ => fin 0 hv (Or.inl rfl) H2 l2 ls2 Y2)
  refine ajW_go (P := True) (pc' := 1) (ps' := [.ref x, .int k]) (st' := [.int k]) (st := []) C0 Y hl hc hw rfl (by rw [if_pos trivial]; rfl) trivial ?_
  intro H1 locs1 ls1 Y hl
  refine ajW_br (q := k < 0) (p1 := 19) (p2 := 4) (ps1 := [.ref x, .int k]) (ps2 := [.ref x, .int k]) (st1 := []) (st2 := []) C0 Y hl hc hw rfl rfl ?_ ?_
  · intro z H2 locs2 ls2 Y hl
    exact zero (if_pos z) H2 locs2 ls2 Y hl
  intro z0 H2 locs2 ls2 Y hl
  refine ajW_go (P := True) (pc' := 5) (ps' := [.ref x, .int k]) (st' := [.int k]) (st := []) C0 Y hl hc hw rfl (by rw [if_pos trivial]; rfl) trivial ?_
  intro H3 locs3 ls3 Y hl
  refine ajW_go (P := True) (pc' := 6) (ps' := [.ref x, .int k]) (st' := [.ref x, .int k]) (st := [.int k]) C0 Y hl hc hw rfl (by rw [if_pos trivial]; rfl) trivial ?_
  intro H4 locs4 ls4 Y hl
  refine ajW_go (P := ajOK h x 0) (pc' := 9) (ps' := [.ref x, .int k]) (st' := [.ref (ajR h x 1), .int k]) (st := [.ref x, .int k]) C0 Y hl hc hw rfl rfl hx0 ?_
  intro H5 locs5 ls5 Y hl
  refine ajW_go (P := ajOK h (ajR h x 1) 2) (pc' := 12) (ps' := [.ref x, .int k]) (st' := [.int (ajI h (ajR h x 1) 0), .int k]) (st := [.ref (ajR h x 1), .int k]) C0 Y hl hc hw rfl rfl hx1 ?_
  intro H6 locs6 ls6 Y hl
  refine ajW_br (q := ajI h (ajR h x 1) 0 ≤ k) (p1 := 19) (p2 := 15) (ps1 := [.ref x, .int k]) (ps2 := [.ref x, .int k]) (st1 := []) (st2 := []) (st := [.int (ajI h (ajR h x 1) 0), .int k]) C0 Y hl hc hw rfl rfl ?_ ?_
  · intro z H7 locs7 ls7 Y hl
    exact zero ((if_neg z0).trans (if_pos z)) H7 locs7 ls7 Y hl
  intro z1 H7 locs7 ls7 Y hl
  refine ajW_go (P := True) (pc' := 16) (ps' := [.ref x, .int k]) (st' := [.int 1]) (st := []) C0 Y hl hc hw rfl (by rw [if_pos trivial]; rfl) trivial ?_
  intro H8 locs8 ls8 Y hl
  refine ajW_go (P := True) (pc' := 20) (ps' := [.ref x, .int k]) (st' := [.int 1]) (st := [.int 1]) C0 Y hl hc hw rfl (by rw [if_pos trivial]; rfl) trivial ?_
  intro H9 locs9 ls9 Y hl
  exact fin 1 ((if_neg z0).trans (if_neg z1)) (Or.inr rfl) H9 locs9 ls9 Y
end AXN
