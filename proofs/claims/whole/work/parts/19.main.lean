/-! By induction on the fuel: the machine follows the abstract machine, calls and all. -/
def ajRetAt (mi pc : Nat) (r : Option Value) : Prop := match r with
  | some (.int x) => decode (ajBy mi) pc = .ok (.ireturn, 1) ∧ ajRet (ajRt mi) x = true
  | some (.long _) => decode (ajBy mi) pc = .ok (.lreturn, 1) ∧ ajRt mi = 4
  | some (.ref _) => decode (ajBy mi) pc = .ok (.areturn, 1) ∧ ajRt mi = 5
  | none => decode (ajBy mi) pc = .ok (.return_, 1) ∧ ajRt mi = 6
  | _ => False
def ajSt (l : Launch) (base : Nat) (D : va_G) (dA : Nat → ClassId) (cst : Nat → Value) (xs : Nat → Int32) (L n : Nat) : Prop :=
  ∀ (p : Program) (e : Env) (R : Room) (s : State) (m : MethodId) (args : Array Value) (below : List Frame) (meth : Method) (c : Code) (Q : State → Prop) (d mi pc : Nat) (ps st : List Value) (h : ajH) (r : Option Value) (h' : ajH) (H : Heap) (locs : List Loc) (ls : Array Slot) (cells slots : Nat),
    ajRun n d mi pc ps st h = some (r, h') → d + 4 ≤ R.frames → 100 * (d + 2) ≤ R.locals → ajCtx base D dA cst xs L mi p R s m args meth c → ajDyn base D dA cst xs L s h H locs cells → ajLv base cst ls (ajMx mi) ps →
    cells + ajCt h' ≤ R.cells + ajCt h → slots + ajW h' ≤ R.slots + ajW h →
    (∀ (H1 : Heap) (locs1 : List Loc) (ls1 : Array Slot) (cells1 slots1 pc1 : Nat), ajDyn base D dA cst xs L s h' H1 locs1 cells1 → cells1 + ajCt h = cells + ajCt h' → slots1 + ajW h = slots + ajW h' → ajRetAt mi pc1 r →
      W p l e R s m args below meth c H1 locs1 cells1 slots1 Q (F0 m pc1 ls1 (r.toList.map (ajCz base cst)))) →
    W p l e R s m args below meth c H locs cells slots Q (F0 m pc ls (st.map (ajCz base cst)))
/-- the law's call of 'spoke', which may throw: proved apart -/
def ajExt (l : Launch) (base : Nat) (D : va_G) (dA : Nat → ClassId) (cst : Nat → Value) (xs : Nat → Int32) (L : Nat) : Prop :=
  ∀ (n : Nat), ajSt l base D dA cst xs L n → ∀ (p : Program) (e : Env) (R : Room) (s : State) (m : MethodId) (args : Array Value) (below : List Frame) (meth : Method) (c : Code) (Q : State → Prop) (d pc idx : Nat) (st : List Value) (h : ajH) (H : Heap) (locs : List Loc) (ls : Array Slot) (cells slots : Nat) (w : Int32) (h1 : ajH),
    d + 4 ≤ R.frames → 100 * (d + 2) ≤ R.locals → ajCtx base D dA cst xs L ajLaw p R s m args meth c → ajDyn base D dA cst xs L s h H locs cells → ls.size = ajMx ajLaw → decode (ajBy ajLaw) pc = .ok (.invokestatic idx, 3) → ajStk 4 st = true →
    idx = ajSpX →
    ((w = 0 ∧ ajSpk h ((st.take 4).reverse) = some true ∧ ∃ d1 r h2, d = d1 + 2 ∧ ajRun n d1 ajSpI 0 (ajEnt (ajMx ajSpI) (((st.take 4).reverse).take 3)) [] h = some (some (.int r), h2) ∧ h1 = (ajOut ((st.take 4).reverse) h2 r)) ∨
      (w = 1 ∧ ajSpk h ((st.take 4).reverse) = some false ∧ 8 ≤ d ∧ h1 = ajTh h)) →
    cells + ajCt h1 ≤ R.cells + ajCt h → slots + ajW h1 ≤ R.slots + ajW h →
    (∀ (H1 : Heap) (locs1 : List Loc) (cells1 slots1 : Nat), ajDyn base D dA cst xs L s h1 H1 locs1 cells1 → cells1 + ajCt h = cells + ajCt h1 → slots1 + ajW h = slots + ajW h1 → W p l e R s m args below meth c H1 locs1 cells1 slots1 Q (F0 m (pc + 3) ls ((.int w :: st.drop 4).map (ajCz base cst)))) →
    W p l e R s m args below meth c H locs cells slots Q (F0 m pc ls (st.map (ajCz base cst)))
section AJN
variable {l : Launch} {base : Nat} {D : va_G} {dA : Nat → ClassId} {cst : Nat → Value} {xs : Nat → Int32} {L : Nat}
theorem ajRl_real {v : Value} (h : ajRl v = true) : ajReal v := by cases v <;> first | trivial | cases h
/-- what the rest of the tables says of a method -/
def ajMOK (a : Nat) : Prop := Cond.code (ajYn a) (ajBy a) (ajMx a) (ajFt a) ∈ ajGw ∧ plainName (ajYn a).cls = true
/-- the kind of the answer, by the table's number -/
def ajRtT (t : Nat) (f : Option FieldType) : Bool := match t with
  | 0 => decide (f = some .int)
  | 1 => decide (f = some .boolean)
  | 2 => decide (f = some .char)
  | 3 => decide (f = some .byte)
  | 4 => decide (f = some .long)
  | 5 => (match f with
    | some (.object _) => true
    | _ => false)
  | 6 => decide (f = none)
  | _ => true
theorem ajRtT5 {f : Option FieldType} (h : ajRtT 5 f = true) : ∃ C, f = some (.object C) := by
  unfold ajRtT at h
  cases f with
  | none => cases h
  | some t => cases t <;> first | exact ⟨_, rfl⟩ | cases h
theorem ajRtOK_all : (List.range 300).all (fun a => ajRtT (ajRt a) (ajFt a)) = true := by decide +kernel
theorem ajRt_eq {a t : Nat} (ht : ajRt a = t) (h9 : t < 9) : ajRtT t (ajFt a) = true := by
  subst ht
  by_cases ha : a < 300
  · exact List.all_eq_true.mp ajRtOK_all a (List.mem_range.mpr ha)
  · exfalso
    unfold ajRt at h9
    have h1 : ajRts.length ≤ 300 := by decide +kernel
    rw [List.getD_eq_getElem?_getD, List.getElem?_eq_none (by omega)] at h9
    exact absurd h9 (by decide)
/-- a method's contract, out of the walk -/
theorem ajMet_of {n d a : Nat} {as : List Value} {h h1 : ajH} {r : Option Value} (hcst : ajCst cst) (ih : ajSt l base D dA cst xs L n) (hm : ajMOK a) (hrun : ajRun n d a 0 (ajEnt (ajMx a) as) [] h = some (r, h1)) (harg : ajArg a as = true) (hz : ajZz h) (hk : ajHk xs L h) : ajMet l base D dA cst xs L d a as h r h1 := by
  obtain ⟨hcode, hpl⟩ := hm
  unfold ajArg at harg
  rw [Bool.and_eq_true, Nat.ble_eq] at harg
  have hreal : ∀ v ∈ as, ajReal v := fun v hv => ajRl_real (List.all_eq_true.mp harg.1 v hv)
  have hmono := ajRun_mono _ _ _ _ _ _ _ _ hrun
  refine Met.ofW (cc := ajBy a) (maxL := ajMx a) (ret := ajFt a) hpl rfl ?_
  intro p e s m args below meth c s₁ B hml hv
  obtain ⟨rfl, hE, hP, hbl, hcap⟩ := hv
  have hts0 := atoms_spec (ws := ajWd a) B.pre
  have hts : ∀ w ∈ ajGw, w.before (as.map (ajCz base cst)).toArray s = true := fun w hw => hts0 w (List.mem_cons_of_mem _ hw)
  have hown : s.vm.findClass (ajOwn a) = some m.cls := findClass_of_methodNamed B.named
  have C0 : ajCtx base D dA cst xs L a p (headSpec (ajWd a) (ajRm d (ajCt h1 - ajCt h) (ajW h1 - ajW h))).room s m (as.map (ajCz base cst)).toArray meth c := ⟨B.exec, B.bytes, hml, hown, hts, (name_of_methodNamed B.named B.method).1, hE, hcst, hbl, by show 1 ≤ d + 4; omega, by show 100 ≤ 100 * (d + 2); omega⟩
  rw [lg_entry_eq]
  have hl := ajLv_entry (base := base) hcst hreal harg.2
  have hS : va_S (ajA base) s.heap s.heap [] := va_S.rf
  refine ih p e _ s m _ below meth c _ d a 0 (ajEnt (ajMx a) as) [] h r h1 s.heap [] _ 0 0 hrun (by show d + 4 ≤ d + 4; omega) (Nat.le_refl _) C0 ⟨hP, hz, hk, hS, by omega⟩ hl (by show 0 + ajCt h1 ≤ (ajCt h1 - ajCt h) + ajCt h; omega) (by show 0 + ajW h1 ≤ (ajW h1 - ajW h) + ajW h; omega) ?_
  intro H1 locs1 ls1 cells1 slots1 pc1 Y1 e1 e2 hret
  have ec : cells1 = ajCt h1 - ajCt h := by omega
  have es : slots1 = ajW h1 - ajW h := by omega
  subst ec; subst es
  obtain ⟨g1, g2, g3, g4, g5⟩ := Y1
  have hq : ∀ t : State, t.heap = H1 → s.WarmedH t.vm → ajQc base D dA cst xs L r h1 (as.map (ajCz base cst)).toArray s (.returned (r.map (ajCz base cst))) t := fun t ht _ => ⟨⟨rfl, by rw [ht]; exact g1, g2, g3⟩, g4.F ht⟩
  unfold ajRetAt at hret
  split at hret
  · rename_i x
    obtain ⟨hd, hr⟩ := hret
    unfold ajRet at hr
    split at hr
    · rename_i hrt
      have h5 := of_decide_eq_true (ajRt_eq hrt (by omega))
      exact W.iret B.exec B.bytes (by rw [B.returns]; exact h5) hq g4.2.2 hd B.notSynchronized
    · rename_i hrt
      have h5 := of_decide_eq_true (ajRt_eq hrt (by omega))
      exact W.zret B.exec B.bytes (by rw [B.returns]; exact h5) (by rcases of_decide_eq_true hr with rfl | rfl <;> rfl) hq g4.2.2 hd B.notSynchronized
    · rename_i hrt
      have h5 := of_decide_eq_true (ajRt_eq hrt (by omega))
      exact W.zret B.exec B.bytes (by rw [B.returns]; exact h5) (by have h6 := of_decide_eq_true hr; unfold vp_nar at h6; exact congrArg Value.int h6) hq g4.2.2 hd B.notSynchronized
    · rename_i hrt
      have h5 := of_decide_eq_true (ajRt_eq hrt (by omega))
      exact W.zret B.exec B.bytes (by rw [B.returns]; exact h5) (by have h6 := of_decide_eq_true hr; unfold vp_nar at h6; exact congrArg Value.int h6) hq g4.2.2 hd B.notSynchronized
    · cases hr
  · obtain ⟨hd, hrt⟩ := hret
    have h5 := of_decide_eq_true (ajRt_eq hrt (by omega))
    exact W.lret B.exec B.bytes (by rw [B.returns]; exact h5) hq g4.2.2 hd B.notSynchronized
  · rename_i x
    obtain ⟨hd, hrt⟩ := hret
    obtain ⟨C, hf⟩ := ajRtT5 (ajRt_eq hrt (by omega))
    exact W.aret B.exec B.bytes (by rw [B.returns]; exact hf) (Or.inl ⟨C, rfl⟩) (ajCz_ref base hcst x) hq g4.2.2 hd B.notSynchronized
  · obtain ⟨hd, hrt⟩ := hret
    have h5 := of_decide_eq_true (ajRt_eq hrt (by omega))
    exact W.vret B.exec B.bytes (by rw [B.returns]; exact h5) hq g4.2.2 hd B.notSynchronized
  · exact hret.elim
theorem ajChk_two {mi pc : Nat} {en : ajE} {B : Bool} (h : (decide (decode (ajBy mi) pc = .ok (en.1, en.2.1)) && B) = true) : B = true := by
  rw [Bool.and_eq_true] at h
  exact h.2
theorem ajLv_set {base : Nat} {cst : Nat → Value} {ls : Array Slot} {nL i : Nat} {ps : List Value} (h : ajLv base cst ls nL ps) : ajLv base cst ls nL (ps.set i ajU) := by
  refine ⟨h.1, h.2.1, by rw [List.length_set]; exact h.2.2.1, fun j v hj hv => ?_⟩
  by_cases hji : i = j
  · subst hji
    rw [List.getElem?_set] at hj
    simp only [ite_true] at hj
    split at hj
    · rw [← Option.some.inj hj] at hv; exact hv.elim
    · cases hj
  · rw [List.getElem?_set_ne hji] at hj
    exact h.2.2.2 j v hj hv
theorem ajLv_kl {base : Nat} {cst : Nat → Value} {ls : Array Slot} {nL : Nat} : ∀ (l : List Nat) (ps : List Value), ajLv base cst ls nL ps → ajLv base cst ls nL (ajKl ps l)
  | [], _, h => h
  | _ :: r, _, h => ajLv_kl r _ (ajLv_set h)
theorem ajLv_kill {base : Nat} {cst : Nat → Value} {ls : Array Slot} {nL mi pc : Nat} {ps : List Value} (h : ajLv base cst ls nL ps) : ajLv base cst ls nL (ajKill mi pc ps) := ajLv_kl _ _ h
theorem ajOne_some {as : List Value} (h : ajOne as = true) : ∃ o : Nat, as = [.ref o] ∧ 0 < o ∧ o < 1000 := by
  unfold ajOne at h
  split at h
  · rw [Bool.and_eq_true, Nat.blt_eq, Nat.blt_eq] at h
    exact ⟨_, rfl, h⟩
  · cases h
theorem ajChk_inv {mi pc idx len a b0 cq : Nat} {z : Int} {ts : List Nat} {ins : Instr} (hi : ins = .invokevirtual idx ∨ ins = .invokestatic idx ∨ ins = .invokespecial idx) (hck : ajChk mi pc (ins, len, a, b0, cq, z, ts) = true) : len = 3 ∧
    ((a < 500 ∧ ((ins = .invokestatic idx ∧ ajChI mi idx a b0 cq ts false false = true) ∨ (ins = .invokevirtual idx ∧ ajChI mi idx a b0 cq ts false true = true) ∨ (ins = .invokespecial idx ∧ ajChI mi idx a b0 cq ts true false = true))) ∨
     (a = 500 ∧ ins = .invokestatic idx ∧ b0 = 5 ∧ cq = 0 ∧ Cond.methodLink (ajOwn mi) idx arraycopyName ∈ ajGw) ∨ (a = 501 ∧ ins = .invokestatic idx ∧ mi = ajLaw ∧ b0 = 4 ∧ cq = 0 ∧ idx = ajSpX) ∨
     (a = 502 ∧ ins = .invokespecial idx ∧ b0 = 0 ∧ cq = 1 ∧ Cond.methodLink (ajOwn mi) idx Lib.objectInit ∈ ajGw) ∨
     (510 ≤ a ∧ ins = .invokestatic idx ∧ cq = 0 ∧ ∃ pp, ajChM (ajOwn mi) idx a b0 cq pp = true)) := by
  have h2 := ajChk_two hck
  rcases hi with rfl | rfl | rfl
  · dsimp only at h2
    rw [Bool.and_eq_true, Bool.and_eq_true, Nat.beq_eq, Nat.blt_eq] at h2
    exact ⟨h2.1, Or.inl ⟨h2.2.1, Or.inr (Or.inl ⟨rfl, h2.2.2⟩)⟩⟩
  · dsimp only at h2
    rw [Bool.and_eq_true, Nat.beq_eq] at h2
    refine ⟨h2.1, ?_⟩
    have h3 := h2.2
    split at h3
    · rename_i hb
      rw [Nat.blt_eq] at hb
      exact Or.inl ⟨hb, Or.inl ⟨rfl, h3⟩⟩
    · rw [Bool.or_eq_true, Bool.or_eq_true] at h3
      simp only [Bool.and_eq_true, Nat.beq_eq, Nat.ble_eq] at h3
      rcases h3 with (⟨k1, k2, k3, k4⟩ | ⟨k1, k2, k3, k4, k5⟩) | ⟨k1, k2⟩
      rotate_left 2
      · have k3 := k2
        unfold ajChM at k3
        rw [Bool.and_eq_true, Nat.beq_eq] at k3
        exact Or.inr (Or.inr (Or.inr (Or.inr ⟨k1, rfl, k3.1, _, k2⟩)))
      · exact Or.inr (Or.inl ⟨k1, rfl, k2, k3, ajHas_in k4⟩)
      · exact Or.inr (Or.inr (Or.inl ⟨k1, rfl, k2, k3, k4, k5⟩))
    · cases h3
  · dsimp only at h2
    rw [Bool.and_eq_true, Nat.beq_eq] at h2
    refine ⟨h2.1, ?_⟩
    have h3 := h2.2
    split at h3
    · rename_i hb
      rw [Nat.blt_eq] at hb
      exact Or.inl ⟨hb, Or.inr (Or.inr ⟨rfl, h3⟩)⟩
    · simp only [Bool.and_eq_true, Nat.beq_eq] at h3
      obtain ⟨k1, k2, k3, k4⟩ := h3
      exact Or.inr (Or.inr (Or.inr (Or.inl ⟨k1, rfl, k2, k3, ajHas_in k4⟩)))
    · cases h3
theorem ajW_run (hchk : ∀ mi pc en, ajCode mi pc = some en → ajChk mi pc en = true) (hext : ajExt l base D dA cst xs L) : ∀ n, ajSt l base D dA cst xs L n := by
  intro n
  induction n with
  | zero => intro p e R s m args below meth c Q d mi pc ps st h r h' H locs ls cells slots hs; cases hs
  | succ n ih =>
    intro p e R s m args below meth c Q d mi pc ps st h r h' H locs ls cells slots hs hd1 hd2 C0 Y hl hrc hrs kfin
    obtain ⟨en, hen, h1⟩ := ajRun_some hs
    have hck := hchk mi pc en hen
    have hl := ajLv_kill (pc := pc) (mi := mi) hl
    generalize ajKill mi pc ps = ps at h1 hl
    have hdec : decode (ajBy mi) pc = .ok (en.1, en.2.1) := by
      unfold ajChk at hck
      rw [Bool.and_eq_true, decide_eq_true_eq] at hck
      exact hck.1
    have C1 := C0
    obtain ⟨hx, hb, hml, hown, hts, hnm, hE, hcst, hbl, hfr, hlo⟩ := C1
    obtain ⟨ins, len, a, b0, cq, z, ts⟩ := en
    dsimp only at h1 hdec
    rcases h1 with ⟨rfl, x, rfl, hr, hq⟩ | ⟨rfl, x, rfl, hr, hq⟩ | ⟨rfl, x, rfl, hr, hq⟩ | ⟨rfl, rfl, hr, hq⟩ | ⟨⟨idx, hi⟩, hinv⟩ | ⟨u, h1, h2⟩
    · cases hq
      have hlen : len = 1 := Nat.eq_of_beq_eq_true (ajChk_two hck)
      subst hlen
      exact kfin H locs ls cells slots pc Y rfl rfl ⟨hdec, hr⟩
    · cases hq
      have hlen : len = 1 := Nat.eq_of_beq_eq_true (ajChk_two hck)
      subst hlen
      exact kfin H locs ls cells slots pc Y rfl rfl ⟨hdec, hr⟩
    · cases hq
      have hlen : len = 1 := Nat.eq_of_beq_eq_true (ajChk_two hck)
      subst hlen
      exact kfin H locs ls cells slots pc Y rfl rfl ⟨hdec, hr⟩
    · cases hq
      have hlen : len = 1 := Nat.eq_of_beq_eq_true (ajChk_two hck)
      subst hlen
      exact kfin H locs ls cells slots pc Y rfl rfl ⟨hdec, hr⟩
    · obtain ⟨b, hb0, hstk, h1⟩ := ajInv_some hinv
      clear hinv
      dsimp only at hb0 h1
      obtain ⟨hlen, hkind⟩ := ajChk_inv hi hck
      subst hlen
      rcases h1 with ⟨ha, hone, h1⟩ | ⟨ha, h2, h3, h1⟩ | ⟨ha, h1⟩ | ⟨d1, r1, h2, rfl, harg, hrcv, h3, n1, n2, n3, n4, h1⟩ | ⟨ha, v, hv, h1⟩
      · obtain ⟨-, rfl, rfl, rfl, hlk⟩ : a = 502 ∧ ins = .invokespecial idx ∧ b0 = 0 ∧ cq = 1 ∧ Cond.methodLink (ajOwn mi) idx Lib.objectInit ∈ ajGw := by
          rcases hkind with ⟨z1, -⟩ | ⟨z1, -⟩ | ⟨z1, -⟩ | z1 | ⟨z1, -⟩
          · omega
          · omega
          · omega
          · exact z1
          · omega
        have hb1 : b = 1 := hb0
        subst hb1
        unfold ajStk at hstk
        rw [Bool.and_eq_true, Nat.ble_eq, Nat.ble_eq] at hstk
        obtain ⟨o, has, ho0, ho9⟩ := ajOne_some hone
        have hst := ajMap_stack 1 st (ajCz base cst)
        rw [has] at hst
        have hst : st.map (ajCz base cst) = ajCz base cst (.ref o) :: (st.drop 1).map (ajCz base cst) := hst
        rw [ajCz_own (by omega) ho9] at hst
        have hcat : (((st.drop 1).map (ajCz base cst)).map fun v => v.category).sum ≤ 8 := by rw [ajCat_map hcst]; exact hstk.2
        have w1 := ajGwK 118 (w := .instanceMethod Lib.objectInit) (by decide +kernel) rfl
        have w2 := ajGwK 119 (w := .code Lib.objectInit ⟨#[0xb1]⟩ 1 none) (by decide +kernel) rfl
        rw [hst]
        have hm := ajRun_mono _ _ _ _ _ _ _ _ h1
        refine W.objInit (rest := (st.drop 1).map (ajCz base cst)) hx hb hown (hts _ hlk) (hts _ w1) (hts _ w2) rfl (by rw [hml]; exact hl.1) rfl hdec (by omega) (by show 2 * 0 + _ + 12 ≤ _; omega) ?_
        refine ih p e R s m args below meth c Q d mi (pc + 3) ps (st.drop 1) h r h' H locs ls cells slots h1 hd1 hd2 C0 Y hl hrc hrs ?_
        intro H2 locs2 ls2 cells2 slots2 pc2 Y2 e3 e4 hret
        exact kfin H2 locs2 ls2 cells2 slots2 pc2 Y2 e3 e4 hret
      · obtain ⟨-, rfl, rfl, rfl, hlk⟩ : a = 500 ∧ ins = .invokestatic idx ∧ b0 = 5 ∧ cq = 0 ∧ Cond.methodLink (ajOwn mi) idx arraycopyName ∈ ajGw := by
          rcases hkind with ⟨z1, -⟩ | z1 | ⟨z1, -⟩ | ⟨z1, -⟩ | ⟨z1, -⟩
          · omega
          · exact z1
          · omega
          · omega
          · omega
        have hb1 : b = 5 := hb0
        subst hb1
        have hm := ajRun_mono _ _ _ _ _ _ _ _ h1
        have hm1 := ajCopy_mono h3
        have hm2 : ajCt h2 = ajCt h ∧ ajW h2 = ajW h := by
          obtain ⟨s0, d0, sp, dp, nn, -, -, -, -, -, -, -, -, rfl⟩ := ajCopy_some h3
          exact ⟨rfl, rfl⟩
        refine ajW_copy C0 Y hl.1 hdec hlk hstk h3 (fun H1 locs1 Y1 => ?_)
        refine ih p e R s m args below meth c Q d mi (pc + 3) ps (st.drop 5) h2 r h' H1 locs1 ls cells slots h1 hd1 hd2 C0 Y1 hl (by omega) (by omega) ?_
        intro H2 locs2 ls2 cells2 slots2 pc2 Y2 e3 e4 hret
        exact kfin H2 locs2 ls2 cells2 slots2 pc2 Y2 (by omega) (by omega) hret
      · obtain ⟨-, rfl, rfl, rfl, rfl, hidx⟩ : a = 501 ∧ ins = .invokestatic idx ∧ mi = ajLaw ∧ b0 = 4 ∧ cq = 0 ∧ idx = ajSpX := by
          rcases hkind with ⟨z1, -⟩ | ⟨z1, -⟩ | z1 | ⟨z1, -⟩ | ⟨z1, -⟩
          · omega
          · omega
          · exact z1
          · omega
          · omega
        have hb1 : b = 4 := hb0
        subst hb1
        have fin : ∀ (w : Int32) (h2 : ajH), ajRun n d ajLaw (pc + 3) ps (.int w :: st.drop 4) h2 = some (r, h') → ∀ (H1 : Heap) (locs1 : List Loc) (cells1 slots1 : Nat), ajDyn base D dA cst xs L s h2 H1 locs1 cells1 → cells1 + ajCt h = cells + ajCt h2 → slots1 + ajW h = slots + ajW h2 → W p l e R s m args below meth c H1 locs1 cells1 slots1 Q (F0 m (pc + 3) ls ((.int w :: st.drop 4).map (ajCz base cst))) := by
          intro w h2 hr2 H1 locs1 cells1 slots1 Y1 e1 e2
          have hm := ajRun_mono _ _ _ _ _ _ _ _ hr2
          refine ih p e R s m args below meth c Q d ajLaw (pc + 3) ps _ h2 r h' H1 locs1 ls cells1 slots1 hr2 hd1 hd2 C0 Y1 hl (by omega) (by omega) ?_
          intro H2 locs2 ls2 cells2 slots2 pc2 Y2 e3 e4 hret
          exact kfin H2 locs2 ls2 cells2 slots2 pc2 Y2 (by omega) (by omega) hret
        rcases h1 with ⟨hsp, d1, r1, h2, rfl, h3, h1⟩ | ⟨hsp, hd8, h1⟩
        · have hm := ajRun_mono _ _ _ _ _ _ _ _ h1
          dsimp only at hm
          exact hext n ih p e R s m args below meth c Q _ pc idx st h H locs ls cells slots 0 _ hd1 hd2 C0 Y hl.1 hdec hstk hidx (Or.inl ⟨rfl, hsp, d1, r1, h2, rfl, h3, rfl⟩) (by omega) (by omega) (fin 0 _ h1)
        · have hm := ajRun_mono _ _ _ _ _ _ _ _ h1
          dsimp only at hm
          exact hext n ih p e R s m args below meth c Q _ pc idx st h H locs ls cells slots 1 _ hd1 hd2 C0 Y hl.1 hdec hstk hidx (Or.inr ⟨rfl, hsp, hd8, rfl⟩) (by omega) (by omega) (fin 1 _ h1)
      · have hk3 : (ins = .invokestatic idx ∧ ajChI mi idx a b0 cq ts false false = true) ∨ (ins = .invokevirtual idx ∧ ajChI mi idx a b0 cq ts false true = true) ∨ (ins = .invokespecial idx ∧ ajChI mi idx a b0 cq ts true false = true) := by
          rcases hkind with ⟨-, z1⟩ | ⟨z1, -⟩ | ⟨z1, -⟩ | ⟨z1, -⟩ | ⟨z1, -⟩
          · exact z1
          · exact absurd z1 n1
          · exact absurd z1 n2
          · exact absurd z1 n3
          · exact absurd z1 n4
        have hmok : ajMOK a := by
          rcases hk3 with ⟨-, z1⟩ | ⟨-, z1⟩ | ⟨-, z1⟩ <;> exact ⟨(ajChI_some z1).2.1, (ajChI_some z1).2.2.2.2.1⟩
        have hM := ajMet_of hcst ih hmok h3 harg Y.2.1 Y.2.2.1
        have hm := ajRun_mono _ _ _ _ _ _ _ _ h1
        have hm3 := ajRun_mono _ _ _ _ _ _ _ _ h3
        dsimp only at hm hm3
        subst hb0
        refine ajW_inv C0 Y hl.1 hk3 hdec hM (by omega) (by omega) hstk hrcv hm3.1 hm3.2 (by omega) (by omega) ?_
        intro H1 locs1 Y1
        refine ih p e R s m args below meth c Q (d1 + 1) mi (pc + 3) ps _ h2 r h' H1 locs1 ls _ _ h1 hd1 hd2 C0 Y1 hl (by omega) (by omega) ?_
        intro H2 locs2 ls2 cells2 slots2 pc2 Y2 e3 e4 hret
        exact kfin H2 locs2 ls2 cells2 slots2 pc2 Y2 (by omega) (by omega) hret
      · obtain ⟨-, rfl, rfl, pp, hpp⟩ : 510 ≤ a ∧ ins = .invokestatic idx ∧ cq = 0 ∧ ∃ pp, ajChM (ajOwn mi) idx a b0 cq pp = true := by
          rcases hkind with ⟨z1, -⟩ | ⟨z1, -⟩ | ⟨z1, -⟩ | ⟨z1, -⟩ | z1
          · omega
          · omega
          · omega
          · omega
          · exact z1
        have hb1 : b = b0 := hb0
        subst hb1
        have hm := ajRun_mono _ _ _ _ _ _ _ _ h1
        dsimp only at hm
        refine ajW_math C0 hl.1 hdec hpp hstk hv (by omega) (by omega) ?_
        exact ih p e R s m args below meth c Q d mi (pc + 3) ps (v :: st.drop b) h r h' H locs ls cells slots h1 hd1 hd2 C0 Y hl hrc hrs kfin
    · have hm := ajRun_mono _ _ _ _ _ _ _ _ h2
      have hm1 := ajStep_mono h1
      dsimp only at hm
      refine ajW_step C0 Y hl hck h1 (by omega) (by omega) ?_
      intro H1 locs1 ls1 cells1 slots1 Y1 hl1 e1 e2
      refine ih p e R s m args below meth c Q d mi u.1 u.2.1 u.2.2.1 u.2.2.2 r h' H1 locs1 ls1 cells1 slots1 h2 hd1 hd2 C0 Y1 hl1 (by omega) (by omega) ?_
      intro H2 locs2 ls2 cells2 slots2 pc2 Y2 e3 e4 hret
      exact kfin H2 locs2 ls2 cells2 slots2 pc2 Y2 (by omega) (by omega) hret
end AJN
