/-! Calls. -/
def ajQz (v0 : Option Value) (B : State → Prop) (A : Nat → Prop) : Array Value → State → Outcome → State → Prop := fun _ st oc t => (oc = .returned v0 ∧ B t) ∧ va_F A st t
def ajRm (d mc ms : Nat) : Room := { frames := d + 4, cells := mc, slots := ms, locals := 100 * (d + 2) }
def ajPc (base : Nat) (D : va_G) (dA : Nat → ClassId) (cst : Nat → Value) (xs : Nat → Int32) (L : Nat) (as : List Value) (h : ajH) : Array Value → State → Prop :=
  va_Pc (as.map (ajCz base cst)) (fun U => ajEnv base D dA cst xs L U U.heap ∧ va_P D ajCl (ajWs base cst dA h) U.heap ∧ base < U.heap.size ∧ U.heap.size ≤ base + ajCt h)
def ajQc (base : Nat) (D : va_G) (dA : Nat → ClassId) (cst : Nat → Value) (xs : Nat → Int32) (L : Nat) (r : Option Value) (h' : ajH) : Array Value → State → Outcome → State → Prop :=
  ajQz (r.map (ajCz base cst)) (fun t => va_P D ajCl (ajWs base cst dA h') t.heap ∧ ajZz h' ∧ ajHk xs L h') (ajA base)
def ajWd (mi : Nat) : List Cond := Cond.code (ajYn mi) (ajBy mi) (ajMx mi) (ajFt mi) :: ajGw
def ajMet (l : Launch) (base : Nat) (D : va_G) (dA : Nat → ClassId) (cst : Nat → Value) (xs : Nat → Int32) (L d mi : Nat) (as : List Value) (h : ajH) (r : Option Value) (h' : ajH) : Prop :=
  Met l (ajYn mi) (ajWd mi) (ajRm d (ajCt h' - ajCt h) (ajW h' - ajW h)) (ajPc base D dA cst xs L as h) (ajQc base D dA cst xs L r h') (ajCt h' - ajCt h) (ajW h' - ajW h) (ajA base)
theorem ajPc_blind {base : Nat} {D : va_G} {dA : Nat → ClassId} {cst : Nat → Value} {xs : Nat → Int32} {L : Nat} {as : List Value} {h : ajH} : FrameBlind (ajPc base D dA cst xs L as h) := by
  intro a U g mk hp
  obtain ⟨e1, e2, e3⟩ := hp
  exact ⟨e1, ajEnv_same (u := U) (U := U.calling g mk a) rfl e2, e3⟩
section AJC
variable {p : Program} {l : Launch} {e : Env} {R : Room} {s : State} {m : MethodId} {args : Array Value} {below : List Frame} {meth : Method} {c : Code} {H : Heap} {locs : List Loc} {cells slots : Nat} {Q : State → Prop}
variable {pc : Nat} {ls : Array Slot} {rest st0 : List Value} {base : Nat} {D : va_G} {dA : Nat → ClassId} {cst : Nat → Value} {xs : Nat → Int32} {L mi : Nat} {h : ajH} {mc ms : Nat} {free : Addr → Prop} {aa : Array Value}
theorem ajW_call {v0 : Option Value} {B : State → Prop} {A : Nat → Prop} (hr : va_Run p l e R s m args below meth c H locs cells slots mc ms (F0 m pc ls st0) rest (ajQz v0 B A aa) free) (hS : va_S A s.heap H locs) (hf : ∀ q, free q → A q)
    (kk : ∀ (t : State) (H1 : Heap) (locs1 : List Loc), t.heap = H1 → B t → va_S A s.heap H1 locs1 → W p l e R s m args below meth c H1 locs1 (cells + mc) (slots + ms) Q (F0 m (pc + 3) ls (v0.toList ++ rest))) : W p l e R s m args below meth c H locs cells slots Q (F0 m pc ls st0) := by
  intro T hT X
  obtain ⟨v, st₀, t, T', L, h0, X', hL, e1, e2, ⟨⟨hv, hb⟩, hz, hk⟩, st⟩ := hr T hT X
  cases hv
  rw [h0] at hz hk
  obtain ⟨t2, a1, b1⟩ := kk t T'.heap (locs ++ L) e1.symm hb
    ⟨Nat.le_trans hS.1 (by rw [e1]; exact hz), fun q h1 h2 => by rw [e1, hk q (Nat.lt_of_lt_of_le h1 hS.1) h2]; exact hS.2.1 q h1 h2, fun q hq => by
      rcases List.mem_append.mp hq with h | h
      · exact hS.2.2 q h
      · exact hf _ (hL q h)⟩ T' rfl X'
  exact ⟨t2, st t2 a1, b1⟩
theorem ajGw_good {w : Cond} (h : w ∈ ajGw) : (w.onTables && w.keeps) = true ∨ ∃ ty, w = .arrayClass ty := good_of_word (List.mem_filter.mp h).2
theorem ajWd_good {i : Nat} (hc : Cond.code (ajYn i) (ajBy i) (ajMx i) (ajFt i) ∈ ajGw) : GoodIn ajGw (ajWd i) := by
  intro w hw
  rcases List.mem_cons.mp hw with rfl | hw
  · exact ⟨hc, ajGw_good hc⟩
  · exact ⟨hw, ajGw_good hw⟩
theorem ajChI_some {idx a b cq : Nat} {ts : List Nat} {sp vi : Bool} (hk : ajChI mi idx a b cq ts sp vi = true) :
    (Cond.methodLink (ajOwn mi) idx (ajYn a) ∈ ajGw ∨ Cond.methodLinkNest (ajOwn mi) idx (ajYn a) "SpokeRing" ∈ ajNw) ∧ Cond.code (ajYn a) (ajBy a) (ajMx a) (ajFt a) ∈ ajGw ∧ Cond.initialized (ajYn a).cls ∈ ajGw ∧
    ((ajYn a).cls ≠ "java/lang/invoke/MethodHandle" ∧ (ajYn a).cls ≠ "java/lang/invoke/VarHandle" ∧ (parseMethodDescriptor (ajYn a).desc).map (fun d => d.parameters.length) = some b) ∧ plainName (ajYn a).cls = true ∧ ajMx a ≤ 40 ∧
    (sp = true → (ajYn a).name = "<init>" ∧ ajFt a = none ∧ Cond.instanceMethod (ajYn a) ∈ ajGw ∧ cq ≠ 0 ∧ cq < 50 ∧ Cond.methodLink (ajOwn mi) idx (ajYn a) ∈ ajGw) ∧
    (sp = false → vi = true → Cond.instanceMethod (ajYn a) ∈ ajGw ∧ Cond.selects (ajYn a).cls (ajYn a) (ajYn a) ∈ ajGw ∧ cq ≠ 0 ∧ Cond.methodLink (ajOwn mi) idx (ajYn a) ∈ ajGw ∧ ((cq = 51 ∧ (ajYn a).cls = "java/lang/String") ∨ (ajCl[cq - 1]?).map (fun q => q.1) = some (ajYn a).cls)) ∧
    (sp = false → vi = false → Cond.static (ajYn a) ∈ ajGw ∧ cq = 0) := by
  unfold ajChI at hk
  split at hk
  · rename_i pl ne ps pe pn
    simp only [Bool.and_eq_true, decide_eq_true_eq, Nat.ble_eq] at hk
    obtain ⟨k1, k2, k3, k4, k5, k6, k7⟩ := hk
    have hl : (ne = 0 ∧ Cond.methodLink (ajOwn mi) idx (ajYn a) ∈ ajGw) ∨ (ne ≠ 0 ∧ Cond.methodLinkNest (ajOwn mi) idx (ajYn a) "SpokeRing" ∈ ajNw) := by
      cases ne with
      | zero => exact Or.inl ⟨rfl, ajHas_in k1⟩
      | succ z => exact Or.inr ⟨by omega, ajHasN_in k1⟩
    refine ⟨hl.imp (fun z => z.2) (fun z => z.2), ajHas_in k2, ajHas_in k3, k4, k5, k6, ?_, ?_, ?_⟩
    · rintro rfl
      simp only [Bool.and_eq_true, decide_eq_true_eq, Bool.not_eq_true', Nat.beq_eq, Nat.blt_eq] at k7
      obtain ⟨z1, z2, z3, z4, z6, z5⟩ := k7
      refine ⟨z1, z2, ajHas_in z3, fun z => ?_, z6, ?_⟩
      · subst z; cases z4
      · rcases hl with hl | hl
        · exact hl.2
        · exact absurd z5 hl.1
    · rintro rfl rfl
      simp only [Bool.and_eq_true, decide_eq_true_eq, Bool.not_eq_true', Nat.beq_eq] at k7
      obtain ⟨z1, z2, z3, z4, z5⟩ := k7
      refine ⟨ajHas_in z1, ajHas_in z2, fun z => ?_, ?_, ?_⟩
      · subst z; cases z3
      · rcases hl with hl | hl
        · exact hl.2
        · exact absurd z4 hl.1
      · cases hb : Nat.beq cq 51 with
        | true =>
          rw [hb] at z5
          exact Or.inl ⟨by rw [Nat.beq_eq] at hb; exact hb, of_decide_eq_true z5⟩
        | false =>
          rw [hb] at z5
          exact Or.inr (of_decide_eq_true z5)
    · rintro rfl rfl
      simp only [Bool.and_eq_true, Nat.beq_eq] at k7
      exact ⟨ajHas_in k7.1, k7.2⟩
  · cases hk
/-- what a call of the tables' methods asks of the machine -/
theorem ajCallB {a b idx d mc ms : Nat} (C0 : ajCtx base D dA cst xs L mi p R s m args meth c) (hlk : Cond.methodLink (ajOwn mi) idx (ajYn a) ∈ ajGw) (hcode : Cond.code (ajYn a) (ajBy a) (ajMx a) (ajFt a) ∈ ajGw) (hini : Cond.initialized (ajYn a).cls ∈ ajGw)
    (hn : (ajYn a).cls ≠ "java/lang/invoke/MethodHandle" ∧ (ajYn a).cls ≠ "java/lang/invoke/VarHandle" ∧ (parseMethodDescriptor (ajYn a).desc).map (fun d => d.parameters.length) = some b) (hmx : ajMx a ≤ 40) (hd1 : d + 1 + 4 ≤ R.frames) (hd2 : 100 * (d + 1 + 2) ≤ R.locals) :
    CallB R s args (ajOwn mi) idx (ajYn a) (ajBy a) (ajMx a) (ajFt a) (ajWd a) (ajRm d mc ms) mc ms b := by
  obtain ⟨hx, hb, hml, hown, hts, hnm, hE, hcst, hbl, -, -⟩ := C0
  exact callB_of b hts (ajWd_good hcode) rfl rfl rfl (hts _ hini) (hts _ hlk) hn ⟨by show d + 4 + 1 ≤ R.frames; omega, by show 8 + (ajMx a + 11) + 100 * (d + 2) ≤ R.locals; omega⟩
theorem ajPc_at {as : List Value} (C0 : ajCtx base D dA cst xs L mi p R s m args meth c) (Y : ajDyn base D dA cst xs L s h H locs cells) (hcp : H.size ≤ s.heap.size + cells) (U : State) (hU : U.heap = H) (hW : s.WarmedH U.vm) : ajPc base D dA cst xs L as h (as.map (ajCz base cst)).toArray U := by
  obtain ⟨hx, hb, hml, hown, hts, hnm, hE, hcst, hbl, -, -⟩ := C0
  obtain ⟨hP, hZ, hk, hS, hcap⟩ := Y
  refine ⟨rfl, ?_, by rw [hU]; exact hP, by rw [hU]; have := hS.1; omega, by rw [hU]; omega⟩
  rw [hU]
  exact ajEnv_warm hW (ajEnv_kept hE (fun a h1 h2 => hS.2.1 a h1 h2))
theorem ajMap_stack (b : Nat) (st : List Value) (f : Value → Value) : st.map f = (((st.take b).reverse).map f).reverse ++ (st.drop b).map f := by
  rw [List.map_reverse, List.reverse_reverse, ← List.map_append, List.take_append_drop]
theorem ajCat_map (hcst : ajCst cst) (st : List Value) : ((st.map (ajCz base cst)).map fun v => v.category).sum = (st.map fun v => v.category).sum := by
  rw [List.map_map]
  congr 1
  refine List.map_congr_left fun v _ => ajCz_cat base hcst v
theorem ajToList (r : Option Value) (f : Value → Value) (rest : List Value) : (r.map f).toList ++ rest.map f = (r.toList ++ rest).map f := by cases r <;> rfl
theorem ajRcv_some {cq : Nat} {as : List Value} (hc : cq ≠ 0) (hr : ajRcv h cq as = true) : ∃ (o : Nat) (as' : List Value), as = .ref o :: as' ∧ ajOK h o (cq - 1) := by
  unfold ajRcv at hr
  split at hr
  · exact absurd rfl hc
  · exact ⟨_, _, rfl, of_decide_eq_true hr⟩
  · cases hr
/-- a call of a method of the tables, whatever its kind -/
theorem ajW_inv {idx a b cq d : Nat} {ts : List Nat} {st : List Value} {r : Option Value} {h' : ajH} {ins : Instr} (C0 : ajCtx base D dA cst xs L mi p R s m args meth c) (Y : ajDyn base D dA cst xs L s h H locs cells) (hsz : ls.size = ajMx mi)
    (hk : (ins = .invokestatic idx ∧ ajChI mi idx a b cq ts false false = true) ∨ (ins = .invokevirtual idx ∧ ajChI mi idx a b cq ts false true = true) ∨ (ins = .invokespecial idx ∧ ajChI mi idx a b cq ts true false = true)) (hdg : decode (ajBy mi) pc = .ok (ins, 3))
    (hM : ajMet l base D dA cst xs L d a ((st.take (if cq = 0 then b else b + 1)).reverse) h r h') (hd1 : d + 1 + 4 ≤ R.frames) (hd2 : 100 * (d + 1 + 2) ≤ R.locals) (hstk : ajStk (if cq = 0 then b else b + 1) st = true) (hrcv : ajRcv h cq ((st.take (if cq = 0 then b else b + 1)).reverse) = true)
    (hct : ajCt h ≤ ajCt h') (hcw : ajW h ≤ ajW h') (hrc : cells + ajCt h' ≤ R.cells + ajCt h) (hrs : slots + ajW h' ≤ R.slots + ajW h)
    (kk : ∀ (H1 : Heap) (locs1 : List Loc), ajDyn base D dA cst xs L s h' H1 locs1 (cells + (ajCt h' - ajCt h)) → W p l e R s m args below meth c H1 locs1 (cells + (ajCt h' - ajCt h)) (slots + (ajW h' - ajW h)) Q (F0 m (pc + 3) ls ((r.toList ++ st.drop (if cq = 0 then b else b + 1)).map (ajCz base cst)))) : W p l e R s m args below meth c H locs cells slots Q (F0 m pc ls (st.map (ajCz base cst))) := by
  refine ajW_cap fun hcp => ?_
  have C1 := C0
  obtain ⟨hx, hb, hml, hown, hts, hnm, hE, hcst, hbl, -, -⟩ := C1
  have Y1 := Y
  obtain ⟨hP, hZ, hk9, hS, hcap⟩ := Y1
  unfold ajStk at hstk
  rw [Bool.and_eq_true, Nat.ble_eq, Nat.ble_eq] at hstk
  obtain ⟨hlen, hcat⟩ := hstk
  have hcat2 : 2 * (F0 m pc ls (st.map (ajCz base cst))).monitorRoom + (((st.drop (if cq = 0 then b else b + 1)).map (ajCz base cst)).map fun v => v.category).sum ≤ 8 := lv_room (by rw [ajCat_map hcst]; exact hcat)
  have go : ∀ aa : Array Value, va_Run p l e R s m args below meth c H locs cells slots (ajCt h' - ajCt h) (ajW h' - ajW h) (F0 m pc ls (st.map (ajCz base cst))) ((st.drop (if cq = 0 then b else b + 1)).map (ajCz base cst)) (ajQc base D dA cst xs L r h' aa) (ajA base) → W p l e R s m args below meth c H locs cells slots Q (F0 m pc ls (st.map (ajCz base cst))) := by
    intro aa hrun
    refine ajW_call hrun hS (fun q z => z) (fun t H1 locs1 ht hB hS1 => ?_)
    obtain ⟨b1, b2, b3⟩ := hB
    rw [ajToList]
    exact kk H1 locs1 ⟨by rw [← ht]; exact b1, b2, b3, hS1, by omega⟩
  have hfit : cells + (ajCt h' - ajCt h) ≤ R.cells ∧ slots + (ajW h' - ajW h) ≤ R.slots := ⟨by omega, by omega⟩
  have hst := ajMap_stack (if cq = 0 then b else b + 1) st (ajCz base cst)
  have hpre : PreS s H (ajPc base D dA cst xs L ((st.take (if cq = 0 then b else b + 1)).reverse) h) (((st.take (if cq = 0 then b else b + 1)).reverse).map (ajCz base cst)) := ⟨ajPc_blind, fun U hU hW => ajPc_at C0 Y hcp U hU hW⟩
  rcases hk with ⟨rfl, hk⟩ | ⟨rfl, hk⟩ | ⟨rfl, hk⟩
  · obtain ⟨k1, k2, k3, k4, k5, k6, -, -, k9⟩ := ajChI_some hk
    obtain ⟨k10, rfl⟩ := k9 rfl rfl
    have hln : (((st.take (if (0 : Nat) = 0 then b else b + 1)).reverse).map (ajCz base cst)).length = b := by
      rw [List.length_map, List.length_reverse, List.length_take]
      rw [if_pos rfl] at hlen ⊢
      omega
    rcases k1 with k1 | k1
    · exact go _ (va_runS (Ts := ajGw) (nL := ajMx mi) ⟨hx, hb, hml, hown, hts⟩ hM ⟨ajCallB C0 k1 k2 k3 k4 k6 hd1 hd2, hts _ k10⟩ hpre rfl hln hsz hst hcat2 hdg hfit)
    · exact go _ (va_runSN (Ts := ajGw) (nL := ajMx mi) ⟨hx, hb, hml, hown, hts⟩ hM ⟨va_cnB b hts (ajWd_good k2) rfl rfl rfl (hE.2.2.2.2.2.2.1 _ k1) (hts _ k3) k4 ⟨by show d + 4 + 1 ≤ R.frames; omega, by show 8 + (ajMx a + 11) + 100 * (d + 2) ≤ R.locals; omega⟩, hts _ k10, trivial⟩ hpre rfl hln hsz hst hcat2 hdg hfit)
  · obtain ⟨k1, k2, k3, k4, k5, k6, -, k8, -⟩ := ajChI_some hk
    obtain ⟨z1, z2, z3, z5, z6⟩ := k8 rfl rfl
    obtain ⟨o, as', has, hok⟩ := ajRcv_some z3 hrcv
    have hln : (as'.map (ajCz base cst)).length = b := by
      have h2 := congrArg List.length has
      rw [List.length_reverse, List.length_take, List.length_cons] at h2
      rw [List.length_map]
      rw [if_neg z3] at h2 hlen
      omega
    have key : ∀ bb : Nat, ajCz base cst (.ref o) = .ref bb → (∃ cellB : Cell, H[bb]? = some cellB ∧ cellB.vm.isStatics = false ∧ s.vm.findClass (ajYn a).cls = some cellB.cls) → W p l e R s m args below meth c H locs cells slots Q (F0 m pc ls (st.map (ajCz base cst))) := by
      intro bb hbb hcell
      have e1 : ((st.take (if cq = 0 then b else b + 1)).reverse).map (ajCz base cst) = .ref bb :: as'.map (ajCz base cst) := by rw [has, List.map_cons, hbb]
      have e2 : st.map (ajCz base cst) = (as'.map (ajCz base cst)).reverse ++ .ref bb :: (st.drop (if cq = 0 then b else b + 1)).map (ajCz base cst) := by
        rw [hst, e1, List.reverse_cons, List.append_assoc]; rfl
      refine go _ (va_runV (Ts := ajGw) (nL := ajMx mi) (C := (ajYn a).cls) (b := bb) (As := as'.map (ajCz base cst)) ⟨hx, hb, hml, hown, hts⟩ hM ⟨ajCallB C0 z5 k2 k3 k4 k6 hd1 hd2, hts _ z1, hts _ z2⟩ ⟨ajPc_blind, hcell, fun U hU hW => ?_⟩ rfl hln hsz e2 hcat2 hdg hfit)
      rw [← e1]
      exact hpre.2 U hU hW
    rcases z6 with ⟨rfl, hstr⟩ | hcl
    · have ho3 := ajSh_str hok.2
      obtain ⟨tt, e1, ⟨cell, g1, g2, g3, g4⟩, e3, e4⟩ := hE.2.2.2.2.1 o ho3 hok.2
      refine key tt (by rw [ajCz_con ho3, e1]) ⟨cell, ?_, g2, by rw [hstr]; exact g3⟩
      rw [hS.2.1 tt (Array.getElem?_eq_some_iff.mp g1).1 g4]
      exact g1
    · cases hq : ajCl[cq - 1]? with
      | none => rw [hq] at hcl; cases hcl
      | some q =>
        rw [hq] at hcl
        have hcl : q.1 = (ajYn a).cls := Option.some.inj hcl
        have hlt : cq - 1 < 11 := (List.getElem?_eq_some_iff.mp hq).1
        have h50 : (ajSh o).1 < 50 := by rw [hok.2]; omega
        have ho9 := ajSh_lt h50
        have ho0 : o ≠ 0 := ajSh_w (by omega)
        have hoN : o < ajN h := hok.1.resolve_right (by omega)
        have he := ajWs_at (base := base) (cst := cst) (dA := dA) ho0 hoN
        rw [ajCell_obj h50, hok.2] at he
        refine key (base + o) (ajCz_own ho0 ho9) ?_
        rw [← hcl]
        exact va_recv hE.1 hP hq he
  · obtain ⟨k1, k2, k3, k4, k5, k6, k7, -, -⟩ := ajChI_some hk
    obtain ⟨z1, z2, z3, z4, z6, z5⟩ := k7 rfl
    obtain ⟨o, as', has, hok⟩ := ajRcv_some z4 hrcv
    have hln : (as'.map (ajCz base cst)).length = b := by
      have h2 := congrArg List.length has
      rw [List.length_reverse, List.length_take, List.length_cons] at h2
      rw [List.length_map]
      rw [if_neg z4] at h2 hlen
      omega
    have h50 : (ajSh o).1 < 50 := by rw [hok.2]; omega
    have ho9 := ajSh_lt h50
    have ho0 : o ≠ 0 := ajSh_w (by omega)
    have hbb : ajCz base cst (.ref o) = .ref (base + o) := ajCz_own ho0 ho9
    have e1 : ((st.take (if cq = 0 then b else b + 1)).reverse).map (ajCz base cst) = .ref (base + o) :: as'.map (ajCz base cst) := by rw [has, List.map_cons, hbb]
    have e2 : st.map (ajCz base cst) = (as'.map (ajCz base cst)).reverse ++ .ref (base + o) :: (st.drop (if cq = 0 then b else b + 1)).map (ajCz base cst) := by
      rw [hst, e1, List.reverse_cons, List.append_assoc]; rfl
    have hcb := ajCallB (mc := ajCt h' - ajCt h) (ms := ajW h' - ajW h) C0 z5 k2 k3 k4 k6 hd1 hd2
    rw [z2] at hcb
    refine go _ (va_runI (Ts := ajGw) (nL := ajMx mi) (b := base + o) (As := as'.map (ajCz base cst)) ⟨hx, hb, hml, hown, hts⟩ hM ⟨hcb, z1, hts _ z3⟩ ⟨ajPc_blind, fun U hU hW => ?_⟩ rfl hln hsz e2 hcat2 hdg hfit)
    rw [← e1]
    exact hpre.2 U hU hW
end AJC
