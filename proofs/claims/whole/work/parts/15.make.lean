/-! New objects and rows, System.arraycopy, statics, texts. -/
section AJR3
variable {p : Program} {l : Launch} {e : Env} {R : Room} {s : State} {m : MethodId} {args : Array Value} {below : List Frame} {meth : Method} {c : Code} {H : Heap} {locs : List Loc} {cells slots : Nat} {Q : State → Prop}
variable {pc : Nat} {ls : Array Slot} {rest : List Value} {base : Nat} {D : va_G} {dA : Nat → ClassId} {cst : Nat → Value} {xs : Nat → Int32} {L mi : Nat} {h : ajH}
theorem ajW_cap {g : JFrame} (kk : H.size ≤ s.heap.size + cells → W p l e R s m args below meth c H locs cells slots Q g) : W p l e R s m args below meth c H locs cells slots Q g := by
  intro T hT X
  have h1 : (T.setVm s.vm).heap.size ≤ s.heap.size + cells := X.same.2.2.1
  have h2 : (T.setVm s.vm).heap = H := hT
  exact kk (by rw [← h2]; exact h1) T hT X
theorem ajDyn_top (hbl : base < s.heap.size) (Y : ajDyn base D dA cst xs L s h H locs cells) : base + ajN h ≤ H.size := by
  obtain ⟨hP, hZ, hk, hS, hcap⟩ := Y
  by_cases h1 : ajN h = 1
  · have := hS.1
    omega
  · have := hZ.2
    have he := ajWs_at (base := base) (cst := cst) (dA := dA) (h := h) (a := ajN h - 1) (by omega) (by omega)
    have := (hP _ _ he).lt
    dsimp only at this
    omega
theorem ajAl_oth (h : ajH) (n : Nat) : ∀ b : Nat, b ≠ ajN h → (∀ j, ajI (ajAl h n) b j = ajI h b j) ∧ (∀ j, ajL (ajAl h n) b j = ajL h b j) ∧ ∀ j, ajR (ajAl h n) b j = ajR h b j := fun b hb => ⟨fun j => if_neg hb, fun j => if_neg hb, fun j => if_neg hb⟩
theorem ajAl_I (h : ajH) (n j : Nat) : ajI (ajAl h n) (ajN h) j = 0 := if_pos rfl
theorem ajAl_L (h : ajH) (n j : Nat) : ajL (ajAl h n) (ajN h) j = 0 := if_pos rfl
theorem ajAl_R (h : ajH) (n j : Nat) : ajR (ajAl h n) (ajN h) j = 0 := if_pos rfl
/-- the bundle behind a making -/
theorem ajDyn_new {n : Nat} {ee : va_E} {H1 : Heap} (hbl : base < s.heap.size) (Y : ajDyn base D dA cst xs L s h H locs cells) (hN : ajN h < 999) (he : ajCell base cst dA (ajAl h n) (ajN h) = ee) (hsz : H.size = base + ajN h)
    (z1 : H1.size = H.size + 1) (o1 : ∀ q, q < H.size → H1[q]? = H[q]?) (hat : va_at D ajCl (base + ajN h, ee) H1) : ajDyn base D dA cst xs L s (ajAl h n) H1 locs (cells + 1) := by
  obtain ⟨hP, hZ, hk, hS, hcap⟩ := Y
  have hNe : ajN (ajAl h n) = ajN h + 1 := rfl
  refine ⟨?_, ⟨by omega, by omega⟩, ⟨hk.1, fun b hb j => ?_⟩, ⟨by have := hS.1; omega, fun x h1 h2 => (o1 x (Nat.lt_of_lt_of_le h1 hS.1)).trans (hS.2.1 x h1 h2), hS.2.2⟩, ?_⟩
  · rw [← ajWs_push hZ.2 hNe he (fun b hb => ajCell_eq (ajAl_oth h n b hb).1 (ajAl_oth h n b hb).2.1 (ajAl_oth h n b hb).2.2)]
    refine (hP.kept fun k x hx => o1 x.1 ((hP k x hx).lt)).app (fun k x hx => ?_)
    have hz : k < 1 := (List.getElem?_eq_some_iff.mp hx).1
    rw [show k = 0 by omega] at hx
    cases hx
    exact hat
  · have hbn : b ≠ ajN h := by omega
    rw [(ajAl_oth h n b hbn).1 j, (ajAl_oth h n b hbn).2.2 j]
    exact hk.2 b hb j
  · show _ ≤ base + (ajN h + 1 + ajX h)
    unfold ajCt at hcap
    omega
theorem ajW_newa {idx : ArrayType} {a : Nat} {ty : FieldType} {n : Int32} (C0 : ajCtx base D dA cst xs L mi p R s m args meth c) (Y : ajDyn base D dA cst xs L s h H locs cells) (hdg : decode (ajBy mi) pc = .ok (.newarray idx, 2)) (hty : newarray.typeOf idx = ty) (harr : Cond.arrayClass ty ∈ ajGw) (q : Nat) (hq : (ajTy dA)[q]? = some (dA a, ty)) (hnr : ∀ C, ty ≠ .object C) (x0 : (Nat → Int32) ⊕ (Nat → Int64) ⊕ (Nat → UInt32) ⊕ (Nat → UInt64) ⊕ (Nat → Option Nat))
    (hx0 : ∀ cA : ClassId, vp_cell cA (n.toNatClampNeg, x0) = arrV cA n.toNatClampNeg (fun _ => defaultValue ty)) (hcell : ajCell base cst dA (ajAl h n.toNatClampNeg) (ajN h) = .inl (dA a, n.toNatClampNeg, x0)) (hcb : componentBytes ty ≤ 8)
    (hn : ¬ n < 0) (hX : ajX h = 0) (hN : ajN h < 999) (hbig : n.toNatClampNeg ≤ 10000) (hc1 : cells + 1 ≤ R.cells) (hs1 : slots + n.toNatClampNeg ≤ R.slots)
    (kk : ∀ (H1 : Heap), ajDyn base D dA cst xs L s (ajAl h n.toNatClampNeg) H1 locs (cells + 1) → W p l e R s m args below meth c H1 locs (cells + 1) (slots + n.toNatClampNeg) Q (F0 m (pc + 2) ls (ajCz base cst (.ref (ajN h)) :: rest))) : W p l e R s m args below meth c H locs cells slots Q (F0 m pc ls (.int n :: rest)) := by
  obtain ⟨hx, hb, hml, hown, hts, hnm, hE, hcst, hbl, -, -⟩ := C0
  refine ajW_cap fun hcp => ?_
  have htop := ajDyn_top hbl Y
  have hsz : H.size = base + ajN h := by
    have := Y.2.2.2.2
    unfold ajCt at this
    omega
  subst hty
  refine va_newaK hx hb (hts _ harr) rfl hdg rfl hn rfl (Nat.le_trans (Nat.mul_le_mul hbig hcb) (by omega)) hc1 hs1 hsz fun H1 cA e1 z1 o1 hAr hNm => ?_
  have hcA : cA = dA a := by
    have h1 := (hE.1.2 q _ hq).2
    unfold va_RA at h1
    dsimp only at h1
    cases hz : newarray.typeOf idx with
    | object C => exact absurd hz (hnr C)
    | _ => rw [hz] at h1 hNm; exact Option.some.inj (hNm.symm.trans h1)
  subst hcA
  have hd := ajDyn_new (D := D) (H := H) (H1 := H1) hbl Y hN hcell hsz (by omega) (by rw [hsz]; exact o1) (by show H1[base + ajN h]? = some (vp_cell _ _); rw [hx0]; exact e1)
  have h2 := kk H1 hd
  rw [ajCz_own (by have := Y.2.1.2; omega) (by omega)] at h2
  exact h2
theorem ajW_newq {idx a : Nat} {n : Int32} (C0 : ajCtx base D dA cst xs L mi p R s m args meth c) (Y : ajDyn base D dA cst xs L s h H locs cells) (hdg : decode (ajBy mi) pc = .ok (.anewarray idx, 3)) (h3 : 103 ≤ a) (h6 : a < 106) (hcl : Cond.classLink (ajOwn mi) idx (ajElN a) ∈ ajGw) (hsh : ajSh (ajN h) = (a, n.toNatClampNeg))
    (hn : ¬ n < 0) (hX : ajX h = 0) (hN : ajN h < 999) (hbig : n.toNatClampNeg ≤ 10000) (hc1 : cells + 1 ≤ R.cells) (hs1 : slots + n.toNatClampNeg ≤ R.slots)
    (kk : ∀ (H1 : Heap), ajDyn base D dA cst xs L s (ajAl h n.toNatClampNeg) H1 locs (cells + 1) → W p l e R s m args below meth c H1 locs (cells + 1) (slots + n.toNatClampNeg) Q (F0 m (pc + 3) ls (ajCz base cst (.ref (ajN h)) :: rest))) : W p l e R s m args below meth c H locs cells slots Q (F0 m pc ls (.int n :: rest)) := by
  obtain ⟨hx, hb, hml, hown, hts, hnm, hE, hcst, hbl, -, -⟩ := C0
  refine ajW_cap fun hcp => ?_
  have htop := ajDyn_top hbl Y
  have hsz : H.size = base + ajN h := by
    have := Y.2.2.2.2
    unfold ajCt at this
    omega
  refine W.anew hx hb hown (hts _ hcl) (va_AO.use (hE.2.2.2.2.2.2.2.1 a h3 h6)) rfl hdg rfl hn (by omega) hc1 hs1 fun cA kA comp f1 f2 f3 f4 => ?_
  have hcA : cA = dA a := by
    have h1 := (hE.1.2 (a - 100) _ (ajTy_q h3 h6)).2
    obtain ⟨kA2, comp2, g1, g2, g3, g4⟩ := h1
    exact Option.some.inj (f1.symm.trans g4)
  subst hcA
  have hcell : ajCell base cst dA (ajAl h n.toNatClampNeg) (ajN h) = .inl (dA a, n.toNatClampNeg, .inr (.inr (.inr (.inr (fun _ => none))))) := by
    rw [ajCell_ref (by rw [hsh]; exact h3), hsh]
    have : (fun k => ajRo base cst (ajR (ajAl h n.toNatClampNeg) (ajN h) k)) = fun _ => (none : Option Nat) := by
      funext k
      rw [ajAl_R]
      rfl
    rw [this]
  have e1 : (H.push ({ cls := dA a, slots := Array.replicate n.toNatClampNeg .null, vm := .none } : Cell))[base + ajN h]? = some (arrV (dA a) n.toNatClampNeg (fun _ => .null)) := by rw [← hsz, Array.getElem?_push_size, ← arrV_new]
  have hd := ajDyn_new (D := D) (H1 := H.push ({ cls := dA a, slots := Array.replicate n.toNatClampNeg .null, vm := .none } : Cell)) hbl Y hN hcell hsz (by rw [Array.size_push]) (fun q hq => by rw [Array.getElem?_push, if_neg (Nat.ne_of_lt hq)]) (by show _ = some (vp_cell _ _); exact e1)
  have h2 := kk _ hd
  rw [ajCz_own (by have := Y.2.1.2; omega) (by omega), ← hsz] at h2
  exact h2
theorem ajDef (n j : Nat) (ty : FieldType) (hty : ajTagOK (if ty = .boolean then 3 else ajTg ty) ty = true) : ajCz base cst (ajFv (ajAl h n) (ajN h) j (ajTg ty)) = defaultValue ty := by
  have hI := ajAl_I h n j
  have hL := ajAl_L h n j
  have hR := ajAl_R h n j
  cases ty with
  | boolean => show Value.int (ajI (ajAl h n) (ajN h) j) = _; rw [hI]; rfl
  | int => show Value.int (ajI (ajAl h n) (ajN h) j) = _; rw [hI]; rfl
  | long => show Value.long (ajL (ajAl h n) (ajN h) j) = _; rw [hL]; rfl
  | object C => show ajCz base cst (.ref (ajR (ajAl h n) (ajN h) j)) = _; rw [hR]; rfl
  | array t => show ajCz base cst (.ref (ajR (ajAl h n) (ajN h) j)) = _; rw [hR]; rfl
  | _ => exact absurd hty (by simp [ajTagOK, ajTg])
theorem ajY_ok {c : Nat} {C : String} {T : u_T} {N : Nat} (hc : ajCl[c]? = some (C, T, N)) (j : Nat) (hj : j < N) : ajTagOK (if ajY c j = .boolean then 3 else ajTg (ajY c j)) (ajY c j) = true := by
  have hl : c < 11 := (List.getElem?_eq_some_iff.mp hc).1
  have h1 : (List.range 11).all (fun c => match ajCl[c]? with
    | some (_, _, N) => (List.range N).all (fun j => ajTagOK (if ajY c j = .boolean then 3 else ajTg (ajY c j)) (ajY c j))
    | none => true) = true := by decide +kernel
  have h2 := List.all_eq_true.mp h1 c (List.mem_range.mpr hl)
  rw [hc] at h2
  exact List.all_eq_true.mp h2 j (List.mem_range.mpr hj)
theorem ajW_new {idx a n : Nat} {ts : List Nat} (C0 : ajCtx base D dA cst xs L mi p R s m args meth c) (Y : ajDyn base D dA cst xs L s h H locs cells) (hdg : decode (ajBy mi) pc = .ok (.new idx, 3)) (hck : ajChN mi idx a n ts = true) (hsh : ajSh (ajN h) = (a, n))
    (hX : ajX h = 0) (hN : ajN h < 999) (hc1 : cells + 1 ≤ R.cells) (hs1 : slots + n ≤ R.slots)
    (kk : ∀ (H1 : Heap), ajDyn base D dA cst xs L s (ajAl h n) H1 locs (cells + 1) → W p l e R s m args below meth c H1 locs (cells + 1) (slots + n) Q (F0 m (pc + 3) ls (ajCz base cst (.ref (ajN h)) :: rest))) : W p l e R s m args below meth c H locs cells slots Q (F0 m pc ls rest) := by
  obtain ⟨hx, hb, hml, hown, hts, hnm, hE, hcst, hbl, -, -⟩ := C0
  refine ajW_cap fun hcp => ?_
  have htop := ajDyn_top hbl Y
  have hsz : H.size = base + ajN h := by
    have := Y.2.2.2.2
    unfold ajCt at this
    omega
  unfold ajChN at hck
  split at hck
  · rename_i C T N p0 ts0 hc
    rw [Bool.and_eq_true, Nat.beq_eq] at hck
    obtain ⟨rfl, hcl⟩ := hck
    obtain ⟨k1, k2, k3, k4, k5⟩ := ajCls hc
    have hlt : a < 11 := (List.getElem?_eq_some_iff.mp hc).1
    have hKn := hE.1.1 a _ hc
    refine W.newcK hx hb hown (hts _ (ajHas_in hcl)) (hts _ k4) (hts _ k5) rfl hdg hc1 hs1 hKn.2.1 hsz fun H1 kC hkC e1 z1 o1 => ?_
    have hcell : ajCell base cst dA (ajAl h n) (ajN h) = .inr (a, ajFd base cst (ajAl h n) (ajN h) a n) := by
      rw [ajCell_obj (by rw [hsh]; show a < 50; omega), hsh]
    have hat : va_at D ajCl (base + ajN h, .inr (a, ajFd base cst (ajAl h n) (ajN h) a n)) H1 := by
      refine ⟨_, hc, (u_born (ajY a) hts k1 hKn hkC e1 k2).to ?_⟩
      intro j hj
      show defaultValue (ajY a j) = vp_V _ j
      unfold vp_V
      rw [List.getD_eq_getElem?_getD, ajFd_at hj, ajDef n j (ajY a j) (ajY_ok hc j hj)]
      rfl
    have hd := ajDyn_new (D := D) (H := H) (H1 := H1) hbl Y hN hcell hsz (by omega) (by rw [hsz]; exact o1) hat
    have h2 := kk H1 hd
    rw [ajCz_own (by have := Y.2.1.2; omega) (by omega)] at h2
    exact h2
  · cases hck
theorem ajW_gets {idx k a b : Nat} {z : Int} {ts : List Nat} {C n d : String} {v : Value} (C0 : ajCtx base D dA cst xs L mi p R s m args meth c) (Y : ajDyn base D dA cst xs L s h H locs cells) (hdg : decode (ajBy mi) pc = .ok (.getstatic idx, 3)) (hk : ajStat[k]? = some (C, n, d, v)) (hl : ajLnk (ajOwn mi) idx C n d ts = true)
    (kk : W p l e R s m args below meth c H locs cells slots Q (F0 m (pc + 3) ls (ajCz base cst v :: rest))) : W p l e R s m args below meth c H locs cells slots Q (F0 m pc ls rest) := by
  obtain ⟨hx, hb, hml, hown, hts, hnm, hE, hcst, hbl, -, -⟩ := C0
  obtain ⟨hP, hZ, hk2, hS, hcap⟩ := Y
  have hZv := hE.2.1 _ (List.mem_of_getElem? hk)
  rcases ajLnk_some hl with hl | hl
  · exact va_gets hx hb hZv hS hown (hts _ hl) (fun _ z => z) hdg kk
  · exact va_getsN hx hb hZv hS hown (va_Nw.use rfl (hE.2.2.2.2.2.2.1 _ hl)) (fun _ z => z) hdg kk
theorem ajStr_some {own : String} {idx b : Nat} (hk : ajStrs.any (fun q => decide (q.1 = own) && (Nat.beq q.2.1 idx && Nat.beq q.2.2.2 b)) = true) : ∃ tx : String, (own, idx, tx, b) ∈ ajStrs := by
  obtain ⟨q, hq, h1⟩ := List.any_eq_true.mp hk
  rw [Bool.and_eq_true, Bool.and_eq_true, decide_eq_true_eq, Nat.beq_eq, Nat.beq_eq] at h1
  obtain ⟨q1, q2, q3, q4⟩ := q
  obtain ⟨rfl, rfl, rfl⟩ := h1
  exact ⟨q3, hq⟩
theorem ajStr_con {q : String × Nat × String × Nat} (hq : q ∈ ajStrs) : 1000 ≤ q.2.2.2 := by
  have h1 : ajStrs.all (fun q => Nat.ble 1000 q.2.2.2) = true := by decide +kernel
  exact Nat.le_of_ble_eq_true (List.all_eq_true.mp h1 q hq)
theorem ajW_ldcS {idx b : Nat} (C0 : ajCtx base D dA cst xs L mi p R s m args meth c) (hdg : decode (ajBy mi) pc = .ok (.ldc idx, 2)) (hk : ajStrs.any (fun q => decide (q.1 = ajOwn mi) && (Nat.beq q.2.1 idx && Nat.beq q.2.2.2 b)) = true)
    (kk : W p l e R s m args below meth c H locs cells slots Q (F0 m (pc + 2) ls (ajCz base cst (.ref b) :: rest))) : W p l e R s m args below meth c H locs cells slots Q (F0 m pc ls rest) := by
  obtain ⟨hx, hb, hml, hown, hts, hnm, hE, hcst, hbl, -, -⟩ := C0
  obtain ⟨tx, hq⟩ := ajStr_some hk
  obtain ⟨t, e1, e2⟩ := hE.2.2.2.2.2.1 _ hq
  rw [ajCz_con (ajStr_con hq), e1] at kk
  exact va_ldcS hx hb hown e2 hdg kk
theorem ajLdcW {T : State} (X : Stand p l e R s m args below meth c T locs cells slots) (hexec : p.tables.exec = Jvm.exec) {own text : String} {index : Nat} {a : Addr} (hown : s.vm.findClass own = some m.cls)
    (hconst : (Cond.stringRef own index text).before #[] s = true) (hev : (Term.string own index).eval #[] s none [] s = some (.ref a)) {g : JFrame} (hg : g.method = m) (hdg : decode c.code g.pc = .ok (.ldc_w index, 3)) :
    ∀ target, Steps p.tables e below (T.setTop { g with pc := g.pc + 3, stack := .ref a :: g.stack }) target → Steps p.tables e below (T.setTop g) target := by
  obtain ⟨k, cf, i, a', hk, hcf, hcp, -, hr, hev'⟩ := Cond.stringRef_spec hown hconst
  cases hev.symm.trans hev'
  obtain ⟨k', hk', he⟩ := X.warmed.alike.2.2 _ _ hk
  have hr' : k'.resolved[index]? = some (some (.string a)) := by
    rcases X.warmed.entry hk hk' index with h | ⟨h, -⟩
    · rw [h]; exact hr
    · rw [hr] at h; cases h
  intro target hrest
  subst hg
  jvm_step X.here [hexec, hdg, ldc_w.wp_string (e := e) (s := T) (f := g) X.here.top hk' (by rw [he]; exact hcf) hcp hr']
  exact hrest
theorem ajW_ldcwS {idx b : Nat} (C0 : ajCtx base D dA cst xs L mi p R s m args meth c) (hdg : decode (ajBy mi) pc = .ok (.ldc_w idx, 3)) (hk : ajStrs.any (fun q => decide (q.1 = ajOwn mi) && (Nat.beq q.2.1 idx && Nat.beq q.2.2.2 b)) = true)
    (kk : W p l e R s m args below meth c H locs cells slots Q (F0 m (pc + 3) ls (ajCz base cst (.ref b) :: rest))) : W p l e R s m args below meth c H locs cells slots Q (F0 m pc ls rest) := by
  obtain ⟨hx, hb, hml, hown, hts, hnm, hE, hcst, hbl, -, -⟩ := C0
  obtain ⟨tx, hq⟩ := ajStr_some hk
  obtain ⟨t, e1, e2⟩ := hE.2.2.2.2.2.1 _ hq
  rw [ajCz_con (ajStr_con hq), e1] at kk
  intro T hT X
  obtain ⟨t2, a1, b1⟩ := kk T hT X
  exact ⟨t2, ajLdcW X hx hown e2.1 e2.2 (g := F0 m pc ls rest) rfl (by rw [hb]; exact hdg) t2 a1, b1⟩
end AJR3
