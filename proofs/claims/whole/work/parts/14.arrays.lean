/-! Rows of numbers and of objects. -/
section AJR2
variable {p : Program} {l : Launch} {e : Env} {R : Room} {s : State} {m : MethodId} {args : Array Value} {below : List Frame} {meth : Method} {c : Code} {H : Heap} {locs : List Loc} {cells slots : Nat} {Q : State → Prop}
variable {pc : Nat} {ls : Array Slot} {rest : List Value} {base : Nat} {D : va_G} {dA : Nat → ClassId} {cst : Nat → Value} {xs : Nat → Int32} {L mi : Nat} {h : ajH}
theorem ajW_iald {o : Nat} {i : Int32} (C0 : ajCtx base D dA cst xs L mi p R s m args meth c) (Y : ajDyn base D dA cst xs L s h H locs cells) (hdg : decode (ajBy mi) pc = .ok (.iaload, 1)) (ho : ajOK h o 100) (hi : ajIn i (ajLen h o))
    (kk : W p l e R s m args below meth c H locs cells slots Q (F0 m (pc + 1) ls (.int (ajI h o i.toNatClampNeg) :: rest))) : W p l e R s m args below meth c H locs cells slots Q (F0 m pc ls (.int i :: ajCz base cst (.ref o) :: rest)) := by
  obtain ⟨hx, hb, hml, hown, hts, hnm, hE, hcst, hbl, -, -⟩ := C0
  obtain ⟨hP, hZ, hk, hS, hcap⟩ := Y
  obtain ⟨ho1, ho2⟩ := ho
  have ho0 : o ≠ 0 := ajSh_w (by omega)
  by_cases ho9 : o < 1000
  · have hoN : o < ajN h := ho1.resolve_right (by omega)
    rw [ajCz_own ho0 ho9]
    have he := ajWs_at (base := base) (cst := cst) (dA := dA) ho0 hoN
    rw [ajCell_int ho2] at he
    rw [ajLen_own ho9] at hi
    exact va_iald hx hb hE.1 hP (o - 1) 0 he rfl hi hdg kk
  · obtain ⟨t, e1, e2⟩ := hE.2.2.1 o (by omega) ho2
    rw [ajCz_con (by omega), e1]
    rw [ajLen_con hk] at hi
    exact va_ti hx hb e2 hS hi (by rw [(hk.2 o (by omega) _).1]) hdg kk
theorem ajW_bald {o : Nat} {i : Int32} (C0 : ajCtx base D dA cst xs L mi p R s m args meth c) (Y : ajDyn base D dA cst xs L s h H locs cells) (hdg : decode (ajBy mi) pc = .ok (.baload, 1)) (ho : ajOK h o 101) (hi : ajIn i (ajLen h o))
    (kk : W p l e R s m args below meth c H locs cells slots Q (F0 m (pc + 1) ls (.int (ajI h o i.toNatClampNeg) :: rest))) : W p l e R s m args below meth c H locs cells slots Q (F0 m pc ls (.int i :: ajCz base cst (.ref o) :: rest)) := by
  obtain ⟨hx, hb, hml, hown, hts, hnm, hE, hcst, hbl, -, -⟩ := C0
  obtain ⟨hP, hZ, hk, hS, hcap⟩ := Y
  obtain ⟨ho1, ho2⟩ := ho
  have ho0 : o ≠ 0 := ajSh_w (by omega)
  by_cases ho9 : o < 1000
  · have hoN : o < ajN h := ho1.resolve_right (by omega)
    rw [ajCz_own ho0 ho9]
    have he := ajWs_at (base := base) (cst := cst) (dA := dA) ho0 hoN
    rw [ajCell_byte ho2] at he
    rw [ajLen_own ho9] at hi
    exact va_bald hx hb hE.1 hP (o - 1) 1 he rfl hi hdg kk
  · obtain ⟨t, e1, e2⟩ := hE.2.2.2.1 o (by omega) ho2
    rw [ajCz_con (by omega), e1]
    rw [ajLen_con hk] at hi
    exact va_tb hx hb e2 hS hi (by rw [(hk.2 o (by omega) _).1]) hdg kk
theorem ajW_lald {o : Nat} {i : Int32} (C0 : ajCtx base D dA cst xs L mi p R s m args meth c) (Y : ajDyn base D dA cst xs L s h H locs cells) (hdg : decode (ajBy mi) pc = .ok (.laload, 1)) (ho : ajOK h o 102) (hi : ajIn i (ajLen h o))
    (kk : W p l e R s m args below meth c H locs cells slots Q (F0 m (pc + 1) ls (.long (ajL h o i.toNatClampNeg) :: rest))) : W p l e R s m args below meth c H locs cells slots Q (F0 m pc ls (.int i :: ajCz base cst (.ref o) :: rest)) := by
  obtain ⟨hx, hb, hml, hown, hts, hnm, hE, hcst, hbl, -, -⟩ := C0
  obtain ⟨hP, hZ, hk, hS, hcap⟩ := Y
  obtain ⟨ho1, ho2⟩ := ho
  have ho0 : o ≠ 0 := ajSh_w (by omega)
  have ho9 := ajSh_q (a := o) (by omega) (by omega)
  have hoN : o < ajN h := ho1.resolve_right (by omega)
  rw [ajCz_own ho0 ho9]
  have he := ajWs_at (base := base) (cst := cst) (dA := dA) ho0 hoN
  rw [ajCell_long ho2] at he
  rw [ajLen_own ho9] at hi
  exact va_lald hx hb hE.1 hP (o - 1) 2 he rfl hi hdg kk
theorem ajTy_q {k : Nat} (h1 : 103 ≤ k) (h2 : k < 106) : (ajTy dA)[k - 100]? = some (dA k, .object (ajElN k)) := by
  have : k = 103 ∨ k = 104 ∨ k = 105 := by omega
  rcases this with rfl | rfl | rfl <;> rfl
theorem ajW_aald {o : Nat} {i : Int32} (C0 : ajCtx base D dA cst xs L mi p R s m args meth c) (Y : ajDyn base D dA cst xs L s h H locs cells) (hdg : decode (ajBy mi) pc = .ok (.aaload, 1)) (ho : o < ajN h ∧ 103 ≤ (ajSh o).1 ∧ (ajSh o).1 < 106) (hi : ajIn i (ajLen h o))
    (kk : W p l e R s m args below meth c H locs cells slots Q (F0 m (pc + 1) ls (ajCz base cst (.ref (ajR h o i.toNatClampNeg)) :: rest))) : W p l e R s m args below meth c H locs cells slots Q (F0 m pc ls (.int i :: ajCz base cst (.ref o) :: rest)) := by
  obtain ⟨hx, hb, hml, hown, hts, hnm, hE, hcst, hbl, -, -⟩ := C0
  obtain ⟨hP, hZ, hk, hS, hcap⟩ := Y
  obtain ⟨hoN, ho2, ho3⟩ := ho
  have ho0 : o ≠ 0 := ajSh_w (by omega)
  have ho9 := ajSh_q (a := o) (by omega) (by omega)
  rw [ajCz_own ho0 ho9]
  have he := ajWs_at (base := base) (cst := cst) (dA := dA) ho0 hoN
  rw [ajCell_ref ho2] at he
  rw [ajLen_own ho9] at hi
  refine va_aldq hx hb hE.1 hP (o - 1) ((ajSh o).1 - 100) he (ajTy_q ho2 ho3) hi hdg ?_
  rw [ajRo_rf base hcst]
  exact kk
theorem ajW_alen {o : Nat} (C0 : ajCtx base D dA cst xs L mi p R s m args meth c) (Y : ajDyn base D dA cst xs L s h H locs cells) (hdg : decode (ajBy mi) pc = .ok (.arraylength, 1)) (ho : (o < ajN h ∨ 1000 ≤ o) ∧ 100 ≤ (ajSh o).1 ∧ (ajSh o).1 < 106)
    (kk : W p l e R s m args below meth c H locs cells slots Q (F0 m (pc + 1) ls (.int (Int32.ofNat (ajLen h o)) :: rest))) : W p l e R s m args below meth c H locs cells slots Q (F0 m pc ls (ajCz base cst (.ref o) :: rest)) := by
  obtain ⟨hx, hb, hml, hown, hts, hnm, hE, hcst, hbl, -, -⟩ := C0
  obtain ⟨hP, hZ, hk, hS, hcap⟩ := Y
  obtain ⟨ho1, ho2, ho3⟩ := ho
  have ho0 : o ≠ 0 := ajSh_w (by omega)
  by_cases ho9 : o < 1000
  · have hoN : o < ajN h := ho1.resolve_right (by omega)
    rw [ajCz_own ho0 ho9]
    have he := ajWs_at (base := base) (cst := cst) (dA := dA) ho0 hoN
    rw [ajLen_own ho9] at kk
    have hc : (ajSh o).1 = 100 ∨ (ajSh o).1 = 101 ∨ (ajSh o).1 = 102 ∨ 103 ≤ (ajSh o).1 := by omega
    rcases hc with hc | hc | hc | hc
    · rw [ajCell_int hc] at he
      exact va_alen hx hb hE.1 hP (o - 1) 0 he rfl rfl hdg kk
    · rw [ajCell_byte hc] at he
      exact va_alen hx hb hE.1 hP (o - 1) 1 he rfl rfl hdg kk
    · rw [ajCell_long hc] at he
      exact va_alen hx hb hE.1 hP (o - 1) 2 he rfl rfl hdg kk
    · rw [ajCell_ref hc] at he
      exact va_alen hx hb hE.1 hP (o - 1) ((ajSh o).1 - 100) he (ajTy_q hc ho3) rfl hdg kk
  · rw [ajLen_con hk] at kk
    have hc : (ajSh o).1 = 100 ∨ (ajSh o).1 = 101 := by
      have := @ajSh_q o
      omega
    rcases hc with hc | hc
    · obtain ⟨t, e1, e2⟩ := hE.2.2.1 o (by omega) hc
      rw [ajCz_con (by omega), e1]
      exact va_tlen hx hb e2 hS rfl hdg kk
    · obtain ⟨t, e1, e2⟩ := hE.2.2.2.1 o (by omega) hc
      rw [ajCz_con (by omega), e1]
      exact va_tlen hx hb e2 hS rfl hdg kk
theorem ajI_upd (h : ajH) (o k : Nat) (x : Int32) : ajI (ajSI h o k x) o = upd (ajI h o) k x := by
  funext j
  rw [ajI_SI]
  unfold upd
  by_cases hj : j = k
  · rw [if_pos ⟨rfl, hj⟩, if_pos hj]
  · rw [if_neg (fun z => hj z.2), if_neg hj]
theorem ajL_upd (h : ajH) (o k : Nat) (x : Int64) : ajL (ajSL h o k x) o = vp_updL (ajL h o) k x := by
  funext j
  rw [ajL_SL]
  unfold vp_updL
  by_cases hj : j = k
  · rw [if_pos ⟨rfl, hj⟩, if_pos hj]
  · rw [if_neg (fun z => hj z.2), if_neg hj]
theorem ajSI_oth (h : ajH) (o k : Nat) (x : Int32) : ∀ b : Nat, b ≠ o → (∀ j, ajI (ajSI h o k x) b j = ajI h b j) ∧ (∀ j, ajL (ajSI h o k x) b j = ajL h b j) ∧ ∀ j, ajR (ajSI h o k x) b j = ajR h b j := fun b hb => ⟨fun j => by rw [ajI_SI, if_neg (fun z => hb z.1)], fun j => rfl, fun j => rfl⟩
theorem ajSL_oth (h : ajH) (o k : Nat) (x : Int64) : ∀ b : Nat, b ≠ o → (∀ j, ajI (ajSL h o k x) b j = ajI h b j) ∧ (∀ j, ajL (ajSL h o k x) b j = ajL h b j) ∧ ∀ j, ajR (ajSL h o k x) b j = ajR h b j := fun b hb => ⟨fun j => rfl, fun j => by rw [ajL_SL, if_neg (fun z => hb z.1)], fun j => rfl⟩
theorem ajSR_oth (h : ajH) (o k : Nat) (x : Nat) : ∀ b : Nat, b ≠ o → (∀ j, ajI (ajSR h o k x) b j = ajI h b j) ∧ (∀ j, ajL (ajSR h o k x) b j = ajL h b j) ∧ ∀ j, ajR (ajSR h o k x) b j = ajR h b j := fun b hb => ⟨fun j => rfl, fun j => rfl, fun j => by rw [ajR_SR, if_neg (fun z => hb z.1)]⟩
theorem ajW_iast {o : Nat} {i x : Int32} (C0 : ajCtx base D dA cst xs L mi p R s m args meth c) (Y : ajDyn base D dA cst xs L s h H locs cells) (hdg : decode (ajBy mi) pc = .ok (.iastore, 1)) (ho : ajOW h o 100) (hi : ajIn i (ajLen h o))
    (kk : ∀ (H1 : Heap) (locs1 : List Loc), ajDyn base D dA cst xs L s (ajSI h o i.toNatClampNeg x) H1 locs1 cells → W p l e R s m args below meth c H1 locs1 cells slots Q (F0 m (pc + 1) ls rest)) : W p l e R s m args below meth c H locs cells slots Q (F0 m pc ls (.int x :: .int i :: ajCz base cst (.ref o) :: rest)) := by
  obtain ⟨hx, hb, hml, hown, hts, hnm, hE, hcst, hbl, -, -⟩ := C0
  have Y0 := Y
  obtain ⟨hP, hZ, hk, hS, hcap⟩ := Y
  obtain ⟨hoN, ho2⟩ := ho
  have ho0 : o ≠ 0 := ajSh_w (by omega)
  have ho9 : o < 1000 := by have := hZ.1; omega
  rw [ajCz_own ho0 ho9]
  have he := ajWs_at (base := base) (cst := cst) (dA := dA) ho0 hoN
  rw [ajCell_int ho2] at he
  rw [ajLen_own ho9] at hi
  refine va_iast hx hb hE.1 hP ajWs_D hS (o - 1) 0 he rfl hi hdg fun H1 locs1 g1 _ g2 => kk H1 locs1 ?_
  exact ajDyn_set Y0 ho0 hoN rfl (by rw [ajCell_int ho2, ajI_upd]) (ajSI_oth h o _ x) g1 g2
theorem ajW_bast {o : Nat} {i x : Int32} (C0 : ajCtx base D dA cst xs L mi p R s m args meth c) (Y : ajDyn base D dA cst xs L s h H locs cells) (hdg : decode (ajBy mi) pc = .ok (.bastore, 1)) (ho : ajOW h o 101) (hi : ajIn i (ajLen h o))
    (kk : ∀ (H1 : Heap) (locs1 : List Loc), ajDyn base D dA cst xs L s (ajSI h o i.toNatClampNeg (vp_nar .byte x)) H1 locs1 cells → W p l e R s m args below meth c H1 locs1 cells slots Q (F0 m (pc + 1) ls rest)) : W p l e R s m args below meth c H locs cells slots Q (F0 m pc ls (.int x :: .int i :: ajCz base cst (.ref o) :: rest)) := by
  obtain ⟨hx, hb, hml, hown, hts, hnm, hE, hcst, hbl, -, -⟩ := C0
  have Y0 := Y
  obtain ⟨hP, hZ, hk, hS, hcap⟩ := Y
  obtain ⟨hoN, ho2⟩ := ho
  have ho0 : o ≠ 0 := ajSh_w (by omega)
  have ho9 : o < 1000 := by have := hZ.1; omega
  rw [ajCz_own ho0 ho9]
  have he := ajWs_at (base := base) (cst := cst) (dA := dA) ho0 hoN
  rw [ajCell_byte ho2] at he
  rw [ajLen_own ho9] at hi
  refine va_bast hx hb hE.1 hP ajWs_D hS (o - 1) 1 he rfl hi hdg fun H1 locs1 g1 _ g2 => kk H1 locs1 ?_
  exact ajDyn_set Y0 ho0 hoN rfl (by rw [ajCell_byte ho2, ajI_upd]) (ajSI_oth h o _ _) g1 g2
theorem ajW_last {o : Nat} {i : Int32} {x : Int64} (C0 : ajCtx base D dA cst xs L mi p R s m args meth c) (Y : ajDyn base D dA cst xs L s h H locs cells) (hdg : decode (ajBy mi) pc = .ok (.lastore, 1)) (ho : ajOW h o 102) (hi : ajIn i (ajLen h o))
    (kk : ∀ (H1 : Heap) (locs1 : List Loc), ajDyn base D dA cst xs L s (ajSL h o i.toNatClampNeg x) H1 locs1 cells → W p l e R s m args below meth c H1 locs1 cells slots Q (F0 m (pc + 1) ls rest)) : W p l e R s m args below meth c H locs cells slots Q (F0 m pc ls (.long x :: .int i :: ajCz base cst (.ref o) :: rest)) := by
  obtain ⟨hx, hb, hml, hown, hts, hnm, hE, hcst, hbl, -, -⟩ := C0
  have Y0 := Y
  obtain ⟨hP, hZ, hk, hS, hcap⟩ := Y
  obtain ⟨hoN, ho2⟩ := ho
  have ho0 : o ≠ 0 := ajSh_w (by omega)
  have ho9 : o < 1000 := by have := hZ.1; omega
  rw [ajCz_own ho0 ho9]
  have he := ajWs_at (base := base) (cst := cst) (dA := dA) ho0 hoN
  rw [ajCell_long ho2] at he
  rw [ajLen_own ho9] at hi
  refine va_last hx hb hE.1 hP ajWs_D hS (o - 1) 2 he rfl hi hdg fun H1 locs1 g1 _ g2 => kk H1 locs1 ?_
  exact ajDyn_set Y0 ho0 hoN rfl (by rw [ajCell_long ho2, ajL_upd]) (ajSL_oth h o _ x) g1 g2
theorem ajEl_cl {k : Nat} (h1 : 103 ≤ k) (h2 : k < 106) : ∃ r : vw_C, ajCl[ajEl k]? = some r ∧ r.1 = ajElN k ∧ ajEl k < 50 := by
  have : k = 103 ∨ k = 104 ∨ k = 105 := by omega
  rcases this with rfl | rfl | rfl <;> exact ⟨_, rfl, rfl, by decide⟩
theorem ajW_aast {o v : Nat} {i : Int32} (C0 : ajCtx base D dA cst xs L mi p R s m args meth c) (Y : ajDyn base D dA cst xs L s h H locs cells) (hdg : decode (ajBy mi) pc = .ok (.aastore, 1)) (ho : o < ajN h ∧ 103 ≤ (ajSh o).1 ∧ (ajSh o).1 < 106) (hi : ajIn i (ajLen h o)) (hv : ajOW h v (ajEl (ajSh o).1))
    (kk : ∀ (H1 : Heap) (locs1 : List Loc), ajDyn base D dA cst xs L s (ajSR h o i.toNatClampNeg v) H1 locs1 cells → W p l e R s m args below meth c H1 locs1 cells slots Q (F0 m (pc + 1) ls rest)) : W p l e R s m args below meth c H locs cells slots Q (F0 m pc ls (ajCz base cst (.ref v) :: .int i :: ajCz base cst (.ref o) :: rest)) := by
  obtain ⟨hx, hb, hml, hown, hts, hnm, hE, hcst, hbl, -, -⟩ := C0
  have Y0 := Y
  obtain ⟨hP, hZ, hk, hS, hcap⟩ := Y
  obtain ⟨hoN, ho2, ho3⟩ := ho
  obtain ⟨hvN, hv2⟩ := hv
  obtain ⟨r, r1, r2, r3⟩ := ajEl_cl ho2 ho3
  have ho0 : o ≠ 0 := ajSh_w (by omega)
  have hv0 : v ≠ 0 := ajSh_w (by omega)
  have ho9 : o < 1000 := by have := hZ.1; omega
  have hv9 : v < 1000 := by have := hZ.1; omega
  rw [ajCz_own ho0 ho9, ajCz_own hv0 hv9]
  have he := ajWs_at (base := base) (cst := cst) (dA := dA) ho0 hoN
  rw [ajCell_ref ho2] at he
  have hve := ajWs_at (base := base) (cst := cst) (dA := dA) hv0 hvN
  rw [ajCell_obj (by omega), hv2] at hve
  rw [ajLen_own ho9] at hi
  refine va_astq hx hb hE.1 hP ajWs_D hS (o - 1) ((ajSh o).1 - 100) (v - 1) (ajEl (ajSh o).1) he (by rw [ajTy_q ho2 ho3, r2]) hve r1 hi hdg fun H1 locs1 g1 _ g2 => kk H1 locs1 ?_
  refine ajDyn_set Y0 ho0 hoN rfl ?_ (ajSR_oth h o _ v) g1 g2
  rw [ajCell_ref ho2]
  have e : (fun k => ajRo base cst (ajR (ajSR h o i.toNatClampNeg v) o k)) = va_up (fun k => ajRo base cst (ajR h o k)) i.toNatClampNeg (some (base + v)) := by
    funext j
    rw [ajR_SR]
    unfold va_up
    by_cases hj : j = i.toNatClampNeg
    · rw [if_pos ⟨rfl, hj⟩, if_pos hj, ajRo_own hv0 hv9]
    · rw [if_neg (fun z => hj z.2), if_neg hj]
  rw [e]
end AJR2
