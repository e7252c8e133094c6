/-! The whole machine: what the abstract machine comes to, the machine comes to. -/
theorem ajGwK (i : Nat) {w : Cond} (h : lw_tbl[i]? = some w) (h2 : goodWord w = true) : w ∈ ajGw := ajGw_in (List.mem_of_getElem? h) h2
theorem ajNfw : nativeFrameWords "java/lang/System" "arraycopy" 5 + 11 ≤ 92 := by decide +kernel
section AJM
variable {p : Program} {l : Launch} {e : Env} {R : Room} {s : State} {m : MethodId} {args : Array Value} {below : List Frame} {meth : Method} {c : Code} {H : Heap} {locs : List Loc} {cells slots : Nat} {Q : State → Prop}
variable {pc : Nat} {ls : Array Slot} {base : Nat} {D : va_G} {dA : Nat → ClassId} {cst : Nat → Value} {xs : Nat → Int32} {L mi : Nat} {h h' : ajH} {ps st : List Value}
theorem ajCp_oth (h : ajH) (d s0 sp dp n : Nat) : ∀ b : Nat, b ≠ d → (∀ j, ajI (ajCp h d s0 sp dp n) b j = ajI h b j) ∧ (∀ j, ajL (ajCp h d s0 sp dp n) b j = ajL h b j) ∧ ∀ j, ajR (ajCp h d s0 sp dp n) b j = ajR h b j := fun b hb => ⟨fun j => by rw [ajI_Cp, if_neg (fun z => hb z.1)], fun j => rfl, fun j => rfl⟩
theorem ajCp_row (h : ajH) (d s0 sp dp n : Nat) : ajI (ajCp h d s0 sp dp n) d = va_cpy (ajI h s0) (ajI h d) sp dp n := by
  funext j
  rw [ajI_Cp]
  unfold va_cpy
  by_cases hj : dp ≤ j ∧ j < dp + n
  · rw [if_pos ⟨rfl, hj⟩, if_pos hj]
  · rw [if_neg (fun z => hj z.2), if_neg hj]
/-- arraycopy out of a written array, that nobody changes, into a row of ours -/
theorem ajCopyT {rest : List Value} (hexec : p.tables.exec = Jvm.exec) (hb : c.code = ajBy mi) (hml : c.maxLocals = ls.size) {own : String} {index : Nat} (hown : s.vm.findClass own = some m.cls) (hlink : (Cond.methodLink own index arraycopyName).before args s = true) (hnat : (Cond.native arraycopyName).before args s = true) (hstat : (Cond.static arraycopyName).before args s = true) (hini : (Cond.initialized "java/lang/System").before args s = true)
    {A : Nat → Prop} {cl : List vw_C} {tys : List (ClassId × FieldType)} {ws : va_W} {a : Nat} (hK : va_K D cl tys s) (hP : va_P D cl ws H) (hD : va_D A ws) (hS : va_S A s.heap H locs) {b0 n0 : Nat} {f : Nat → Int32} (hX : va_T .int b0 n0 (fun j => .int (f j)) A s s.heap) (q1 t1 : Nat) {c1 : ClassId} {n1 : Nat} {g : Nat → Int32} (ha1 : ws[q1]? = some (a, .inl (c1, n1, .inl g))) (ht1 : tys[t1]? = some (c1, .int))
    {sp dp n : Int32} (h1 : ¬ sp < 0) (h2 : ¬ dp < 0) (h3 : ¬ n < 0) (h4 : sp.toNatClampNeg + n.toNatClampNeg ≤ n0) (h5 : dp.toNatClampNeg + n.toNatClampNeg ≤ n1)
    (hframes : 1 ≤ R.frames) (hlocals : (rest.map fun v => v.category).sum + (nativeFrameWords "java/lang/System" "arraycopy" 5 + 11) ≤ R.locals) (hdg : decode (ajBy mi) pc = .ok (.invokestatic index, 3))
    (kk : ∀ (H1 : Heap) (locs1 : List Loc), va_P D cl (ws.set q1 (a, .inl (c1, n1, .inl (va_cpy f g sp.toNatClampNeg dp.toNatClampNeg n.toNatClampNeg)))) H1 → va_S A s.heap H1 locs1 → W p l e R s m args below meth c H1 locs1 cells slots Q (F0 m (pc + 3) ls rest)) : W p l e R s m args below meth c H locs cells slots Q (F0 m pc ls (.int n :: .int dp :: .ref a :: .int sp :: .ref b0 :: rest)) := by
  have nn : ∀ z : Int32, ¬ z < 0 → z.toInt = (z.toNatClampNeg : Int) := by
    intro z hz
    have hz0 : (0 : Int) ≤ z.toInt := by
      have := Int32.not_lt.mp hz
      simpa using Int32.le_iff_toInt_le.mp this
    show z.toInt = ((z.toInt.toNat : Nat) : Int)
    omega
  intro T hT X
  obtain ⟨scr, hs1, hs2, hs3, hs4, -, hs5, hs7⟩ := hX
  have hc0 : H[b0]? = some scr := by rw [hS.2.1 b0 (Array.getElem?_eq_some_iff.mp hs1).1 hs7]; exact hs1
  have hc1 : H[a]? = some (vp_cell c1 (n1, .inl g)) := hP q1 _ ha1
  obtain ⟨hs6, k0, hk0, cm0, hkk0⟩ := hs2
  obtain ⟨-, k1, hk1, cm1, hkk1⟩ := (hK.2 t1 _ ht1).1 n1 (fun j => .int (g j))
  have rd : ∀ i : Nat, i < n.toNatClampNeg → scr.slots.getD (sp.toNatClampNeg + i) .null = .int (f (sp.toNatClampNeg + i)) := by
    intro i hi
    rw [Array.getD_eq_getD_getElem?, hs5 _ (by omega)]
    rfl
  obtain ⟨vm', X', step⟩ := X.arraycopy hexec hown hlink hnat hstat hini (src := b0) (dst := a) (cs := scr) (cd := vp_cell c1 (n1, .inl g)) (srcPos := sp) (destPos := dp) (n := n) (by rw [hT]; exact hc0) (by rw [hT]; exact hc1)
    hs6 (fun _ h => by cases h) hs3 (fun h => by cases h) hk0 hk1 hkk0 hkk1 (by simp [refKind]) h1 h2 h3
    (by rw [nn sp h1, nn n h3]; omega)
    (by rw [nn dp h2, nn n h3]; show ¬ _ > ((arrV c1 n1 (fun j => .int (g j))).slots.size : Int); rw [arrV_size]; omega)
    (fun vm₁ _ i hi => by
      rw [rd i hi]
      exact ⟨rfl, trivial⟩)
    (g := F0 m pc ls (.int n :: .int dp :: .ref a :: .int sp :: .ref b0 :: rest)) rfl (by rw [hml]) (rest := rest) rfl (by rw [hb]; exact hdg) hframes (by show 2 * 0 + _ + _ ≤ _; omega)
  have e1 : copied scr (vp_cell c1 (n1, .inl g)) sp dp n = vp_cell c1 (n1, .inl (va_cpy f g sp.toNatClampNeg dp.toNatClampNeg n.toNatClampNeg))  := va_copiedX (fun z => .int z) scr c1 f g hs5 h4
  rw [e1] at X' step
  have hl : a < H.size := (Array.getElem?_eq_some_iff.mp hc1).1
  have hheap : ((T.setVm vm').setCell a (vp_cell c1 (n1, .inl (va_cpy f g sp.toNatClampNeg dp.toNatClampNeg n.toNatClampNeg)))).heap = H.setIfInBounds a (vp_cell c1 (n1, .inl (va_cpy f g sp.toNatClampNeg dp.toNatClampNeg n.toNatClampNeg))) := by rw [← hT]; rfl
  have oq : ∀ q : Nat, q ≠ a → (H.setIfInBounds a (vp_cell c1 (n1, .inl (va_cpy f g sp.toNatClampNeg dp.toNatClampNeg n.toNatClampNeg))))[q]? = H[q]? := fun q hq => by simp [Array.getElem?_setIfInBounds, Ne.symm hq]
  obtain ⟨t, a1, b1⟩ := kk _ _ (hP.set hD ha1 (show (H.setIfInBounds a _)[a]? = some _ by simp [Array.getElem?_setIfInBounds, hl]) oq) ⟨by simp; exact hS.1, fun q g1 g2 => by
      rw [oq q (fun e => g2 (by rw [e]; exact hD.2 q1 _ ha1))]
      exact hS.2.1 q g1 g2, fun q hq => by
      rcases List.mem_append.mp hq with h | h
      · exact hS.2.2 q h
      · obtain ⟨z, -, hz⟩ := List.mem_map.mp h
        rw [← hz]
        exact hD.2 q1 _ ha1⟩ _ hheap X'
  exact ⟨t, step t a1, b1⟩
theorem ajCopy_some {as : List Value} (hs : ajCopy as h = some h') : ∃ (s0 d0 : Nat) (sp dp n : Int32), as = [.ref s0, .int sp, .ref d0, .int dp, .int n] ∧ ajOK h s0 100 ∧ ajOW h d0 100 ∧ ¬ sp < 0 ∧ ¬ dp < 0 ∧ ¬ n < 0 ∧ sp.toNatClampNeg + n.toNatClampNeg ≤ ajLen h s0 ∧ dp.toNatClampNeg + n.toNatClampNeg ≤ ajLen h d0 ∧ h' = ajCp h d0 s0 sp.toNatClampNeg dp.toNatClampNeg n.toNatClampNeg := by
  unfold ajCopy at hs
  split at hs
  · split at hs
    · rename_i hc
      exact ⟨_, _, _, _, _, rfl, hc.1, hc.2.1, hc.2.2.1, hc.2.2.2.1, hc.2.2.2.2.1, hc.2.2.2.2.2.1, hc.2.2.2.2.2.2, (Option.some.inj hs).symm⟩
    · cases hs
  · cases hs
theorem ajW_copy {idx : Nat} (C0 : ajCtx base D dA cst xs L mi p R s m args meth c) (Y : ajDyn base D dA cst xs L s h H locs cells) (hsz : ls.size = ajMx mi) (hdg : decode (ajBy mi) pc = .ok (.invokestatic idx, 3)) (hlk : Cond.methodLink (ajOwn mi) idx arraycopyName ∈ ajGw) (hstk : ajStk 5 st = true) (hs : ajCopy ((st.take 5).reverse) h = some h')
    (kk : ∀ (H1 : Heap) (locs1 : List Loc), ajDyn base D dA cst xs L s h' H1 locs1 cells → W p l e R s m args below meth c H1 locs1 cells slots Q (F0 m (pc + 3) ls ((st.drop 5).map (ajCz base cst)))) : W p l e R s m args below meth c H locs cells slots Q (F0 m pc ls (st.map (ajCz base cst))) := by
  obtain ⟨s0, d0, sp, dp, n, has, hs0, hd0, h1, h2, h3, h4, h5, rfl⟩ := ajCopy_some hs
  obtain ⟨hx, hb, hml, hown, hts, hnm, hE, hcst, hbl, hfr, hlo⟩ := C0
  have Y0 := Y
  obtain ⟨hP, hZ, hk, hS, hcap⟩ := Y
  unfold ajStk at hstk
  rw [Bool.and_eq_true, Nat.ble_eq, Nat.ble_eq] at hstk
  have hcat : (((st.drop 5).map (ajCz base cst)).map fun v => v.category).sum ≤ 8 := by rw [ajCat_map hcst]; exact hstk.2
  have hst := ajMap_stack 5 st (ajCz base cst)
  rw [has] at hst
  have hst : st.map (ajCz base cst) = .int n :: .int dp :: ajCz base cst (.ref d0) :: .int sp :: ajCz base cst (.ref s0) :: (st.drop 5).map (ajCz base cst) := hst
  rw [hst]
  have hd00 : d0 ≠ 0 := ajSh_w (by have := hd0.2; omega)
  have hd09 : d0 < 1000 := by have := hZ.1; have := hd0.1; omega
  have hs00 : s0 ≠ 0 := ajSh_w (by have := hs0.2; omega)
  rw [ajCz_own hd00 hd09]
  have he := ajWs_at (base := base) (cst := cst) (dA := dA) hd00 hd0.1
  rw [ajCell_int hd0.2] at he
  rw [ajLen_own hd09] at h5
  have hlocals : (((st.drop 5).map (ajCz base cst)).map fun v => v.category).sum + (nativeFrameWords "java/lang/System" "arraycopy" 5 + 11) ≤ R.locals := by have := ajNfw; omega
  have w1 := ajGwK 486 (w := .native arraycopyName) (by decide +kernel) rfl
  have w2 := ajGwK 485 (w := .static arraycopyName) (by decide +kernel) rfl
  have w3 := ajGwK 101 (w := .initialized "java/lang/System") (by decide +kernel) rfl
  by_cases hs09 : s0 < 1000
  · rw [ajCz_own hs00 hs09]
    have hsN : s0 < ajN h := hs0.1.resolve_right (by omega)
    have hes := ajWs_at (base := base) (cst := cst) (dA := dA) hs00 hsN
    rw [ajCell_int hs0.2] at hes
    rw [ajLen_own hs09] at h4
    refine va_copyi hx hb (by rw [hml, hsz]) hown (hts _ hlk) (hts _ w1) (hts _ w2) (hts _ w3) hE.1 hP ajWs_D hS (s0 - 1) (d0 - 1) 0 0 (ty := .int) hes he rfl rfl rfl h1 h2 h3 h4 h5 (fun i _ => rfl) hfr hlocals hdg fun H1 locs1 g1 _ g2 => kk H1 locs1 ?_
    exact ajDyn_set Y0 hd00 hd0.1 rfl (by rw [ajCell_int hd0.2, ajCp_row]) (ajCp_oth h _ _ _ _ _) g1 g2
  · obtain ⟨t, e1, e2⟩ := hE.2.2.1 s0 (by omega) hs0.2
    rw [ajCz_con (by omega), e1]
    rw [ajLen_con hk] at h4
    refine ajCopyT hx hb (by rw [hml, hsz]) hown (hts _ hlk) (hts _ w1) (hts _ w2) (hts _ w3) hE.1 hP ajWs_D hS e2 (d0 - 1) 0 he rfl h1 h2 h3 h4 h5 hfr hlocals hdg fun H1 locs1 g1 g2 => kk H1 locs1 ?_
    have hrow : ajI h s0 = fun k => ajCI xs s0 k := funext fun k => (hk.2 s0 (by omega) k).1
    exact ajDyn_set Y0 hd00 hd0.1 rfl (by rw [ajCell_int hd0.2, ajCp_row, hrow]) (ajCp_oth h _ _ _ _ _) g1 g2
/-- Math's min, max, abs -/
theorem ajW_math {idx a b cq pp : Nat} {v : Value} (C0 : ajCtx base D dA cst xs L mi p R s m args meth c) (hsz : ls.size = ajMx mi) (hdg : decode (ajBy mi) pc = .ok (.invokestatic idx, 3)) (hck : ajChM (ajOwn mi) idx a b cq pp = true) (hstk : ajStk b st = true) (hv : ajMath a ((st.take b).reverse) = some v) (hc : cells ≤ R.cells) (hs : slots ≤ R.slots)
    (kk : W p l e R s m args below meth c H locs cells slots Q (F0 m (pc + 3) ls ((v :: st.drop b).map (ajCz base cst)))) : W p l e R s m args below meth c H locs cells slots Q (F0 m pc ls (st.map (ajCz base cst))) := by
  obtain ⟨hx, hb, hml, hown, hts, hnm, hE, hcst, hbl, hfr, hlo⟩ := C0
  unfold ajStk at hstk
  rw [Bool.and_eq_true, Nat.ble_eq, Nat.ble_eq] at hstk
  have hcat : (((st.drop b).map (ajCz base cst)).map fun v => v.category).sum ≤ 8 := by rw [ajCat_map hcst]; exact hstk.2
  have hst := ajMap_stack b st (ajCz base cst)
  have hm2 : c.maxLocals = ls.size := by rw [hml, hsz]
  have wi := ajGwK 103 (w := .initialized "java/lang/Math") (by decide +kernel) rfl
  have s1 := ajGwK 528 (w := .static Lib.Math.max.name) (by decide +kernel) rfl
  have s2 := ajGwK 531 (w := .static Lib.Math.min.name) (by decide +kernel) rfl
  have s3 := ajGwK 825 (w := .static Lib.Math.abs.name) (by decide +kernel) rfl
  have s4 := ajGwK 850 (w := .static Lib.MathLoose.max_long.x) (by decide +kernel) rfl
  have s5 := ajGwK 847 (w := .static Lib.MathLoose.min_long.x) (by decide +kernel) rfl
  have c1 := ajGwK 529 (w := .code Lib.Math.max.name Lib.Math.max.code 2 (some .int)) (by decide +kernel) rfl
  have c2 := ajGwK 532 (w := .code Lib.Math.min.name Lib.Math.min.code 2 (some .int)) (by decide +kernel) rfl
  have c3 := ajGwK 826 (w := .code Lib.Math.abs.name Lib.Math.abs.code 1 (some .int)) (by decide +kernel) rfl
  have c4 := ajGwK 851 (w := .code Lib.MathLoose.max_long.x Lib.MathLoose.max_long.code 4 (some .long)) (by decide +kernel) rfl
  have c5 := ajGwK 848 (w := .code Lib.MathLoose.min_long.x Lib.MathLoose.min_long.code 4 (some .long)) (by decide +kernel) rfl
  unfold ajChM at hck
  rw [Bool.and_eq_true] at hck
  have hck2 := hck.2
  unfold ajMath at hv
  split at hv
  · rename_i x y has
    have hck2 := (Bool.and_eq_true _ _ ▸ (show (Nat.beq b 2 && ajHas pp (.methodLink (ajOwn mi) idx Lib.Math.max.name)) = true from hck2) : Nat.beq b 2 = true ∧ ajHas pp (.methodLink (ajOwn mi) idx Lib.Math.max.name) = true)
    rw [has] at hst
    have hst : st.map (ajCz base cst) = .int y :: .int x :: (st.drop b).map (ajCz base cst) := hst
    rw [hst]
    cases hv
    exact va_mmax hx hb hm2 hown (hts _ (ajHas_in hck2.2)) (hts _ s1) (hts _ wi) (hts _ c1) hfr (by omega) hc hs hdg kk
  · rename_i x y has
    have hck2 := (Bool.and_eq_true _ _ ▸ (show (Nat.beq b 2 && ajHas pp (.methodLink (ajOwn mi) idx Lib.Math.min.name)) = true from hck2) : Nat.beq b 2 = true ∧ ajHas pp (.methodLink (ajOwn mi) idx Lib.Math.min.name) = true)
    rw [has] at hst
    have hst : st.map (ajCz base cst) = .int y :: .int x :: (st.drop b).map (ajCz base cst) := hst
    rw [hst]
    cases hv
    exact va_mmin hx hb hm2 hown (hts _ (ajHas_in hck2.2)) (hts _ s2) (hts _ wi) (hts _ c2) hfr (by omega) hc hs hdg kk
  · rename_i x has
    have hck2 := (Bool.and_eq_true _ _ ▸ (show (Nat.beq b 1 && ajHas pp (.methodLink (ajOwn mi) idx Lib.Math.abs.name)) = true from hck2) : Nat.beq b 1 = true ∧ ajHas pp (.methodLink (ajOwn mi) idx Lib.Math.abs.name) = true)
    rw [has] at hst
    have hst : st.map (ajCz base cst) = .int x :: (st.drop b).map (ajCz base cst) := hst
    rw [hst]
    cases hv
    exact va_mabs hx hb hm2 hown (hts _ (ajHas_in hck2.2)) (hts _ s3) (hts _ wi) (hts _ c3) hfr (by omega) hc hs hdg kk
  · rename_i x y has
    have hck2 := (Bool.and_eq_true _ _ ▸ (show (Nat.beq b 2 && ajHas pp (.methodLink (ajOwn mi) idx Lib.MathLoose.max_long.x)) = true from hck2) : Nat.beq b 2 = true ∧ ajHas pp (.methodLink (ajOwn mi) idx Lib.MathLoose.max_long.x) = true)
    rw [has] at hst
    have hst : st.map (ajCz base cst) = .long y :: .long x :: (st.drop b).map (ajCz base cst) := hst
    rw [hst]
    cases hv
    exact va_mmax_long hx hb hm2 hown (hts _ (ajHas_in hck2.2)) (hts _ s4) (hts _ wi) (hts _ c4) hfr (by omega) hc hs hdg kk
  · rename_i x y has
    have hck2 := (Bool.and_eq_true _ _ ▸ (show (Nat.beq b 2 && ajHas pp (.methodLink (ajOwn mi) idx Lib.MathLoose.min_long.x)) = true from hck2) : Nat.beq b 2 = true ∧ ajHas pp (.methodLink (ajOwn mi) idx Lib.MathLoose.min_long.x) = true)
    rw [has] at hst
    have hst : st.map (ajCz base cst) = .long y :: .long x :: (st.drop b).map (ajCz base cst) := hst
    rw [hst]
    cases hv
    exact va_mmin_long hx hb hm2 hown (hts _ (ajHas_in hck2.2)) (hts _ s5) (hts _ wi) (hts _ c5) hfr (by omega) hc hs hdg kk
  · cases hv
theorem ajStep_mono {en : ajE} {q : Nat × List Value × List Value × ajH} (hs : ajStep en pc ps st h = some q) : ajCt h ≤ ajCt q.2.2.2 ∧ ajW h ≤ ajW q.2.2.2 := by
  obtain ⟨ins, len, a, b, t, z, ts⟩ := en
  unfold ajStep at hs
  dsimp only at hs
  cases ins with
  | aconst_null => (cases hs) <;> exact ⟨Nat.le_refl _, Nat.le_refl _⟩
  | aload i => (obtain ⟨x, hv, rfl⟩ := ajAld_some hs) <;> exact ⟨Nat.le_refl _, Nat.le_refl _⟩
  | aload_n i => (obtain ⟨x, hv, rfl⟩ := ajAld_some hs) <;> exact ⟨Nat.le_refl _, Nat.le_refl _⟩
  | iload i => (obtain ⟨x, hv, rfl⟩ := ajIld_some hs) <;> exact ⟨Nat.le_refl _, Nat.le_refl _⟩
  | iload_n i => (obtain ⟨x, hv, rfl⟩ := ajIld_some hs) <;> exact ⟨Nat.le_refl _, Nat.le_refl _⟩
  | lload i => (obtain ⟨x, hv, rfl⟩ := ajLld_some hs) <;> exact ⟨Nat.le_refl _, Nat.le_refl _⟩
  | lload_n i => (obtain ⟨x, hv, rfl⟩ := ajLld_some hs) <;> exact ⟨Nat.le_refl _, Nat.le_refl _⟩
  | istore i => (obtain ⟨x, r, rfl, rfl⟩ := ajIst_some hs) <;> exact ⟨Nat.le_refl _, Nat.le_refl _⟩
  | istore_n i => (obtain ⟨x, r, rfl, rfl⟩ := ajIst_some hs) <;> exact ⟨Nat.le_refl _, Nat.le_refl _⟩
  | lstore i => (obtain ⟨x, r, rfl, rfl⟩ := ajLst_some hs) <;> exact ⟨Nat.le_refl _, Nat.le_refl _⟩
  | lstore_n i => (obtain ⟨x, r, rfl, rfl⟩ := ajLst_some hs) <;> exact ⟨Nat.le_refl _, Nat.le_refl _⟩
  | astore i => (obtain ⟨x, r, rfl, rfl⟩ := ajAst_some hs) <;> exact ⟨Nat.le_refl _, Nat.le_refl _⟩
  | astore_n i => (obtain ⟨x, r, rfl, rfl⟩ := ajAst_some hs) <;> exact ⟨Nat.le_refl _, Nat.le_refl _⟩
  | iinc i n => (obtain ⟨x, hv, rfl⟩ := ajInc_some hs) <;> exact ⟨Nat.le_refl _, Nat.le_refl _⟩
  | iconst n => (cases hs) <;> exact ⟨Nat.le_refl _, Nat.le_refl _⟩
  | bipush n => (cases hs) <;> exact ⟨Nat.le_refl _, Nat.le_refl _⟩
  | sipush n => (cases hs) <;> exact ⟨Nat.le_refl _, Nat.le_refl _⟩
  | lconst n => (cases hs) <;> exact ⟨Nat.le_refl _, Nat.le_refl _⟩
  | ldc n => (cases hs) <;> exact ⟨Nat.le_refl _, Nat.le_refl _⟩
  | ldc_w n => (cases hs) <;> exact ⟨Nat.le_refl _, Nat.le_refl _⟩
  | ldc2_w n => (cases hs) <;> exact ⟨Nat.le_refl _, Nat.le_refl _⟩
  | getstatic n => (cases hs) <;> exact ⟨Nat.le_refl _, Nat.le_refl _⟩
  | goto n => (cases hs) <;> exact ⟨Nat.le_refl _, Nat.le_refl _⟩
  | iadd => (obtain ⟨x, y, r, rfl, rfl⟩ := ajII_some hs) <;> exact ⟨Nat.le_refl _, Nat.le_refl _⟩
  | isub => (obtain ⟨x, y, r, rfl, rfl⟩ := ajII_some hs) <;> exact ⟨Nat.le_refl _, Nat.le_refl _⟩
  | imul => (obtain ⟨x, y, r, rfl, rfl⟩ := ajII_some hs) <;> exact ⟨Nat.le_refl _, Nat.le_refl _⟩
  | iand => (obtain ⟨x, y, r, rfl, rfl⟩ := ajII_some hs) <;> exact ⟨Nat.le_refl _, Nat.le_refl _⟩
  | ior => (obtain ⟨x, y, r, rfl, rfl⟩ := ajII_some hs) <;> exact ⟨Nat.le_refl _, Nat.le_refl _⟩
  | ixor => (obtain ⟨x, y, r, rfl, rfl⟩ := ajII_some hs) <;> exact ⟨Nat.le_refl _, Nat.le_refl _⟩
  | ishl => (obtain ⟨x, y, r, rfl, rfl⟩ := ajII_some hs) <;> exact ⟨Nat.le_refl _, Nat.le_refl _⟩
  | ishr => (obtain ⟨x, y, r, rfl, rfl⟩ := ajII_some hs) <;> exact ⟨Nat.le_refl _, Nat.le_refl _⟩
  | iushr => (obtain ⟨x, y, r, rfl, rfl⟩ := ajII_some hs) <;> exact ⟨Nat.le_refl _, Nat.le_refl _⟩
  | idiv => (obtain ⟨x, y, r, rfl, rfl, hy⟩ := ajDD_some hs) <;> exact ⟨Nat.le_refl _, Nat.le_refl _⟩
  | irem => (obtain ⟨x, y, r, rfl, rfl, hy⟩ := ajDD_some hs) <;> exact ⟨Nat.le_refl _, Nat.le_refl _⟩
  | ladd => (obtain ⟨x, y, r, rfl, rfl⟩ := ajLL_some hs) <;> exact ⟨Nat.le_refl _, Nat.le_refl _⟩
  | lsub => (obtain ⟨x, y, r, rfl, rfl⟩ := ajLL_some hs) <;> exact ⟨Nat.le_refl _, Nat.le_refl _⟩
  | lmul => (obtain ⟨x, y, r, rfl, rfl⟩ := ajLL_some hs) <;> exact ⟨Nat.le_refl _, Nat.le_refl _⟩
  | land => (obtain ⟨x, y, r, rfl, rfl⟩ := ajLL_some hs) <;> exact ⟨Nat.le_refl _, Nat.le_refl _⟩
  | lor => (obtain ⟨x, y, r, rfl, rfl⟩ := ajLL_some hs) <;> exact ⟨Nat.le_refl _, Nat.le_refl _⟩
  | ldiv => (obtain ⟨x, y, r, rfl, rfl, hy⟩ := ajLD_some hs) <;> exact ⟨Nat.le_refl _, Nat.le_refl _⟩
  | lrem => (obtain ⟨x, y, r, rfl, rfl, hy⟩ := ajLD_some hs) <;> exact ⟨Nat.le_refl _, Nat.le_refl _⟩
  | lshl => (obtain ⟨x, y, r, rfl, rfl⟩ := ajLS_some hs) <;> exact ⟨Nat.le_refl _, Nat.le_refl _⟩
  | lushr => (obtain ⟨x, y, r, rfl, rfl⟩ := ajLS_some hs) <;> exact ⟨Nat.le_refl _, Nat.le_refl _⟩
  | ineg => (obtain ⟨x, r, rfl, rfl⟩ := ajUU_some hs) <;> exact ⟨Nat.le_refl _, Nat.le_refl _⟩
  | i2l => (obtain ⟨x, r, rfl, rfl⟩ := ajUU_some hs) <;> exact ⟨Nat.le_refl _, Nat.le_refl _⟩
  | i2b => (obtain ⟨x, r, rfl, rfl⟩ := ajUU_some hs) <;> exact ⟨Nat.le_refl _, Nat.le_refl _⟩
  | i2c => (obtain ⟨x, r, rfl, rfl⟩ := ajUU_some hs) <;> exact ⟨Nat.le_refl _, Nat.le_refl _⟩
  | l2i => (obtain ⟨x, r, rfl, rfl⟩ := ajL2I_some hs) <;> exact ⟨Nat.le_refl _, Nat.le_refl _⟩
  | lcmp => (obtain ⟨x, y, r, rfl, rfl⟩ := ajCmpL_some hs) <;> exact ⟨Nat.le_refl _, Nat.le_refl _⟩
  | dup => (obtain ⟨v, r, rfl, hc1, rfl⟩ := ajDup_some hs) <;> exact ⟨Nat.le_refl _, Nat.le_refl _⟩
  | dup2 => (obtain ⟨v, w, r, rfl, hc1, hc2, rfl⟩ := ajDup2_some hs) <;> exact ⟨Nat.le_refl _, Nat.le_refl _⟩
  | pop => (obtain ⟨v, r, rfl, hc1, rfl⟩ := ajPop_some hs) <;> exact ⟨Nat.le_refl _, Nat.le_refl _⟩
  | ifCond cc off => (obtain ⟨x, r, rfl, h1⟩ := ajBr_some hs; rcases h1 with ⟨h1, rfl⟩ | ⟨h1, rfl⟩) <;> exact ⟨Nat.le_refl _, Nat.le_refl _⟩
  | if_icmp cc off => (obtain ⟨x, y, r, rfl, h1⟩ := ajBr2_some hs; rcases h1 with ⟨h1, rfl⟩ | ⟨h1, rfl⟩) <;> exact ⟨Nat.le_refl _, Nat.le_refl _⟩
  | ifnull off => (obtain ⟨x, r, rfl, h1⟩ := ajNul_some hs; rcases h1 with ⟨h1, rfl⟩ | ⟨h1, rfl⟩) <;> exact ⟨Nat.le_refl _, Nat.le_refl _⟩
  | tableswitch df lo hi offs => (obtain ⟨x, r, rfl, rfl⟩ := ajTsw_some hs) <;> exact ⟨Nat.le_refl _, Nat.le_refl _⟩
  | getfield idx => (obtain ⟨x, r, rfl, rfl, ho⟩ := ajGet_some hs) <;> exact ⟨Nat.le_refl _, Nat.le_refl _⟩
  | putfield idx => (obtain ⟨v, o, r, rfl, ho, h1⟩ := ajSet_some hs; rcases h1 with ⟨_, x, rfl, rfl⟩ | ⟨_, x, hx01, rfl, rfl⟩ | ⟨_, x, rfl, rfl⟩ | ⟨_, x, rfl, rfl⟩) <;> exact ⟨Nat.le_refl _, Nat.le_refl _⟩
  | iaload => (obtain ⟨i, x, r, rfl, rfl, ho, hi⟩ := ajAL_some hs) <;> exact ⟨Nat.le_refl _, Nat.le_refl _⟩
  | baload => (obtain ⟨i, x, r, rfl, rfl, ho, hi⟩ := ajAL_some hs) <;> exact ⟨Nat.le_refl _, Nat.le_refl _⟩
  | laload => (obtain ⟨i, x, r, rfl, rfl, ho, hi⟩ := ajAL_some hs) <;> exact ⟨Nat.le_refl _, Nat.le_refl _⟩
  | aaload => (obtain ⟨i, x, r, rfl, rfl, ho, hi⟩ := ajALq_some hs) <;> exact ⟨Nat.le_refl _, Nat.le_refl _⟩
  | iastore => (obtain ⟨y, i, x, r, rfl, rfl, ho, hi⟩ := ajAS_some hs) <;> exact ⟨Nat.le_refl _, Nat.le_refl _⟩
  | bastore => (obtain ⟨y, i, x, r, rfl, rfl, ho, hi⟩ := ajAS_some hs) <;> exact ⟨Nat.le_refl _, Nat.le_refl _⟩
  | lastore => (obtain ⟨y, i, x, r, rfl, rfl, ho, hi⟩ := ajASl_some hs) <;> exact ⟨Nat.le_refl _, Nat.le_refl _⟩
  | aastore => (obtain ⟨v, i, x, r, rfl, rfl, ho, hi, hv⟩ := ajASq_some hs) <;> exact ⟨Nat.le_refl _, Nat.le_refl _⟩
  | arraylength => (obtain ⟨x, r, rfl, rfl, ho⟩ := ajALen_some hs) <;> exact ⟨Nat.le_refl _, Nat.le_refl _⟩
  | new idx =>
    obtain ⟨rfl, -, -, -⟩ := ajNew_some hs
    exact ⟨by unfold ajCt; show _ ≤ ajN h + 1 + ajX h; omega, by show _ ≤ ajW h + _; omega⟩
  | newarray ty =>
    obtain ⟨x, r, rfl, rfl, -⟩ := ajNewA_some hs
    exact ⟨by unfold ajCt; show _ ≤ ajN h + 1 + ajX h; omega, by show _ ≤ ajW h + _; omega⟩
  | anewarray idx =>
    obtain ⟨x, r, rfl, rfl, -⟩ := ajNewA_some hs
    exact ⟨by unfold ajCt; show _ ≤ ajN h + 1 + ajX h; omega, by show _ ≤ ajW h + _; omega⟩
  | _ => cases hs
theorem ajCopy_mono {as : List Value} (hs : ajCopy as h = some h') : ajCt h ≤ ajCt h' ∧ ajW h ≤ ajW h' := by
  obtain ⟨s0, d0, sp, dp, n, -, -, -, -, -, -, -, -, rfl⟩ := ajCopy_some hs
  exact ⟨Nat.le_refl _, Nat.le_refl _⟩
/-- a call, out of the run -/
def ajInv (n d mi pc : Nat) (en : ajE) (ps st : List Value) (h : ajH) : Option (Option Value × ajH) :=
  let b := if en.2.2.2.2.1 = 0 then en.2.2.2.1 else en.2.2.2.1 + 1
  let as := (st.take b).reverse
  let rest := st.drop b
  if ajStk b st = true then
    if en.2.2.1 = 502 then (if ajOne as = true then ajRun n d mi (pc + 3) ps rest h else none)
    else if en.2.2.1 = 500 then match ajCopy as h with
      | some h' => ajRun n d mi (pc + 3) ps rest h'
      | none => none
    else if en.2.2.1 = 501 then match ajSpk h as with
      | some true => match d with
        | d + 2 => match ajRun n d ajSpI 0 (ajEnt (ajMx ajSpI) (as.take 3)) [] h with
          | some (some (.int r), h') => ajRun n (d + 2) mi (pc + 3) ps (.int 0 :: rest) (ajOut as h' r)
          | _ => none
        | _ => none
      | some false => if 8 ≤ d then ajRun n d mi (pc + 3) ps (.int 1 :: rest) (ajTh h) else none
      | none => none
    else if 510 ≤ en.2.2.1 then match ajMath en.2.2.1 as with
      | some v => ajRun n d mi (pc + 3) ps (v :: rest) h
      | none => none
    else match d with
      | 0 => none
      | d + 1 => if (ajArg en.2.2.1 as && ajRcv h en.2.2.2.2.1 as) = true then
          match ajRun n d en.2.2.1 0 (ajEnt (ajMx en.2.2.1) as) [] h with
          | some (r, h') => ajRun n (d + 1) mi (pc + 3) ps (r.toList ++ rest) h'
          | none => none
        else none
  else none
theorem ajInv_some {n d : Nat} {en : ajE} {q : Option Value × ajH} (hs : ajInv n d mi pc en ps st h = some q) : ∃ b, b = (if en.2.2.2.2.1 = 0 then en.2.2.2.1 else en.2.2.2.1 + 1) ∧ ajStk b st = true ∧
    ((en.2.2.1 = 502 ∧ ajOne ((st.take b).reverse) = true ∧ ajRun n d mi (pc + 3) ps (st.drop b) h = some q) ∨
     (en.2.2.1 = 500 ∧ ∃ h1, ajCopy ((st.take b).reverse) h = some h1 ∧ ajRun n d mi (pc + 3) ps (st.drop b) h1 = some q) ∨
     (en.2.2.1 = 501 ∧ ((ajSpk h ((st.take b).reverse) = some true ∧ ∃ d1 r h1, d = d1 + 2 ∧ ajRun n d1 ajSpI 0 (ajEnt (ajMx ajSpI) (((st.take b).reverse).take 3)) [] h = some (some (.int r), h1) ∧ ajRun n d mi (pc + 3) ps (.int 0 :: st.drop b) (ajOut ((st.take b).reverse) h1 r) = some q) ∨
        (ajSpk h ((st.take b).reverse) = some false ∧ 8 ≤ d ∧ ajRun n d mi (pc + 3) ps (.int 1 :: st.drop b) (ajTh h) = some q))) ∨
     (∃ d1 r h1, d = d1 + 1 ∧ ajArg en.2.2.1 ((st.take b).reverse) = true ∧ ajRcv h en.2.2.2.2.1 ((st.take b).reverse) = true ∧ ajRun n d1 en.2.2.1 0 (ajEnt (ajMx en.2.2.1) ((st.take b).reverse)) [] h = some (r, h1) ∧ en.2.2.1 ≠ 500 ∧ en.2.2.1 ≠ 501 ∧ en.2.2.1 ≠ 502 ∧ ¬ 510 ≤ en.2.2.1 ∧ ajRun n d mi (pc + 3) ps (r.toList ++ st.drop b) h1 = some q) ∨
     (510 ≤ en.2.2.1 ∧ ∃ v, ajMath en.2.2.1 ((st.take b).reverse) = some v ∧ ajRun n d mi (pc + 3) ps (v :: st.drop b) h = some q)) := by
  refine ⟨_, rfl, ?_⟩
  unfold ajInv at hs
  dsimp only at hs
  generalize hb : (if en.2.2.2.2.1 = 0 then en.2.2.2.1 else en.2.2.2.1 + 1) = b at hs ⊢
  split at hs
  · rename_i h0
    refine ⟨h0, ?_⟩
    split at hs
    · rename_i h1
      split at hs
      · rename_i h2; exact Or.inl ⟨h1, h2, hs⟩
      · cases hs
    · rename_i h1
      split at hs
      · rename_i h2
        split at hs
        · rename_i h9 h3; exact Or.inr (Or.inl ⟨h2, _, h3, hs⟩)
        · cases hs
      · rename_i h2
        split at hs
        · rename_i h3
          split at hs
          · rename_i h4
            split at hs
            · split at hs
              · rename_i h5; exact Or.inr (Or.inr (Or.inl ⟨h3, Or.inl ⟨h4, _, _, _, rfl, h5, hs⟩⟩))
              · cases hs
            · cases hs
          · rename_i h4
            split at hs
            · rename_i h5; exact Or.inr (Or.inr (Or.inl ⟨h3, Or.inr ⟨h4, h5, hs⟩⟩))
            · cases hs
          · cases hs
        · rename_i h3
          split at hs
          · rename_i h6
            split at hs
            · rename_i h7; exact Or.inr (Or.inr (Or.inr (Or.inr ⟨h6, _, h7, hs⟩)))
            · cases hs
          · rename_i h6
            split at hs
            · cases hs
            · split at hs
              · rename_i h4
                rw [Bool.and_eq_true] at h4
                split at hs
                · rename_i h5; exact Or.inr (Or.inr (Or.inr (Or.inl ⟨_, _, _, rfl, h4.1, h4.2, h5, h2, h3, h1, h6, hs⟩)))
                · cases hs
              · cases hs
  · cases hs
/-- the run, a step apart -/
theorem ajRun_some {n d : Nat} {q : Option Value × ajH} (hs : ajRun (n + 1) d mi pc ps st h = some q) : ∃ en, ajCode mi pc = some en ∧
    ((en.1 = .ireturn ∧ ∃ x, st = [.int x] ∧ ajRet (ajRt mi) x = true ∧ q = (some (.int x), h)) ∨ (en.1 = .lreturn ∧ ∃ x, st = [.long x] ∧ ajRt mi = 4 ∧ q = (some (.long x), h)) ∨
     (en.1 = .areturn ∧ ∃ x, st = [.ref x] ∧ ajRt mi = 5 ∧ q = (some (.ref x), h)) ∨ (en.1 = .return_ ∧ st = [] ∧ ajRt mi = 6 ∧ q = (none, h)) ∨
     ((∃ idx, en.1 = .invokevirtual idx ∨ en.1 = .invokestatic idx ∨ en.1 = .invokespecial idx) ∧ ajInv n d mi pc en (ajKill mi pc ps) st h = some q) ∨
     (∃ u, ajStep en pc (ajKill mi pc ps) st h = some u ∧ ajRun n d mi u.1 u.2.1 u.2.2.1 u.2.2.2 = some q)) := by
  unfold ajRun at hs
  split at hs
  · cases hs
  · rename_i en hen
    refine ⟨en, hen, ?_⟩
    split at hs
    · rename_i h1
      split at hs
      · split at hs
        · rename_i h2; exact Or.inl ⟨h1, _, rfl, h2, (Option.some.inj hs).symm⟩
        · cases hs
      · cases hs
    · rename_i h1
      split at hs
      · split at hs
        · rename_i h2; exact Or.inr (Or.inl ⟨h1, _, rfl, h2, (Option.some.inj hs).symm⟩)
        · cases hs
      · cases hs
    · rename_i h1
      split at hs
      · split at hs
        · rename_i h2; exact Or.inr (Or.inr (Or.inl ⟨h1, _, rfl, h2, (Option.some.inj hs).symm⟩))
        · cases hs
      · cases hs
    · rename_i h1
      split at hs
      · split at hs
        · rename_i h2; exact Or.inr (Or.inr (Or.inr (Or.inl ⟨h1, rfl, h2, (Option.some.inj hs).symm⟩)))
        · cases hs
      · cases hs
    · rename_i idx h1
      exact Or.inr (Or.inr (Or.inr (Or.inr (Or.inl ⟨⟨idx, Or.inl h1⟩, hs⟩))))
    · rename_i idx h1
      exact Or.inr (Or.inr (Or.inr (Or.inr (Or.inl ⟨⟨idx, Or.inr (Or.inl h1)⟩, hs⟩))))
    · rename_i idx h1
      exact Or.inr (Or.inr (Or.inr (Or.inr (Or.inl ⟨⟨idx, Or.inr (Or.inr h1)⟩, hs⟩))))
    · split at hs
      · rename_i h2; exact Or.inr (Or.inr (Or.inr (Or.inr (Or.inr ⟨_, h2, hs⟩))))
      · cases hs
theorem ajRun_mono : ∀ (n d mi pc : Nat) (ps st : List Value) (h : ajH) (q : Option Value × ajH), ajRun n d mi pc ps st h = some q → ajCt h ≤ ajCt q.2 ∧ ajW h ≤ ajW q.2 := by
  intro n
  induction n with
  | zero => intro d mi pc ps st h q hs; cases hs
  | succ n ih =>
    intro d mi pc ps st h q hs
    obtain ⟨en, hen, h1⟩ := ajRun_some hs
    rcases h1 with ⟨-, x, -, -, rfl⟩ | ⟨-, x, -, -, rfl⟩ | ⟨-, x, -, -, rfl⟩ | ⟨-, -, -, rfl⟩ | ⟨-, h1⟩ | ⟨u, h1, h2⟩
    · exact ⟨Nat.le_refl _, Nat.le_refl _⟩
    · exact ⟨Nat.le_refl _, Nat.le_refl _⟩
    · exact ⟨Nat.le_refl _, Nat.le_refl _⟩
    · exact ⟨Nat.le_refl _, Nat.le_refl _⟩
    · obtain ⟨b, -, -, h1⟩ := ajInv_some h1
      rcases h1 with ⟨-, -, h1⟩ | ⟨-, h2, h3, h1⟩ | ⟨-, ⟨-, d1, r, h2, rfl, h3, h1⟩ | ⟨-, -, h1⟩⟩ | ⟨d1, r, h2, rfl, -, -, h3, -, -, -, -, h1⟩ | ⟨-, v, -, h1⟩
      · exact ih _ _ _ _ _ _ _ h1
      · have a1 := ajCopy_mono h3
        have a2 := ih _ _ _ _ _ _ _ h1
        exact ⟨Nat.le_trans a1.1 a2.1, Nat.le_trans a1.2 a2.2⟩
      · have a1 := ih _ _ _ _ _ _ _ h3
        have a2 := ih _ _ _ _ _ _ _ h1
        have a3 : ajCt h2 ≤ ajCt (ajOut ((st.take b).reverse) h2 r) ∧ ajW h2 ≤ ajW (ajOut ((st.take b).reverse) h2 r) := by unfold ajOut; split <;> exact ⟨Nat.le_refl _, Nat.le_refl _⟩
        exact ⟨Nat.le_trans a1.1 (Nat.le_trans a3.1 a2.1), Nat.le_trans a1.2 (Nat.le_trans a3.2 a2.2)⟩
      · have a2 := ih _ _ _ _ _ _ _ h1
        have a3 : ajCt h ≤ ajCt (ajTh h) ∧ ajW h ≤ ajW (ajTh h) := ⟨by unfold ajCt; show _ ≤ ajN h + (ajX h + ajXc); omega, by show _ ≤ ajW h + ajXs; omega⟩
        exact ⟨Nat.le_trans a3.1 a2.1, Nat.le_trans a3.2 a2.2⟩
      · have a1 := ih _ _ _ _ _ _ _ h3
        have a2 := ih _ _ _ _ _ _ _ h1
        exact ⟨Nat.le_trans a1.1 a2.1, Nat.le_trans a1.2 a2.2⟩
      · exact ih _ _ _ _ _ _ _ h1
    · have a1 := ajStep_mono h1
      have a2 := ih _ _ _ _ _ _ _ h2
      exact ⟨Nat.le_trans a1.1 a2.1, Nat.le_trans a1.2 a2.2⟩
end AJM
