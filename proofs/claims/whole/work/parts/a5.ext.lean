/-! The law's own 'spoke', which catches what 'SpokeRing.spoke' throws. -/
section AXO
variable {mi pc : Nat} {ps st : List Value} {h h' : ajH}
theorem ax_stepN {en : ajE} {q : Nat × List Value × List Value × ajH} (hs : ajStep en pc ps st h = some q) : ajN h ≤ ajN q.2.2.2 := by
  obtain ⟨ins, len, a, b, t, z, ts⟩ := en
  unfold ajStep at hs
  dsimp only at hs
  cases ins with
  | aconst_null => (cases hs) <;> exact Nat.le_refl (ajN h)
  | aload i => (obtain ⟨x, hv, rfl⟩ := ajAld_some hs) <;> exact Nat.le_refl (ajN h)
  | aload_n i => (obtain ⟨x, hv, rfl⟩ := ajAld_some hs) <;> exact Nat.le_refl (ajN h)
  | iload i => (obtain ⟨x, hv, rfl⟩ := ajIld_some hs) <;> exact Nat.le_refl (ajN h)
  | iload_n i => (obtain ⟨x, hv, rfl⟩ := ajIld_some hs) <;> exact Nat.le_refl (ajN h)
  | lload i => (obtain ⟨x, hv, rfl⟩ := ajLld_some hs) <;> exact Nat.le_refl (ajN h)
  | lload_n i => (obtain ⟨x, hv, rfl⟩ := ajLld_some hs) <;> exact Nat.le_refl (ajN h)
  | istore i => (obtain ⟨x, r, rfl, rfl⟩ := ajIst_some hs) <;> exact Nat.le_refl (ajN h)
  | istore_n i => (obtain ⟨x, r, rfl, rfl⟩ := ajIst_some hs) <;> exact Nat.le_refl (ajN h)
  | lstore i => (obtain ⟨x, r, rfl, rfl⟩ := ajLst_some hs) <;> exact Nat.le_refl (ajN h)
  | lstore_n i => (obtain ⟨x, r, rfl, rfl⟩ := ajLst_some hs) <;> exact Nat.le_refl (ajN h)
  | astore i => (obtain ⟨x, r, rfl, rfl⟩ := ajAst_some hs) <;> exact Nat.le_refl (ajN h)
  | astore_n i => (obtain ⟨x, r, rfl, rfl⟩ := ajAst_some hs) <;> exact Nat.le_refl (ajN h)
  | iinc i n => (obtain ⟨x, hv, rfl⟩ := ajInc_some hs) <;> exact Nat.le_refl (ajN h)
  | iconst n => (cases hs) <;> exact Nat.le_refl (ajN h)
  | bipush n => (cases hs) <;> exact Nat.le_refl (ajN h)
  | sipush n => (cases hs) <;> exact Nat.le_refl (ajN h)
  | lconst n => (cases hs) <;> exact Nat.le_refl (ajN h)
  | ldc n => (cases hs) <;> exact Nat.le_refl (ajN h)
  | ldc_w n => (cases hs) <;> exact Nat.le_refl (ajN h)
  | ldc2_w n => (cases hs) <;> exact Nat.le_refl (ajN h)
  | getstatic n => (cases hs) <;> exact Nat.le_refl (ajN h)
  | goto n => (cases hs) <;> exact Nat.le_refl (ajN h)
  | iadd => (obtain ⟨x, y, r, rfl, rfl⟩ := ajII_some hs) <;> exact Nat.le_refl (ajN h)
  | isub => (obtain ⟨x, y, r, rfl, rfl⟩ := ajII_some hs) <;> exact Nat.le_refl (ajN h)
  | imul => (obtain ⟨x, y, r, rfl, rfl⟩ := ajII_some hs) <;> exact Nat.le_refl (ajN h)
  | iand => (obtain ⟨x, y, r, rfl, rfl⟩ := ajII_some hs) <;> exact Nat.le_refl (ajN h)
  | ior => (obtain ⟨x, y, r, rfl, rfl⟩ := ajII_some hs) <;> exact Nat.le_refl (ajN h)
  | ixor => (obtain ⟨x, y, r, rfl, rfl⟩ := ajII_some hs) <;> exact Nat.le_refl (ajN h)
  | ishl => (obtain ⟨x, y, r, rfl, rfl⟩ := ajII_some hs) <;> exact Nat.le_refl (ajN h)
  | ishr => (obtain ⟨x, y, r, rfl, rfl⟩ := ajII_some hs) <;> exact Nat.le_refl (ajN h)
  | iushr => (obtain ⟨x, y, r, rfl, rfl⟩ := ajII_some hs) <;> exact Nat.le_refl (ajN h)
  | idiv => (obtain ⟨x, y, r, rfl, rfl, hy⟩ := ajDD_some hs) <;> exact Nat.le_refl (ajN h)
  | irem => (obtain ⟨x, y, r, rfl, rfl, hy⟩ := ajDD_some hs) <;> exact Nat.le_refl (ajN h)
  | ladd => (obtain ⟨x, y, r, rfl, rfl⟩ := ajLL_some hs) <;> exact Nat.le_refl (ajN h)
  | lsub => (obtain ⟨x, y, r, rfl, rfl⟩ := ajLL_some hs) <;> exact Nat.le_refl (ajN h)
  | lmul => (obtain ⟨x, y, r, rfl, rfl⟩ := ajLL_some hs) <;> exact Nat.le_refl (ajN h)
  | land => (obtain ⟨x, y, r, rfl, rfl⟩ := ajLL_some hs) <;> exact Nat.le_refl (ajN h)
  | lor => (obtain ⟨x, y, r, rfl, rfl⟩ := ajLL_some hs) <;> exact Nat.le_refl (ajN h)
  | ldiv => (obtain ⟨x, y, r, rfl, rfl, hy⟩ := ajLD_some hs) <;> exact Nat.le_refl (ajN h)
  | lrem => (obtain ⟨x, y, r, rfl, rfl, hy⟩ := ajLD_some hs) <;> exact Nat.le_refl (ajN h)
  | lshl => (obtain ⟨x, y, r, rfl, rfl⟩ := ajLS_some hs) <;> exact Nat.le_refl (ajN h)
  | lushr => (obtain ⟨x, y, r, rfl, rfl⟩ := ajLS_some hs) <;> exact Nat.le_refl (ajN h)
  | ineg => (obtain ⟨x, r, rfl, rfl⟩ := ajUU_some hs) <;> exact Nat.le_refl (ajN h)
  | i2l => (obtain ⟨x, r, rfl, rfl⟩ := ajUU_some hs) <;> exact Nat.le_refl (ajN h)
  | i2b => (obtain ⟨x, r, rfl, rfl⟩ := ajUU_some hs) <;> exact Nat.le_refl (ajN h)
  | i2c => (obtain ⟨x, r, rfl, rfl⟩ := ajUU_some hs) <;> exact Nat.le_refl (ajN h)
  | l2i => (obtain ⟨x, r, rfl, rfl⟩ := ajL2I_some hs) <;> exact Nat.le_refl (ajN h)
  | lcmp => (obtain ⟨x, y, r, rfl, rfl⟩ := ajCmpL_some hs) <;> exact Nat.le_refl (ajN h)
  | dup => (obtain ⟨v, r, rfl, hc1, rfl⟩ := ajDup_some hs) <;> exact Nat.le_refl (ajN h)
  | dup2 => (obtain ⟨v, w, r, rfl, hc1, hc2, rfl⟩ := ajDup2_some hs) <;> exact Nat.le_refl (ajN h)
  | pop => (obtain ⟨v, r, rfl, hc1, rfl⟩ := ajPop_some hs) <;> exact Nat.le_refl (ajN h)
  | ifCond cc off => (obtain ⟨x, r, rfl, h1⟩ := ajBr_some hs; rcases h1 with ⟨h1, rfl⟩ | ⟨h1, rfl⟩) <;> exact Nat.le_refl (ajN h)
  | if_icmp cc off => (obtain ⟨x, y, r, rfl, h1⟩ := ajBr2_some hs; rcases h1 with ⟨h1, rfl⟩ | ⟨h1, rfl⟩) <;> exact Nat.le_refl (ajN h)
  | ifnull off => (obtain ⟨x, r, rfl, h1⟩ := ajNul_some hs; rcases h1 with ⟨h1, rfl⟩ | ⟨h1, rfl⟩) <;> exact Nat.le_refl (ajN h)
  | tableswitch df lo hi offs => (obtain ⟨x, r, rfl, rfl⟩ := ajTsw_some hs) <;> exact Nat.le_refl (ajN h)
  | getfield idx => (obtain ⟨x, r, rfl, rfl, ho⟩ := ajGet_some hs) <;> exact Nat.le_refl (ajN h)
  | putfield idx => (obtain ⟨v, o, r, rfl, ho, h1⟩ := ajSet_some hs; rcases h1 with ⟨_, x, rfl, rfl⟩ | ⟨_, x, hx01, rfl, rfl⟩ | ⟨_, x, rfl, rfl⟩ | ⟨_, x, rfl, rfl⟩) <;> exact Nat.le_refl (ajN h)
  | iaload => (obtain ⟨i, x, r, rfl, rfl, ho, hi⟩ := ajAL_some hs) <;> exact Nat.le_refl (ajN h)
  | baload => (obtain ⟨i, x, r, rfl, rfl, ho, hi⟩ := ajAL_some hs) <;> exact Nat.le_refl (ajN h)
  | laload => (obtain ⟨i, x, r, rfl, rfl, ho, hi⟩ := ajAL_some hs) <;> exact Nat.le_refl (ajN h)
  | aaload => (obtain ⟨i, x, r, rfl, rfl, ho, hi⟩ := ajALq_some hs) <;> exact Nat.le_refl (ajN h)
  | iastore => (obtain ⟨y, i, x, r, rfl, rfl, ho, hi⟩ := ajAS_some hs) <;> exact Nat.le_refl (ajN h)
  | bastore => (obtain ⟨y, i, x, r, rfl, rfl, ho, hi⟩ := ajAS_some hs) <;> exact Nat.le_refl (ajN h)
  | lastore => (obtain ⟨y, i, x, r, rfl, rfl, ho, hi⟩ := ajASl_some hs) <;> exact Nat.le_refl (ajN h)
  | aastore => (obtain ⟨v, i, x, r, rfl, rfl, ho, hi, hv⟩ := ajASq_some hs) <;> exact Nat.le_refl (ajN h)
  | arraylength => (obtain ⟨x, r, rfl, rfl, ho⟩ := ajALen_some hs) <;> exact Nat.le_refl (ajN h)
  | new idx =>
    obtain ⟨rfl, -, -, -⟩ := ajNew_some hs
    exact Nat.le_succ (ajN h)
  | newarray ty =>
    obtain ⟨x, r, rfl, rfl, -⟩ := ajNewA_some hs
    exact Nat.le_succ (ajN h)
  | anewarray idx =>
    obtain ⟨x, r, rfl, rfl, -⟩ := ajNewA_some hs
    exact Nat.le_succ (ajN h)
  | _ => cases hs
theorem ax_runN : ∀ (n d mi pc : Nat) (ps st : List Value) (h : ajH) (q : Option Value × ajH), ajRun n d mi pc ps st h = some q → ajN h ≤ ajN q.2 := by
  intro n
  induction n with
  | zero => intro d mi pc ps st h q hs; cases hs
  | succ n ih =>
    intro d mi pc ps st h q hs
    obtain ⟨en, hen, h1⟩ := ajRun_some hs
    rcases h1 with ⟨-, x, -, -, rfl⟩ | ⟨-, x, -, -, rfl⟩ | ⟨-, x, -, -, rfl⟩ | ⟨-, -, -, rfl⟩ | ⟨-, h1⟩ | ⟨u, h1, h2⟩
    · exact Nat.le_refl (ajN h)
    · exact Nat.le_refl (ajN h)
    · exact Nat.le_refl (ajN h)
    · exact Nat.le_refl (ajN h)
    · obtain ⟨b, -, -, h1⟩ := ajInv_some h1
      rcases h1 with ⟨-, -, h1⟩ | ⟨-, h2, h3, h1⟩ | ⟨-, ⟨-, d1, r, h2, rfl, h3, h1⟩ | ⟨-, -, h1⟩⟩ | ⟨d1, r, h2, rfl, -, -, h3, -, -, -, -, h1⟩ | ⟨-, v, -, h1⟩
      · exact ih _ _ _ _ _ _ _ h1
      · have a1 : ajN h ≤ ajN h2 := by obtain ⟨s0, d0, sp, dp, nn, -, -, -, -, -, -, -, -, rfl⟩ := ajCopy_some h3; exact Nat.le_refl _
        have a2 := ih _ _ _ _ _ _ _ h1
        exact Nat.le_trans a1 a2
      · have a1 := ih _ _ _ _ _ _ _ h3
        have a2 := ih _ _ _ _ _ _ _ h1
        have a3 : ajN h2 ≤ ajN (ajOut ((st.take b).reverse) h2 r) := by unfold ajOut; split <;> exact Nat.le_refl (ajN h2)
        exact Nat.le_trans a1 (Nat.le_trans a3 a2)
      · have a2 := ih _ _ _ _ _ _ _ h1
        have a3 : ajN h ≤ ajN (ajTh h) := Nat.le_refl (ajN h)
        exact Nat.le_trans a3 a2
      · have a1 := ih _ _ _ _ _ _ _ h3
        have a2 := ih _ _ _ _ _ _ _ h1
        exact Nat.le_trans a1 a2
      · exact ih _ _ _ _ _ _ _ h1
    · have a1 := ax_stepN h1
      have a2 := ih _ _ _ _ _ _ _ h2
      exact Nat.le_trans a1 a2
end AXO
def axN : MethodName := ⟨"SpokeRingLaw", "spoke", "(LSpokeRing;II[J)I"⟩
def axHH : List (Nat × Nat × Nat × Nat) := [(0, 10, 13, 13)]
def axWd : List Cond := Cond.codeWith axN method_3_code 5 (some .int) axHH :: ajGw
theorem ax_hc : Cond.codeWith axN method_3_code 5 (some .int) axHH ∈ ajGw := ajGwK 1115 (by decide +kernel) rfl
theorem axWd_good : GoodIn ajGw axWd := by
  intro w hw
  rcases List.mem_cons.mp hw with rfl | hw
  · exact ⟨ax_hc, ajGw_good ax_hc⟩
  · exact ⟨hw, ajGw_good hw⟩
theorem ax_h1 : Cond.methodLink "SpokeRingLaw" 7 (ajYn 137) ∈ ajGw := ajGwK 1117 (by decide +kernel) (by decide +kernel)
theorem ax_h2 : Cond.instanceMethod (ajYn 137) ∈ ajGw := ajGwK 1118 (by decide +kernel) (by decide +kernel)
theorem ax_h3 : Cond.selects (ajYn 137).cls (ajYn 137) (ajYn 137) ∈ ajGw := ajGwK 1119 (by decide +kernel) (by decide +kernel)
theorem ax_h4 : Cond.code (ajYn 137) (ajBy 137) (ajMx 137) (ajFt 137) ∈ ajGw := ajGwK 1120 (by decide +kernel) (by decide +kernel)
theorem ax_h5 : Cond.initialized (ajYn 137).cls ∈ ajGw := ajGwK 89 (by decide +kernel) (by decide +kernel)
theorem ax_h6 : Cond.classLink "SpokeRingLaw" 13 "java/util/NoSuchElementException" ∈ ajGw := ajGwK 1116 (by decide +kernel) (by decide +kernel)
theorem ax_h7 : Cond.instantiable "java/util/NoSuchElementException" 6 ∈ ajGw := ajGwK 1122 (by decide +kernel) (by decide +kernel)
theorem ax_h8 : Cond.methodLink "SpokeRingLaw" ajSpX axN ∈ ajGw := ajGwK 1113 (by decide +kernel) (by decide +kernel)
theorem ax_h9 : Cond.static axN ∈ ajGw := ajGwK 1114 (by decide +kernel) (by decide +kernel)
theorem ax_h10 : Cond.initialized axN.cls ∈ ajGw := ajGwK 88 (by decide +kernel) (by decide +kernel)
theorem axS_good : GoodIn ajGw (va_wsS "SpokeRingLaw" ajSpX axN axWd) := by
  intro w hw
  rcases List.mem_append.mp hw with hw | hw
  · simp only [List.mem_cons, List.not_mem_nil, or_false] at hw
    rcases hw with rfl | rfl | rfl
    · exact ⟨ax_h8, ajGw_good ax_h8⟩
    · exact ⟨ax_h9, ajGw_good ax_h9⟩
    · exact ⟨ax_h10, ajGw_good ax_h10⟩
  · exact axWd_good w hw
theorem ax_nm : (ajYn 137).cls ≠ "java/lang/invoke/MethodHandle" ∧ (ajYn 137).cls ≠ "java/lang/invoke/VarHandle" ∧ (parseMethodDescriptor (ajYn 137).desc).map (fun d => d.parameters.length) = some 2 := by decide +kernel
theorem ax_mx : ajMx 137 = 3 := by decide +kernel
theorem ax_d5 : decode method_3_code 5 = .ok (.invokevirtual 7, 3) := by decide +kernel
theorem ax_ok : ajMOK 137 := ⟨ax_h4, by decide +kernel⟩
theorem ajSpk_some {h : ajH} {as : List Value} {b : Bool} (hs : ajSpk h as = some b) : ∃ (x : Nat) (k w : Int32) (o : Nat), as = [.ref x, .int k, .int w, .ref o] ∧ ajOK h x 0 ∧ ajOK h (ajR h x 1) 2 ∧ ajOW h o 102 ∧ 0 < ajLen h o ∧ b = decide (¬ k < 0 ∧ k < ajI h (ajR h x 1) 0 ∧ ¬ w < 0 ∧ w ≤ 4) := by
  unfold ajSpk at hs
  split at hs
  · split at hs
    · rename_i hc
      exact ⟨_, _, _, _, rfl, hc.1, hc.2.1, hc.2.2.1, hc.2.2.2, (Option.some.inj hs).symm⟩
    · cases hs
  · cases hs
section AXH
variable {p : Program} {l : Launch} {e : Env} {R : Room} {s : State} {m : MethodId} {args : Array Value} {below : List Frame} {meth : Method} {c : Code} {H : Heap} {locs : List Loc} {cells slots : Nat} {Q : State → Prop}
variable {ls : Array Slot} {base : Nat} {D : va_G} {dA : Nat → ClassId} {cst : Nat → Value} {xs : Nat → Int32} {L : Nat} {x o : Nat} {k w : Int32} {h : ajH}
theorem ax_run {mc ms : Nat} {g : JFrame} {rest : List Value} {Qa : State → Outcome → State → Prop} {free : Addr → Prop} (hr : vx_Run p l e R s m args below meth c H locs cells slots mc ms g rest Qa (fun _ _ _ => False) free) : va_Run p l e R s m args below meth c H locs cells slots mc ms g rest Qa free := by
  intro T hT X
  rcases hr T hT X with h | ⟨q, st₀, t, T', L, E, ce, -, -, -, -, -, hF, -⟩
  · exact h
  · exact hF.elim
theorem ax_head {bx bo : Nat} (hx : p.tables.exec = Jvm.exec) (hb : c.code = method_3_code) (l0 : ls[0]? = some (.val (.ref bx))) (l1 : ls[1]? = some (.val (.int k))) (l2 : ls[2]? = some (.val (.int w))) (l3 : ls[3]? = some (.val (.ref bo)))
    (kk : W p l e R s m args below meth c H locs cells slots Q (F0 m 5 ls [.int w, .int k, .ref bx, .int 0, .ref bo])) : W p l e R s m args below meth c H locs cells slots Q (F0 m 0 ls []) :=
  lv_aload_n (k := 3) (i := 3) hx hb (by decide +kernel) rfl l3 (lv_iconst (n := 0) (v := 0) hx hb (by decide +kernel) rfl (lv_aload_n (k := 0) (i := 0) hx hb (by decide +kernel) rfl l0 (lv_iload_n (k := 1) (i := 1) hx hb (by decide +kernel) rfl l1 (lv_iload_n (k := 2) (i := 2) hx hb (by decide +kernel) rfl l2 kk))))
theorem ax_cell (hE : ajEnv base D dA cst xs L s s.heap) (hP : va_P D ajCl (ajWs base cst dA h) s.heap) (hx0 : ajOK h x 0) : x ≠ 0 ∧ x < 1000 ∧ ∃ cellB : Cell, s.heap[base + x]? = some cellB ∧ cellB.vm.isStatics = false ∧ s.vm.findClass (ajYn 137).cls = some cellB.cls := by
  have x50 : (ajSh x).1 < 50 := by rw [hx0.2]; omega
  have x9 := ajSh_lt x50
  have x00 : x ≠ 0 := ajSh_w (by omega)
  have xN : x < ajN h := hx0.1.resolve_right (by omega)
  refine ⟨x00, x9, ?_⟩
  have he := ajWs_at (base := base) (cst := cst) (dA := dA) x00 xN
  rw [ajCell_obj x50, hx0.2] at he
  obtain ⟨q, hq, hq1⟩ : ∃ q : vw_C, ajCl[0]? = some q ∧ q.1 = (ajYn 137).cls := ⟨_, rfl, by decide +kernel⟩
  have z := va_recv hE.1 hP hq he
  rw [hq1] at z
  exact z
theorem ax_at0 (hE : ajEnv base D dA cst xs L s s.heap) (hP : va_P D ajCl (ajWs base cst dA h) s.heap) (hbl : base < s.heap.size) (hcap : s.heap.size ≤ base + ajCt h) (x00 : x ≠ 0) (x9 : x < 1000) : ∀ U : State, U.heap = s.heap → s.WarmedH U.vm → ajPc base D dA cst xs L [.ref x, .int k, .int w] h (Value.ref (base + x) :: [.int k, .int w]).toArray U := by
  intro U hU hW
  refine ⟨?_, ?_, by rw [hU]; exact hP, by rw [hU]; exact hbl, by rw [hU]; exact hcap⟩
  · rw [List.map_cons, ajCz_own x00 x9]
    rfl
  · rw [hU]
    exact ajEnv_warm hW hE
/-- it goes -/
theorem ax_go0 {d : Nat} {r : Int32} {h2 : ajH} (hx : p.tables.exec = Jvm.exec) (hb : c.code = method_3_code) (hml : c.maxLocals = 5) (hown : s.vm.findClass "SpokeRingLaw" = some m.cls) (hts : ∀ w' ∈ ajGw, w'.before args s = true) (hE : ajEnv base D dA cst xs L s s.heap) (Y : ajDyn base D dA cst xs L s h s.heap [] 0) (hbl : base < s.heap.size)
    (hl : ajLv base cst ls 5 [.ref x, .int k, .int w, .ref o, ajU]) (hM : ajMet l base D dA cst xs L d 137 [.ref x, .int k, .int w] h (some (.int r)) h2) (hx0 : ajOK h x 0) (ho : ajOW h o 102) (hol : 0 < ajLen h o) (hN : ajN h ≤ ajN h2) (hct : ajCt h ≤ ajCt h2) (hR : d + 1 + 4 ≤ R.frames) (hR2 : 100 * (d + 1 + 2) ≤ R.locals) (hc : ajCt h2 - ajCt h ≤ R.cells) (hs : ajW h2 - ajW h ≤ R.slots)
    (kk : ∀ (H1 : Heap) (locs1 : List Loc), ajDyn base D dA cst xs L s (ajSL h2 o 0 r.toInt64) H1 locs1 (ajCt h2 - ajCt h) → W p l e R s m args below meth c H1 locs1 (ajCt h2 - ajCt h) (ajW h2 - ajW h) Q (F0 m 18 ls [.int 0])) : W p l e R s m args below meth c s.heap [] 0 0 Q (F0 m 0 ls []) := by
  obtain ⟨hP, hz, hk, hS, hcap⟩ := Y
  have hcap : s.heap.size ≤ base + ajCt h := by omega
  obtain ⟨x00, x9, hcell⟩ := ax_cell hE hP hx0
  have o00 : o ≠ 0 := ajSh_w (by have := ho.2; omega)
  have o9 : o < 1000 := by have := hz.1; have := ho.1; omega
  have l0 := ajLv_at hl (i := 0) (v := .ref x) rfl trivial
  rw [ajCz_own x00 x9] at l0
  have l1 := ajLv_at hl (i := 1) (v := .int k) rfl trivial
  have l2 := ajLv_at hl (i := 2) (v := .int w) rfl trivial
  have l3 := ajLv_at hl (i := 3) (v := .ref o) rfl trivial
  rw [ajCz_own o00 o9] at l3
  refine ax_head hx hb l0 l1 l2 l3 ?_
  have e0 : ∀ n : Nat, 0 + n = n := Nat.zero_add
  have hr : va_Run p l e R s m args below meth c s.heap [] 0 0 (ajCt h2 - ajCt h) (ajW h2 - ajW h) (F0 m 5 ls [.int w, .int k, .ref (base + x), .int 0, .ref (base + o)]) [.int 0, .ref (base + o)] (ajQc base D dA cst xs L (some (.int r)) h2 (Value.ref (base + x) :: [.int k, .int w]).toArray) (ajA base) :=
    va_runV (Ts := ajGw) (nL := 5) (own := "SpokeRingLaw") (C := (ajYn 137).cls) (b := base + x) (As := [.int k, .int w]) ⟨hx, hb, hml, hown, hts⟩ hM ⟨callB_of 2 hts (ajWd_good ax_h4) rfl rfl rfl (hts _ ax_h5) (hts _ ax_h1) ax_nm ⟨by show d + 4 + 1 ≤ R.frames; omega, by rw [ax_mx]; show 8 + (3 + 11) + 100 * (d + 2) ≤ R.locals; omega⟩, hts _ ax_h2, hts _ ax_h3⟩ ⟨ajPc_blind, hcell, ax_at0 hE hP hbl hcap x00 x9⟩ rfl rfl hl.1 rfl (by show 2 * 0 + (1 + (1 + 0)) ≤ 8; omega) ax_d5 ⟨by omega, by omega⟩
  refine ajW_call hr hS (fun q z => z) (fun t H1 locs1 ht hB hS1 => ?_)
  rw [e0, e0]
  obtain ⟨b1, b2, b3⟩ := hB
  have Y1 : ajDyn base D dA cst xs L s h2 H1 locs1 (ajCt h2 - ajCt h) := ⟨by rw [← ht]; exact b1, b2, b3, hS1, by omega⟩
  show W p l e R s m args below meth c H1 locs1 (ajCt h2 - ajCt h) (ajW h2 - ajW h) Q (F0 m 8 ls [.int r, .int 0, .ref (base + o)])
  refine lv_i2l hx hb (by decide +kernel) rfl ?_
  have hoN : o < ajN h2 := Nat.lt_of_lt_of_le ho.1 hN
  have he := ajWs_at (base := base) (cst := cst) (dA := dA) o00 hoN
  rw [ajCell_long ho.2] at he
  have hi : ajIn 0 (ajSh o).2 := by
    rw [ajLen_own o9] at hol
    intro z
    rcases z with z | z
    · exact absurd z (by decide)
    · have e9 : (0 : Int32).toNatClampNeg = 0 := rfl
      omega
  refine va_last (i := 0) hx hb hE.1 Y1.1 ajWs_D hS1 (o - 1) 2 he rfl hi (by decide +kernel) fun H2 locs2 g1 _ g2 => ?_
  have Y2 : ajDyn base D dA cst xs L s (ajSL h2 o (0 : Int32).toNatClampNeg r.toInt64) H2 locs2 (ajCt h2 - ajCt h) := ajDyn_set Y1 o00 hoN rfl (by rw [ajCell_long ho.2, ajL_upd]) (ajSL_oth h2 o _ r.toInt64) g1 g2
  refine lv_goto (off := 7) (tgt := 17) hx hb (by decide +kernel) (by decide) ?_
  exact lv_iconst (n := 0) (v := 0) hx hb (by decide +kernel) rfl (kk H2 locs2 Y2)
/-- it throws, and is caught -/
theorem ax_go1 (hx : p.tables.exec = Jvm.exec) (hb : c.code = method_3_code) (hml : c.maxLocals = 5) (htab : c.exceptionTable.toList = tableOf axHH) (hown : s.vm.findClass "SpokeRingLaw" = some m.cls) (hts : ∀ w' ∈ ajGw, w'.before args s = true) (hE : ajEnv base D dA cst xs L s s.heap) (Y : ajDyn base D dA cst xs L s h s.heap [] 0) (hbl : base < s.heap.size)
    (hl : ajLv base cst ls 5 [.ref x, .int k, .int w, .ref o, ajU]) (hV : vx_Met l (ajYn 137) (ajWd 137) (ajRm 3 1 6) (ajPc base D dA cst xs L [.ref x, .int k, .int w] h) (fun _ _ _ _ => False) (axX base D dA cst h) 1 6 (ajA base)) (hx0 : ajOK h x 0) (ho : ajOW h o 102) (hR : 8 ≤ R.frames) (hR2 : 600 ≤ R.locals) (hc : 1 ≤ R.cells) (hs : 6 ≤ R.slots)
    (kk : ∀ (H1 : Heap) (locs1 : List Loc) (ls1 : Array Slot), ajDyn base D dA cst xs L s (ajTh h) H1 locs1 1 → W p l e R s m args below meth c H1 locs1 1 6 Q (F0 m 16 ls1 [.int 1])) : W p l e R s m args below meth c s.heap [] 0 0 Q (F0 m 0 ls []) := by
  obtain ⟨hP, hz, hk, hS, hcap⟩ := Y
  have hcap : s.heap.size ≤ base + ajCt h := by omega
  obtain ⟨x00, x9, hcell⟩ := ax_cell hE hP hx0
  have o00 : o ≠ 0 := ajSh_w (by have := ho.2; omega)
  have o9 : o < 1000 := by have := hz.1; have := ho.1; omega
  have l0 := ajLv_at hl (i := 0) (v := .ref x) rfl trivial
  rw [ajCz_own x00 x9] at l0
  have l1 := ajLv_at hl (i := 1) (v := .int k) rfl trivial
  have l2 := ajLv_at hl (i := 2) (v := .int w) rfl trivial
  have l3 := ajLv_at hl (i := 3) (v := .ref o) rfl trivial
  rw [ajCz_own o00 o9] at l3
  refine ax_head hx hb l0 l1 l2 l3 ?_
  have hr : vx_Run p l e R s m args below meth c s.heap [] 0 0 1 6 (F0 m 5 ls [.int w, .int k, .ref (base + x), .int 0, .ref (base + o)]) [.int 0, .ref (base + o)] (fun _ _ _ => False) (axX base D dA cst h) (ajA base) :=
    vx_runV (Ts := ajGw) (nL := 5) (own := "SpokeRingLaw") (C := (ajYn 137).cls) (b := base + x) (As := [.int k, .int w]) ⟨hx, hb, hml, hown, hts⟩ hV ⟨callB_of 2 hts (ajWd_good ax_h4) rfl rfl rfl (hts _ ax_h5) (hts _ ax_h1) ax_nm ⟨by show 3 + 4 + 1 ≤ R.frames; omega, by rw [ax_mx]; show 8 + (3 + 11) + 100 * (3 + 2) ≤ R.locals; omega⟩, hts _ ax_h2, hts _ ax_h3⟩ ⟨ajPc_blind, hcell, ax_at0 hE hP hbl hcap x00 x9⟩ rfl rfl hl.1 rfl (by show 2 * 0 + (1 + (1 + 0)) ≤ 8; omega) ax_d5 ⟨by omega, by omega⟩
  intro T hT X
  rcases hr T hT X with ⟨v, st₀, t, T', LL, -, -, -, -, -, hF, -⟩ | ⟨q, st₀, t, T', LL, E, ce, h0, X', hL, e1, e2, ⟨rfl, g1, g2⟩, hce, hcv, hcl, st⟩
  · exact hF.elim
  obtain ⟨xe, t1, t2, t3, t4⟩ : ∃ xe : ExceptionTableEntry, tableOf axHH = [xe] ∧ xe.handlerPc = 13 ∧ xe.catchType = 13 ∧ covers xe 5 = true := ⟨_, rfl, rfl, rfl, by decide +kernel⟩
  have Y1 : ajDyn base D dA cst xs L s (ajTh h) T'.heap ([] ++ LL) 1 := by
    refine ⟨by rw [e1]; exact g1, hz, hk, ⟨?_, ?_, ?_⟩, ?_⟩
    · rw [e1, ← h0]
      exact g2.1
    · intro a h1 h2
      rw [e1, ← h0]
      exact g2.2 a (by rw [h0]; exact h1) h2
    · intro z hz
      rcases List.mem_append.mp hz with hz | hz
      · cases hz
      · exact hL z hz
    · show s.heap.size + 1 ≤ base + (ajN h + (ajX h + 1))
      unfold ajCt at hcap
      omega
  have kx : vx_W p l e R s m args below meth c T'.heap ([] ++ LL) (0 + 1) (0 + 6) Q (F0 m 5 ls [.int 0, .ref (base + o)]) q := by
    refine vx_catch (own := "SpokeRingLaw") (name := "java/util/NoSuchElementException") (E := "java/util/NoSuchElementException") hown [] xe [] (htab.trans t1) (fun z hz => nomatch hz) t4 (by rw [t3]; decide) (by rw [t3]; exact hts _ ax_h6) (ax_castable (hts _ ax_h7)) (by rw [e1]; exact hce) hcv hcl ?_
    rw [t2]
    refine lv_astore (i := 4) (nL := 5) hx hb (by decide +kernel) (ajLv_has hl) (by omega) rfl (fun ls1 _ => ?_)
    exact lv_iconst (n := 1) (v := 1) hx hb (by decide +kernel) rfl (kk _ _ ls1 Y1)
  obtain ⟨t2, a1, b1⟩ := kx T' rfl X'
  exact ⟨t2, st.trans a1, b1⟩
theorem ax_real4 : ∀ v ∈ ([.ref x, .int k, .int w, .ref o] : List Value), ajReal v := fun v hv => by
  simp only [List.mem_cons, List.not_mem_nil, or_false] at hv
  rcases hv with rfl | rfl | rfl | rfl <;> trivial
theorem axM0 {d : Nat} {r : Int32} {h2 : ajH} (hcst : ajCst cst) (hM : ajMet l base D dA cst xs L d 137 [.ref x, .int k, .int w] h (some (.int r)) h2) (hx0 : ajOK h x 0) (ho : ajOW h o 102) (hol : 0 < ajLen h o) (hz : ajZz h) (hk : ajHk xs L h) (hN : ajN h ≤ ajN h2) (hct : ajCt h ≤ ajCt h2) :
    vx_Met l axN axWd (ajRm (d + 1) (ajCt h2 - ajCt h) (ajW h2 - ajW h)) (ajPc base D dA cst xs L [.ref x, .int k, .int w, .ref o] h) (ajQc base D dA cst xs L (some (.int 0)) (ajSL h2 o 0 r.toInt64)) (fun _ _ _ => False) (ajCt h2 - ajCt h) (ajW h2 - ajW h) (ajA base) := by
  refine vx_ofWH (cc := method_3_code) (maxL := 5) (ret := some .int) (hh := axHH) (by decide +kernel) rfl ?_
  intro p e s m args below meth c s₁ B hml hv
  obtain ⟨rfl, hE, hP, hbl, hcap⟩ := hv
  have hts0 := atoms_spec (ws := axWd) B.pre
  rw [lg_entry_eq]
  have hl := ajLv_entry (base := base) (n := 5) hcst (ax_real4 (x := x) (k := k) (w := w) (o := o)) (by show 4 ≤ 5; decide)
  refine ax_go0 B.exec B.bytes hml (findClass_of_methodNamed B.named) (fun w' hw => hts0 w' (List.mem_cons_of_mem _ hw)) hE ⟨hP, hz, hk, va_S.rf, by omega⟩ hbl hl hM hx0 ho hol hN hct (Nat.le_refl _) (Nat.le_refl _) (Nat.le_refl _) (Nat.le_refl _) ?_
  intro H1 locs1 Y1
  obtain ⟨g1, g2, g3, g4, g5⟩ := Y1
  exact vx_ret (W.iret B.exec B.bytes B.returns (fun t ht _ => ⟨⟨rfl, by rw [ht]; exact g1, g2, g3⟩, g4.F ht⟩) g4.2.2 (by decide +kernel) B.notSynchronized)
theorem axM1 (hfl : l.stackTraces = false) (hcst : ajCst cst) (hx0 : ajOK h x 0) (hx1 : ajOK h (ajR h x 1) 2) (ho : ajOW h o 102) (hz : ajZz h) (hk : ajHk xs L h) (hno : ¬ (¬ k < 0 ∧ k < ajI h (ajR h x 1) 0 ∧ ¬ w < 0 ∧ w ≤ 4)) :
    vx_Met l axN axWd (ajRm 4 1 6) (ajPc base D dA cst xs L [.ref x, .int k, .int w, .ref o] h) (ajQc base D dA cst xs L (some (.int 1)) (ajTh h)) (fun _ _ _ => False) 1 6 (ajA base) := by
  refine vx_ofWH (cc := method_3_code) (maxL := 5) (ret := some .int) (hh := axHH) (by decide +kernel) rfl ?_
  intro p e s m args below meth c s₁ B hml hv
  obtain ⟨rfl, hE, hP, hbl, hcap⟩ := hv
  have hts0 := atoms_spec (ws := axWd) B.pre
  rw [lg_entry_eq]
  have hl := ajLv_entry (base := base) (n := 5) hcst (ax_real4 (x := x) (k := k) (w := w) (o := o)) (by show 4 ≤ 5; decide)
  refine ax_go1 B.exec B.bytes hml (vx_table (x := axN) B (hts0 _ List.mem_cons_self)) (findClass_of_methodNamed B.named) (fun w' hw => hts0 w' (List.mem_cons_of_mem _ hw)) hE ⟨hP, hz, hk, va_S.rf, by omega⟩ hbl hl (V137 hfl hcst hx0 hx1 hz hk hno) hx0 ho (Nat.le_refl _) (Nat.le_refl _) (Nat.le_refl _) (Nat.le_refl _) ?_
  intro H1 locs1 ls1 Y1
  obtain ⟨g1, g2, g3, g4, g5⟩ := Y1
  exact vx_ret (W.iret B.exec B.bytes B.returns (fun t ht _ => ⟨⟨rfl, by rw [ht]; exact g1, g2, g3⟩, g4.F ht⟩) g4.2.2 (by decide +kernel) B.notSynchronized)
theorem axExt (hfl : l.stackTraces = false) : ajExt l base D dA cst xs L := by
  intro n ih p e R s m args below meth c Q d pc idx st h H locs ls cells slots w h1 hd1 hd2 C0 Y hsz hdg hstk hidx hor hrc hrs kk
  refine ajW_cap fun hcp => ?_
  have C1 := C0
  obtain ⟨hx, hb, hml, hown, hts, hnm, hE, hcst, hbl, -, -⟩ := C1
  have Y1 := Y
  obtain ⟨hP, hZ, hk9, hS, hcap⟩ := Y1
  unfold ajStk at hstk
  rw [Bool.and_eq_true, Nat.ble_eq, Nat.ble_eq] at hstk
  obtain ⟨hlen, hcat⟩ := hstk
  have hcat2 : 2 * (F0 m pc ls (st.map (ajCz base cst))).monitorRoom + (((st.drop 4).map (ajCz base cst)).map fun v => v.category).sum ≤ 8 := lv_room (by rw [ajCat_map hcst]; exact hcat)
  have hst := ajMap_stack 4 st (ajCz base cst)
  have hown2 : ajOwn ajLaw = "SpokeRingLaw" := by decide +kernel
  rw [hown2] at hown
  subst hidx
  have hln : (((st.take 4).reverse).map (ajCz base cst)).length = 4 := by
    rw [List.length_map, List.length_reverse, List.length_take]
    omega
  have go : ∀ (dd mc ms : Nat) (v : Int32) (h' : ajH), vx_Met l axN axWd (ajRm dd mc ms) (ajPc base D dA cst xs L ((st.take 4).reverse) h) (ajQc base D dA cst xs L (some (.int v)) h') (fun _ _ _ => False) mc ms (ajA base) → dd + 4 + 1 ≤ R.frames → 100 * (dd + 1 + 2) ≤ R.locals → cells + mc ≤ R.cells → slots + ms ≤ R.slots → mc + ajCt h = ajCt h' →
      (∀ (H1 : Heap) (locs1 : List Loc), ajDyn base D dA cst xs L s h' H1 locs1 (cells + mc) → W p l e R s m args below meth c H1 locs1 (cells + mc) (slots + ms) Q (F0 m (pc + 3) ls ((.int v :: st.drop 4).map (ajCz base cst)))) → W p l e R s m args below meth c H locs cells slots Q (F0 m pc ls (st.map (ajCz base cst))) := by
    intro dd mc ms v h' hM r1 r2 r3 r4 r5 k1
    have cw := vx_cwSW (R := R) (s := s) (args := args) (own := "SpokeRingLaw") (index := ajSpX) (y := axN) (bytes := method_3_code) (maxL := 5) (ret := some .int) (hh := axHH) (Ts := ajGw) (ws := axWd) (ws' := ajGw) (rm := ajRm dd mc ms) (mc := mc) (ms := ms) 4 hts axS_good rfl rfl rfl ⟨by decide, by decide, by decide +kernel⟩ ⟨r1, by show 8 + (5 + 11) + 100 * (dd + 2) ≤ R.locals; omega⟩
    have hr : va_Run p l e R s m args below meth c H locs cells slots mc ms (F0 m pc ls (st.map (ajCz base cst))) ((st.drop 4).map (ajCz base cst)) (ajQc base D dA cst xs L (some (.int v)) h' (((st.take 4).reverse).map (ajCz base cst)).toArray) (ajA base) :=
      ax_run (vx_runSX (Ts := ajGw) (nL := ajMx ajLaw) ⟨hx, hb, hml, hown, hts⟩ hM cw ⟨ajPc_blind, fun U hU hW => ajPc_at C0 Y hcp U hU hW⟩ rfl hln hsz hst hcat2 hdg ⟨r3, r4⟩)
    refine ajW_call hr hS (fun q z => z) (fun t H1 locs1 ht hB hS1 => ?_)
    obtain ⟨b1, b2, b3⟩ := hB
    exact k1 H1 locs1 ⟨by rw [← ht]; exact b1, b2, b3, hS1, by omega⟩
  rcases hor with ⟨rfl, hsp, d1, r, h2, rfl, hrun, rfl⟩ | ⟨rfl, hsp, hd8, rfl⟩
  · obtain ⟨x, k, w, o, has, hx0, hx1, ho, hol, -⟩ := ajSpk_some hsp
    have hmono := ajRun_mono _ _ _ _ _ _ _ _ hrun
    have hN := ax_runN _ _ _ _ _ _ _ _ hrun
    dsimp only at hmono hN
    rw [has] at hrun kk
    have hM := ajMet_of (as := [.ref x, .int k, .int w]) hcst ih ax_ok hrun rfl hZ hk9
    rw [has] at hrc hrs
    have hrc : cells + ajCt h2 ≤ R.cells + ajCt h := hrc
    have hrs : slots + ajW h2 ≤ R.slots + ajW h := hrs
    refine go (d1 + 1) (ajCt h2 - ajCt h) (ajW h2 - ajW h) 0 (ajSL h2 o 0 r.toInt64) (by rw [has]; exact axM0 hcst hM hx0 ho hol hZ hk9 hN hmono.1) (by omega) (by omega) (by omega) (by omega) (by show ajCt h2 - ajCt h + ajCt h = ajCt h2; have := hmono.1; omega) ?_
    intro H1 locs1 Y1
    exact kk H1 locs1 _ _ Y1 (by show cells + (ajCt h2 - ajCt h) + ajCt h = cells + ajCt h2; have := hmono.1; omega) (by show slots + (ajW h2 - ajW h) + ajW h = slots + ajW h2; have := hmono.2; omega)
  · obtain ⟨x, k, w, o, has, hx0, hx1, ho, hol, hno⟩ := ajSpk_some hsp
    have hno := of_decide_eq_false hno.symm
    have hrc : cells + (ajN h + (ajX h + 1)) ≤ R.cells + (ajN h + ajX h) := hrc
    have hrs : slots + (ajW h + 6) ≤ R.slots + ajW h := hrs
    refine go 4 1 6 1 (ajTh h) (by rw [has]; exact axM1 hfl hcst hx0 hx1 ho hZ hk9 hno) (by omega) (by omega) (by omega) (by omega) (by show 1 + (ajN h + ajX h) = ajN h + (ajX h + 1); omega) ?_
    intro H1 locs1 Y1
    exact kk H1 locs1 _ _ Y1 (by show cells + 1 + (ajN h + ajX h) = cells + (ajN h + (ajX h + 1)); omega) (by show slots + 6 + ajW h = slots + (ajW h + 6); omega)
end AXH
