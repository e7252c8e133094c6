/-! 'spoke' throws. -/
def NSE : String := "java/util/NoSuchElementException"
def ax_ps : List Nat := [107, 1143, 1152, 1154, 1157, 1159, 1144, 1145, 118, 119, 1146, 1151, 1155, 1175, 1133, 1176, 1135, 1177, 1137, 1147, 1149, 1139, 1171, 1172, 1174, 1139, 1162, 1163, 1164, 1165, 1125, 1165, 1166, 1167, 1168, 1127, 1168, 1169, 1170, 1171, 1129, 1161, 1122, 1123, 1130, 1131, 1132, 1134, 1136, 1138, 1142, 1141, 1140]
def ax_L : List Cond := (ax_at "SpokeRing" 244 "java/util/NoSuchElementException" 13 prog_28_method_4_code "java/lang/RuntimeException" ["java/lang/Exception"]).filter vx_no
theorem ax_Lm : ax_L = ax_ps.filterMap (fun i => lw_tbl[i]?) := by decide +kernel
theorem ax_Lin {w : Cond} (h : w ∈ ax_L) : w ∈ lw_tbl := by
  rw [ax_Lm] at h
  obtain ⟨i, -, hi⟩ := List.mem_filterMap.mp h
  exact List.mem_of_getElem? hi
theorem ax_Lw {w : Cond} (h : w ∈ ax_L.filter goodWord) : w ∈ ajGw := ajGw_in (ax_Lin (List.mem_filter.mp h).1) (List.mem_filter.mp h).2
theorem ax_declares {args : Array Value} {s : State} {x : MethodName} {bytes : ByteArray} {n : Nat} {r : Option FieldType} (h1 : (Cond.instanceMethod x).before args s = true) (h2 : (Cond.code x bytes n r).before args s = true) : (Cond.declares x).before args s = true := by
  obtain ⟨m, meth, hn, hm, hst, -⟩ := Cond.instanceMethod_spec (show (Cond.instanceMethod x).holds args s none s [] = true from h1)
  obtain ⟨meth', c, hm', -, -, -, -, -, -, hsig⟩ := Cond.code_spec hn (show (Cond.code x bytes n r).holds args s none s [] = true from h2)
  cases Option.some.inj (hm.symm.trans hm')
  show (Cond.declares x).holds args s none s [] = true
  simp [Cond.holds, Cond.value, hn, hm, hst, hsig]
theorem ax_castable {args : Array Value} {s : State} {X : String} {n : Nat} (h : (Cond.instantiable X n).before args s = true) : (Cond.castable X X).before args s = true := by
  obtain ⟨c, k, hc, -⟩ := Cond.instantiable_spec (show (Cond.instantiable X n).holds args s none s [] = true from h)
  show (Cond.castable X X).holds args s none s [] = true
  have e0 : ∀ f : Nat, s.vm.assignableAux (f + 1) c c = true := fun f => by rw [Vm.assignableAux, beq_self_eq_true, Bool.true_or]
  have e : s.vm.assignable c c = true := e0 255
  simp [Cond.holds, Cond.value, hc, e]
def ax_B : List Cond := [.declares (Bundle.initS "java/lang/RuntimeException"), .declares (Bundle.initS "java/lang/Exception"), .declares (Bundle.initS "java/lang/Throwable"), .castable "java/util/NoSuchElementException" "java/util/NoSuchElementException"]
theorem ax_all {args : Array Value} {s : State} (h : ∀ w ∈ ajGw, w.before args s = true) : ∀ w ∈ ax_L, w.before args s = true := by
  refine vx_hat (B := ax_B) (fun w hw => h w (ax_Lw hw)) (by decide +kernel) ?_
  have i : ∀ x ∈ ax_L.filter goodWord, x.before args s = true := fun w hw => h w (ax_Lw hw)
  exact vx_c (ax_declares (bytes := Bundle.six) (n := 2) (r := none) (i _ (by decide +kernel)) (i _ (by decide +kernel))) (vx_c (ax_declares (bytes := Bundle.six) (n := 2) (r := none) (i _ (by decide +kernel)) (i _ (by decide +kernel))) (vx_c (ax_declares (bytes := LibCode.Throwable.InitS.code) (n := 2) (r := none) (i _ (by decide +kernel)) (i _ (by decide +kernel))) (vx_c (ax_castable (n := 6) (i _ (by decide +kernel))) vx_n)))
theorem ax_Lo : ax_L.all vx_ot = true := by decide +kernel
theorem ax_k0 : Cond.classLink "SpokeRing" 240 "java/util/NoSuchElementException" ∈ ajGw := ajGwK 1121 (by decide +kernel) (by decide +kernel)
theorem ax_k1 : Cond.initialized "java/util/NoSuchElementException" ∈ ajGw := ajGwK 110 (by decide +kernel) (by decide +kernel)
theorem ax_ot {w : Cond} (h : w ∈ ajGw) : vx_ot w = true := by
  have h2 : goodWord w = true := (List.mem_filter.mp h).2
  unfold vx_ot
  rw [h2, Bool.or_true]
/-- what is known of a throw -/
def axX (base : Nat) (D : va_G) (dA : Nat → ClassId) (cst : Nat → Value) (h : ajH) : String → State → State → Prop := fun E st t => E = "java/util/NoSuchElementException" ∧ va_P D ajCl (ajWs base cst dA h) t.heap ∧ va_F (ajA base) st t
section AXV
variable {l : Launch} {base : Nat} {D : va_G} {dA : Nat → ClassId} {cst : Nat → Value} {xs : Nat → Int32} {L : Nat}
theorem V137 {x : Nat} {k w : Int32} {h : ajH} (hfl : l.stackTraces = false) (hcst : ajCst cst) (hx0 : ajOK h x 0) (hx1 : ajOK h (ajR h x 1) 2) (hz : ajZz h) (hk : ajHk xs L h) (hno : ¬ (¬ k < 0 ∧ k < ajI h (ajR h x 1) 0 ∧ ¬ w < 0 ∧ w ≤ 4)) :
    vx_Met l (ajYn 137) (ajWd 137) (ajRm 3 1 6) (ajPc base D dA cst xs L [.ref x, .int k, .int w] h) (fun _ _ _ _ => False) (axX base D dA cst h) 1 6 (ajA base) := by
  have hreal : ∀ v ∈ ([.ref x, .int k, .int w] : List Value), ajReal v := fun v hv => by
    simp only [List.mem_cons, List.not_mem_nil, or_false] at hv
    rcases hv with rfl | rfl | rfl <;> trivial
  refine vx_ofW (cc := ajBy 137) (maxL := ajMx 137) (ret := ajFt 137) (by decide +kernel) rfl ?_
  intro p e s m args below meth c s₁ B hml htab hv
  obtain ⟨rfl, hE, hP, hbl, hcap⟩ := hv
  have hts0 := atoms_spec (ws := ajWd 137) B.pre
  have hts : ∀ w' ∈ ajGw, w'.before (([.ref x, .int k, .int w] : List Value).map (ajCz base cst)).toArray s = true := fun w' hw => hts0 w' (List.mem_cons_of_mem _ hw)
  have hown : s.vm.findClass (ajOwn 137) = some m.cls := findClass_of_methodNamed B.named
  have C0 : ajCtx base D dA cst xs L 137 p (headSpec (ajWd 137) (ajRm 3 1 6)).room s m (([.ref x, .int k, .int w] : List Value).map (ajCz base cst)).toArray meth c := ⟨B.exec, B.bytes, hml, hown, hts, (name_of_methodNamed B.named B.method).1, hE, hcst, hbl, by show 1 ≤ 3 + 4; omega, by show 100 ≤ 100 * (3 + 2); omega⟩
  rw [lg_entry_eq]
  have hl := ajLv_entry (base := base) (n := ajMx 137) hcst hreal (by show 3 ≤ ajMx 137; decide)
  have hS : va_S (ajA base) s.heap s.heap [] := va_S.rf
  have Y : ajDyn base D dA cst xs L s h s.heap [] 0 := ⟨hP, hz, hk, hS, by omega⟩
  have hc : 0 ≤ (headSpec (ajWd 137) (ajRm 3 1 6)).room.cells := Nat.zero_le _
  have hw : 0 ≤ (headSpec (ajWd 137) (ajRm 3 1 6)).room.slots := Nat.zero_le _
  have fin : ∀ (H1 : Heap) (locs1 : List Loc) (ls1 : Array Slot), ajDyn base D dA cst xs L s h H1 locs1 0 → ajLv base cst ls1 (ajMx 137) [.ref x, .int k, .int w] → W p l e (headSpec (ajWd 137) (ajRm 3 1 6)).room s m (([.ref x, .int k, .int w] : List Value).map (ajCz base cst)).toArray below meth c H1 locs1 0 0 (vx_MQ below (fun _ _ _ _ => False) (axX base D dA cst h) (([.ref x, .int k, .int w] : List Value).map (ajCz base cst)).toArray s 1 6 (ajA base)) (F0 m 17 ls1 []) := by
    intro H1 locs1 ls1 Y1 hl1
    obtain ⟨g1, g2, g3, g4, g5⟩ := Y1
    obtain ⟨tt, e1, e2⟩ := hE.2.2.2.2.2.1 ("SpokeRing", 242, "no such spoke or nothing such of it", 1014) (by decide)
    refine ax_make (cc := ajBy 137) (pc := 17) B.exec B.bytes hfl (own := "SpokeRing") (cls := "java/util/NoSuchElementException") (text := "no such spoke or nothing such of it") (Y := "java/lang/RuntimeException") (names := ["java/lang/Exception"]) (ik := 240) (is := 242) (ic := 244) (ix := 13) (sa := tt) (rx := prog_28_method_4_code) (A := ajA base)
      (by decide +kernel) (by decide +kernel) (by decide +kernel) (by decide +kernel) hown (by decide +kernel) (by decide +kernel) (fun n hn => by
        rw [List.mem_singleton] at hn
        rw [hn]
        decide +kernel) (hts _ ax_k0) (hts _ ax_k1) e2 (ax_all hts) (fun w' hw => by
        rcases List.mem_cons.mp hw with rfl | hw
        · exact ax_ot ax_k0
        rcases List.mem_cons.mp hw with rfl | hw
        · exact ax_ot ax_k1
        · exact List.all_eq_true.mp ax_Lo _ hw) hE.2.2.2.2.2.2.2.2.1 hE.2.2.2.2.2.2.2.2.2 g4 (hl1.1.trans hml.symm) (by decide +kernel) (by decide +kernel) (by decide +kernel) (by decide +kernel)
      (by show 1 + 4 < 3 + 4; omega) (by show 0 + (13 * (1 + 2) + 43) ≤ 100 * (3 + 2); omega) (by show 0 + 1 ≤ 1; omega) (by show 0 + 6 ≤ 6; omega) ?_
    intro q ce H2 c1 c2 c3 z1 z2 hS2
    refine vx_athrow B.exec B.bytes (by decide +kernel) ?_
    refine vx_out (E := "java/util/NoSuchElementException") (fun z hz => (htab z hz).elim) B.notSynchronized c1 c2 c3 (fun t ht _ => ⟨rfl, ?_, ?_⟩) hS2.2.2 (by omega) (by omega)
    · rw [ht]
      exact g1.kept (fun k q hk => z2 q.1 (vx_lt g1 hk))
    · exact ⟨by rw [ht]; exact hS2.1, fun q h1 h2 => by rw [ht]; exact hS2.2.1 q h1 h2⟩
  have hck := ajChk_all 137 2 (.invokevirtual 234, 3, 58, 1, 1, 0, [755, 0, 757, 15, 89]) rfl
  have hkd : ((.invokevirtual 234 : Instr) = .invokestatic 234 ∧ ajChI 137 234 58 1 1 [755, 0, 757, 15, 89] false false = true) ∨ ((.invokevirtual 234 : Instr) = .invokevirtual 234 ∧ ajChI 137 234 58 1 1 [755, 0, 757, 15, 89] false true = true) ∨ ((.invokevirtual 234 : Instr) = .invokespecial 234 ∧ ajChI 137 234 58 1 1 [755, 0, 757, 15, 89] true false = true) := by
    rcases (ajChk_inv (Or.inl rfl) hck).2 with ⟨-, z⟩ | ⟨z, -⟩ | ⟨z, -⟩ | ⟨z, -⟩ | ⟨z, -⟩
    · exact z
    · omega
    · omega
    · omega
    · omega
  have hm : ajMOK 58 := by
    rcases hkd with ⟨-, z1⟩ | ⟨-, z1⟩ | ⟨-, z1⟩ <;> exact ⟨(ajChI_some z1).2.1, (ajChI_some z1).2.2.2.2.1⟩
  refine ajW_go (P := True) (pc' := 1) (ps' := [.ref x, .int k, .int w]) (st' := [.ref x]) (st := []) C0 Y hl hc hw rfl (by rw [if_pos trivial]; rfl) trivial ?_
  intro H1 locs1 ls1 Y hl
  refine ajW_go (P := True) (pc' := 2) (ps' := [.ref x, .int k, .int w]) (st' := [.int k, .ref x]) (st := [.ref x]) C0 Y hl hc hw rfl (by rw [if_pos trivial]; rfl) trivial ?_
  intro H2 locs2 ls2 Y hl
  refine ajW_inv (idx := 234) (a := 58) (b := 1) (cq := 1) (d := 0) (ts := [755, 0, 757, 15, 89]) (st := [.int k, .ref x]) (r := some (.int (spIs h x k))) (h' := h) (ins := .invokevirtual 234) C0 Y hl.1 hkd (by decide +kernel) (M58 hcst hm hx0 hx1 hz hk) (by show 0 + 1 + 4 ≤ 3 + 4; omega) (by show 100 * (0 + 1 + 2) ≤ 100 * (3 + 2); omega) rfl (decide_eq_true hx0) (Nat.le_refl _) (Nat.le_refl _) (by omega) (by omega) ?_
  intro H3 locs3 Y3
  have ez : ∀ n : Nat, 0 + (n - n) = 0 := by omega
  rw [ez] at Y3
  rw [ez, ez]
  refine ajW_br (q := spIs h x k = 0) (p1 := 17) (p2 := 8) (ps1 := [.ref x, .int k, .int w]) (ps2 := [.ref x, .int k, .int w]) (st1 := []) (st2 := []) (st := [.int (spIs h x k)]) C0 Y3 hl hc hw rfl rfl ?_ ?_
  · intro _ H4 locs4 ls4 Y hl
    exact fin H4 locs4 ls4 Y hl
  intro y0 H4 locs4 ls4 Y hl
  refine ajW_go (P := True) (pc' := 9) (ps' := [.ref x, .int k, .int w]) (st' := [.int w]) (st := []) C0 Y hl hc hw rfl (by rw [if_pos trivial]; rfl) trivial ?_
  intro H5 locs5 ls5 Y hl
  refine ajW_br (q := w < 0) (p1 := 17) (p2 := 12) (ps1 := [.ref x, .int k, .int w]) (ps2 := [.ref x, .int k, .int w]) (st1 := []) (st2 := []) (st := [.int w]) C0 Y hl hc hw rfl rfl ?_ ?_
  · intro _ H6 locs6 ls6 Y hl
    exact fin H6 locs6 ls6 Y hl
  intro y1 H6 locs6 ls6 Y hl
  refine ajW_go (P := True) (pc' := 13) (ps' := [.ref x, .int k, .int w]) (st' := [.int w]) (st := []) C0 Y hl hc hw rfl (by rw [if_pos trivial]; rfl) trivial ?_
  intro H7 locs7 ls7 Y hl
  refine ajW_go (P := True) (pc' := 14) (ps' := [.ref x, .int k, .int w]) (st' := [.int 4, .int w]) (st := [.int w]) C0 Y hl hc hw rfl (by rw [if_pos trivial]; rfl) trivial ?_
  intro H8 locs8 ls8 Y hl
  refine ajW_br (q := w ≤ 4) (p1 := 27) (p2 := 17) (ps1 := [.ref x, .int k, .int w]) (ps2 := [.ref x, .int k, .int w]) (st1 := []) (st2 := []) (st := [.int 4, .int w]) C0 Y hl hc hw rfl rfl ?_ ?_
  · intro y2
    exfalso
    refine hno ?_
    unfold spIs at y0
    by_cases a : k < 0
    · rw [if_pos a] at y0; exact absurd rfl y0
    · rw [if_neg a] at y0
      by_cases b : ajI h (ajR h x 1) 0 ≤ k
      · rw [if_pos b] at y0; exact absurd rfl y0
      · exact ⟨a, Int32.not_le.mp b, y1, y2⟩
  · intro _ H9 locs9 ls9 Y hl
    exact fin H9 locs9 ls9 Y hl
end AXV
