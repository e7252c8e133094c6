/-! What stays outside the abstract heap: statics, written arrays, texts, the script; the bundle that every step carries. -/
def ajTy (dA : Nat → ClassId) : List (ClassId × FieldType) := [(dA 100, .int), (dA 101, .byte), (dA 102, .long), (dA 103, .object "SpokeRing$State"), (dA 104, .object "SpokeRing$Law"), (dA 105, .object "SpokeRing$Journey")]
def ajEnv (base : Nat) (D : va_G) (dA : Nat → ClassId) (cst : Nat → Value) (xs : Nat → Int32) (L : Nat) (U : State) (H : Heap) : Prop :=
  va_K D ajCl (ajTy dA) U ∧
  (∀ q ∈ ajStat, va_Z q.1 q.2.1 q.2.2.1 (ajCz base cst q.2.2.2) (ajA base) U H) ∧
  (∀ a : Nat, 1000 ≤ a → (ajSh a).1 = 100 → ∃ t : Nat, cst a = .ref t ∧ va_T .int t (ajLc L a) (fun j => .int (ajCI xs a j)) (ajA base) U H) ∧
  (∀ a : Nat, 1000 ≤ a → (ajSh a).1 = 101 → ∃ t : Nat, cst a = .ref t ∧ va_T .byte t (ajLc L a) (fun j => .int (ajCI xs a j)) (ajA base) U H) ∧
  (∀ a : Nat, 1000 ≤ a → (ajSh a).1 = 50 → ∃ t : Nat, cst a = .ref t ∧ va_O "java/lang/String" t (ajA base) U H ∧ va_OF "java/lang/String" "coder" "B" (.int 0) t (ajA base) U H ∧ va_OF "java/lang/String" "value" "[B" (cst (a + 20)) t (ajA base) U H) ∧
  (∀ q ∈ ajStrs, ∃ t : Nat, cst q.2.2.2 = .ref t ∧ vk_R q.1 q.2.1 q.2.2.1 t U) ∧
  (∀ w ∈ ajNw, va_Nw w U) ∧
  (∀ k : Nat, 103 ≤ k → k < 106 → va_AO (ajElN k) U)
theorem ajEnv_kept {base : Nat} {D : va_G} {dA : Nat → ClassId} {cst : Nat → Value} {xs : Nat → Int32} {L : Nat} {U : State} {H H1 : Heap} (h : ajEnv base D dA cst xs L U H) (hq : ∀ a : Nat, a < H.size → ¬ ajA base a → H1[a]? = H[a]?) : ajEnv base D dA cst xs L U H1 := by
  obtain ⟨h1, h2, h3, h4, h5, h6, h7, h8⟩ := h
  refine ⟨h1, fun q hm => (h2 q hm).kept hq, fun a z1 z2 => ?_, fun a z1 z2 => ?_, fun a z1 z2 => ?_, h6, h7, h8⟩
  · obtain ⟨t, e1, e2⟩ := h3 a z1 z2
    exact ⟨t, e1, e2.kept hq⟩
  · obtain ⟨t, e1, e2⟩ := h4 a z1 z2
    exact ⟨t, e1, e2.kept hq⟩
  · obtain ⟨t, e1, e2, e3, e4⟩ := h5 a z1 z2
    exact ⟨t, e1, e2.kept hq, e3.kept hq, e4.kept hq⟩
theorem ajEnv_warm {base : Nat} {D : va_G} {dA : Nat → ClassId} {cst : Nat → Value} {xs : Nat → Int32} {L : Nat} {s U : State} {H : Heap} (hW : s.WarmedH U.vm) (h : ajEnv base D dA cst xs L s H) : ajEnv base D dA cst xs L U H := by
  have hvm := hW.alike
  obtain ⟨h1, h2, h3, h4, h5, h6, h7, h8⟩ := h
  refine ⟨va_K.moved hvm h1, fun q hm => va_Z.moved hvm (h2 q hm), fun a z1 z2 => ?_, fun a z1 z2 => ?_, fun a z1 z2 => ?_, fun q hm => ?_, fun w hw => ?_, fun k k1 k2 => va_AO.moved hvm (h8 k k1 k2)⟩
  · obtain ⟨t, e1, e2⟩ := h3 a z1 z2
    exact ⟨t, e1, va_T.moved hvm e2⟩
  · obtain ⟨t, e1, e2⟩ := h4 a z1 z2
    exact ⟨t, e1, va_T.moved hvm e2⟩
  · obtain ⟨t, e1, e2, e3, e4⟩ := h5 a z1 z2
    exact ⟨t, e1, va_O.moved hvm e2, va_OF.moved hvm e3, va_OF.moved hvm e4⟩
  · obtain ⟨t, e1, e2⟩ := h6 q hm
    exact ⟨t, e1, vk_R.warm hW e2⟩
  · have hn : ajNest w = true := (List.mem_filter.mp hw).2
    have hz := h7 w hw
    cases w <;> first | (cases hn; done) | exact va_Nw.warmF hW hz | exact va_Nw.warmM hW hz
theorem ajEnv_same {base : Nat} {D : va_G} {dA : Nat → ClassId} {cst : Nat → Value} {xs : Nat → Int32} {L : Nat} {u U : State} {H : Heap} (hv : U.vm = u.vm) (h : ajEnv base D dA cst xs L u H) : ajEnv base D dA cst xs L U H := by
  have hvm : u.vm.Alike U.vm := by rw [hv]; exact Vm.Alike.refl _
  obtain ⟨h1, h2, h3, h4, h5, h6, h7, h8⟩ := h
  refine ⟨va_K.moved hvm h1, fun q hm => va_Z.moved hvm (h2 q hm), fun a z1 z2 => ?_, fun a z1 z2 => ?_, fun a z1 z2 => ?_, fun q hm => ?_, fun w hw => ?_, fun k k1 k2 => va_AO.moved hvm (h8 k k1 k2)⟩
  · obtain ⟨t, e1, e2⟩ := h3 a z1 z2
    exact ⟨t, e1, va_T.moved hvm e2⟩
  · obtain ⟨t, e1, e2⟩ := h4 a z1 z2
    exact ⟨t, e1, va_T.moved hvm e2⟩
  · obtain ⟨t, e1, e2, e3, e4⟩ := h5 a z1 z2
    exact ⟨t, e1, va_O.moved hvm e2, va_OF.moved hvm e3, va_OF.moved hvm e4⟩
  · obtain ⟨t, e1, e2⟩ := h6 q hm
    exact ⟨t, e1, vk_R.same hv e2⟩
  · have hn : ajNest w = true := (List.mem_filter.mp hw).2
    have hz := h7 w hw
    refine va_Nw.same ?_ hv.symm hz
    cases w <;> first | (cases hn; done) | rfl
def ajCt (h : ajH) : Nat := ajN h + ajX h
def ajZz (h : ajH) : Prop := ajN h ≤ 1000 ∧ 1 ≤ ajN h
def ajHk (xs : Nat → Int32) (L : Nat) (h : ajH) : Prop := ajQ h = L ∧ ∀ a : Nat, 1000 ≤ a → ∀ k : Nat, ajI h a k = ajCI xs a k ∧ ajR h a k = ajCR a k
def ajDyn (base : Nat) (D : va_G) (dA : Nat → ClassId) (cst : Nat → Value) (xs : Nat → Int32) (L : Nat) (s : State) (h : ajH) (H : Heap) (locs : List Loc) (cells : Nat) : Prop :=
  va_P D ajCl (ajWs base cst dA h) H ∧ ajZz h ∧ ajHk xs L h ∧ va_S (ajA base) s.heap H locs ∧ s.heap.size + cells ≤ base + ajCt h
def ajCtx (base : Nat) (D : va_G) (dA : Nat → ClassId) (cst : Nat → Value) (xs : Nat → Int32) (L mi : Nat) (p : Program) (R : Room) (s : State) (m : MethodId) (args : Array Value) (meth : Method) (c : Code) : Prop :=
  p.tables.exec = Jvm.exec ∧ c.code = ajBy mi ∧ c.maxLocals = ajMx mi ∧ s.vm.findClass (ajOwn mi) = some m.cls ∧ (∀ w ∈ ajGw, w.before args s = true) ∧ meth.name = (ajYn mi).name ∧ ajEnv base D dA cst xs L s s.heap ∧ ajCst cst ∧ base < s.heap.size ∧ 1 ≤ R.frames ∧ 100 ≤ R.locals
-- the shapes
theorem ajShL_all {P : Nat × Nat → Bool} (h1 : ajShL.all P = true) (h2 : ajShC.all P = true) (h3 : P (999, 0) = true) (a : Nat) : P (ajSh a) = true := by
  unfold ajSh
  split
  · rw [List.getD_eq_getElem?_getD]
    cases hq : ajShC[a - 1000]? with
    | none => exact h3
    | some q => exact List.all_eq_true.mp h2 q (List.mem_of_getElem? hq)
  · rw [List.getD_eq_getElem?_getD]
    cases hq : ajShL[a]? with
    | none => exact h3
    | some q => exact List.all_eq_true.mp h1 q (List.mem_of_getElem? hq)
theorem ajSh_con {P : Nat × Nat → Bool} (h2 : ajShC.all P = true) (h3 : P (999, 0) = true) {a : Nat} (ha : 1000 ≤ a) : P (ajSh a) = true := by
  unfold ajSh
  rw [Nat.ble_eq_true_of_le ha]
  show P (ajShC.getD (a - 1000) (999, 0)) = true
  rw [List.getD_eq_getElem?_getD]
  cases hq : ajShC[a - 1000]? with
  | none => exact h3
  | some q => exact List.all_eq_true.mp h2 q (List.mem_of_getElem? hq)
theorem ajSh_own {P : Nat × Nat → Bool} (h2 : ajShL.all P = true) (h3 : P (999, 0) = true) {a : Nat} (ha : a < 1000) : P (ajSh a) = true := by
  unfold ajSh
  have hb : Nat.ble 1000 a = false := by
    cases hb : Nat.ble 1000 a with
    | false => rfl
    | true => exact absurd (Nat.le_of_ble_eq_true hb) (by omega)
  rw [hb]
  show P (ajShL.getD a (999, 0)) = true
  rw [List.getD_eq_getElem?_getD]
  cases hq : ajShL[a]? with
  | none => exact h3
  | some q => exact List.all_eq_true.mp h2 q (List.mem_of_getElem? hq)
theorem ajSh_n {a : Nat} (h : (ajSh a).1 < 50) : (ajCl[(ajSh a).1]?).map (fun q => q.2.2) = some (ajSh a).2 := by
  have h1 := ajShL_all (P := fun q => !(Nat.blt q.1 50) || decide ((ajCl[q.1]?).map (fun q => q.2.2) = some q.2)) (by decide +kernel) (by decide +kernel) (by decide +kernel) a
  simp only [Bool.or_eq_true, Bool.not_eq_true', decide_eq_true_eq] at h1
  rcases h1 with h1 | h1
  · have h2 : Nat.blt (ajSh a).1 50 = true := by rw [Nat.blt_eq]; exact h
    rw [h1] at h2; cases h2
  · exact h1
theorem ajSh_lt {a : Nat} (h : (ajSh a).1 < 50) : a < 1000 := by
  by_cases ha : a < 1000
  · exact ha
  · have h1 := ajSh_con (P := fun q => Nat.ble 50 q.1) (by decide +kernel) (by decide +kernel) (a := a) (by omega)
    have h2 := Nat.le_of_ble_eq_true h1
    omega
theorem ajSh_str {a : Nat} (h : (ajSh a).1 = 50) : 1000 ≤ a := by
  by_cases ha : a < 1000
  · have h1 := ajSh_own (P := fun q => !(Nat.beq q.1 50)) (by decide +kernel) (by decide +kernel) ha
    rw [h] at h1
    cases h1
  · omega
theorem ajSh_q {a : Nat} (h : 102 ≤ (ajSh a).1) (h2 : (ajSh a).1 < 106) : a < 1000 := by
  by_cases ha : a < 1000
  · exact ha
  · have h1 := ajSh_con (P := fun q => Nat.blt q.1 102 || Nat.ble 106 q.1) (by decide +kernel) (by decide +kernel) (a := a) (by omega)
    simp only [Bool.or_eq_true, Nat.blt_eq, Nat.ble_eq] at h1
    omega
theorem ajSh_0 : ajSh 0 = (999, 0) := by decide +kernel
theorem ajSh_w {a : Nat} (h : (ajSh a).1 < 900) : a ≠ 0 := by
  intro e
  subst e
  rw [ajSh_0] at h
  exact absurd h (by decide)
-- the classes
def ajClsOK (c : Nat) : Bool := match ajCl[c]? with
  | some (C, T, N) => (u_ws C T N).all (fun w => decide (w ∈ lw_tbl) && goodWord w) && ((List.range N).all (fun k => decide (parseFieldDescriptor (T k).2.2.1 = some (ajY c k))) && ((List.range N).all (fun a => (List.range N).all (fun b => Nat.beq a b || decide ((T a).2.1 ≠ (T b).2.1))) && (decide (Cond.instantiable C N ∈ lw_tbl) && (goodWord (.instantiable C N) && (decide (Cond.initialized C ∈ lw_tbl) && goodWord (.initialized C))))))
  | none => true
theorem ajCls_0 : (List.range 11).all ajClsOK = true := by decide +kernel
theorem ajGw_in {w : Cond} (h : w ∈ lw_tbl) (h2 : goodWord w = true) : w ∈ ajGw := List.mem_filter.mpr ⟨h, h2⟩
theorem ajCls {c : Nat} {C : String} {T : u_T} {N : Nat} (h : ajCl[c]? = some (C, T, N)) : (∀ w ∈ u_ws C T N, w ∈ ajGw) ∧ (∀ k, k < N → parseFieldDescriptor (T k).2.2.1 = some (ajY c k)) ∧ (∀ a, a < N → ∀ b, b < N → a ≠ b → (T a).2.1 ≠ (T b).2.1) ∧ Cond.instantiable C N ∈ ajGw ∧ Cond.initialized C ∈ ajGw := by
  have hl : c < 11 := (List.getElem?_eq_some_iff.mp h).1
  have h1 := List.all_eq_true.mp ajCls_0 c (List.mem_range.mpr hl)
  unfold ajClsOK at h1
  rw [h] at h1
  simp only [Bool.and_eq_true, List.all_eq_true, decide_eq_true_eq, List.mem_range, Bool.or_eq_true, Nat.beq_eq] at h1
  obtain ⟨e1, e2, e3, e4, e5, e6, e7⟩ := h1
  exact ⟨fun w hw => ajGw_in (e1 w hw).1 (e1 w hw).2, e2, fun a ha b hb hab => (e3 a ha b hb).resolve_left hab, ajGw_in e4 e5, ajGw_in e6 e7⟩
