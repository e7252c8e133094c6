/-! What stays outside the abstract heap: statics, written arrays, texts, the script; the bundle that every step carries. -/
def ajTy (dA : Nat → ClassId) : List (ClassId × FieldType) := [(dA 100, .int), (dA 101, .byte), (dA 102, .long), (dA 103, .object "SpokeRing$State"), (dA 104, .object "SpokeRing$Law"), (dA 105, .object "SpokeRing$Journey")]
def ajEnv (base : Nat) (D : va_G) (dA : Nat → ClassId) (cst : Nat → Value) (xs : Nat → Int32) (L : Nat) (U : State) (H : Heap) : Prop :=
  va_K D ajCl (ajTy dA) U ∧
  (∀ q ∈ ajStat, va_Z q.1 q.2.1 q.2.2.1 (ajCz base cst q.2.2.2) (ajA base) U H) ∧
  (∀ a : Nat, 1000 ≤ a → (ajSh a).1 = 100 → ∃ t : Nat, cst a = .ref t ∧ va_T .int t (ajLc L a) (fun j => .int (ajCI xs a j)) (ajA base) U H) ∧
  (∀ a : Nat, 1000 ≤ a → (ajSh a).1 = 101 → ∃ t : Nat, cst a = .ref t ∧ va_T .byte t (ajLc L a) (fun j => .int (ajCI xs a j)) (ajA base) U H) ∧
  (∀ a : Nat, 1000 ≤ a → (ajSh a).1 = 50 → ∃ t : Nat, cst a = .ref t ∧ va_O "java/lang/String" t (ajA base) U H ∧ va_OF "java/lang/String" "coder" "B" (.int 0) t (ajA base) U H ∧ va_OF "java/lang/String" "value" "[B" (cst (a + 20)) t (ajA base) U H) ∧
  (∀ q ∈ ajStrs, ∃ t : Nat, cst q.2.2.2 = .ref t ∧ vk_R q.1 q.2.1 q.2.2.1 t U) ∧
  (∀ w ∈ ajNw, va_Nw w U) ∧
  (∀ k : Nat, 103 ≤ k → k < 106 → va_AO (ajElN k) U) ∧
  vx_Zq Bundle.tN "UNASSIGNED_STACK" Bundle.steD (ajA base) U H ∧ vx_Zq Bundle.tN "SUPPRESSED_SENTINEL" Bundle.listD (ajA base) U H
theorem ajEnv_kept {base : Nat} {D : va_G} {dA : Nat → ClassId} {cst : Nat → Value} {xs : Nat → Int32} {L : Nat} {U : State} {H H1 : Heap} (h : ajEnv base D dA cst xs L U H) (hq : ∀ a : Nat, a < H.size → ¬ ajA base a → H1[a]? = H[a]?) : ajEnv base D dA cst xs L U H1 := by
  obtain ⟨h1, h2, h3, h4, h5, h6, h7, h8, h9, h10⟩ := h
  refine ⟨h1, fun q hm => (h2 q hm).kept hq, fun a z1 z2 => ?_, fun a z1 z2 => ?_, fun a z1 z2 => ?_, h6, h7, h8, h9.kept hq, h10.kept hq⟩
  · obtain ⟨t, e1, e2⟩ := h3 a z1 z2
    exact ⟨t, e1, e2.kept hq⟩
  · obtain ⟨t, e1, e2⟩ := h4 a z1 z2
    exact ⟨t, e1, e2.kept hq⟩
  · obtain ⟨t, e1, e2, e3, e4⟩ := h5 a z1 z2
    exact ⟨t, e1, e2.kept hq, e3.kept hq, e4.kept hq⟩
theorem ajEnv_warm {base : Nat} {D : va_G} {dA : Nat → ClassId} {cst : Nat → Value} {xs : Nat → Int32} {L : Nat} {s U : State} {H : Heap} (hW : s.WarmedH U.vm) (h : ajEnv base D dA cst xs L s H) : ajEnv base D dA cst xs L U H := by
  have hvm := hW.alike
  obtain ⟨h1, h2, h3, h4, h5, h6, h7, h8, h9, h10⟩ := h
  refine ⟨va_K.moved hvm h1, fun q hm => va_Z.moved hvm (h2 q hm), fun a z1 z2 => ?_, fun a z1 z2 => ?_, fun a z1 z2 => ?_, fun q hm => ?_, fun w hw => ?_, fun k k1 k2 => va_AO.moved hvm (h8 k k1 k2), h9.moved hvm, h10.moved hvm⟩
  · obtain ⟨t, e1, e2⟩ := h3 a z1 z2
    exact ⟨t, e1, va_T.moved hvm e2⟩
  · obtain ⟨t, e1, e2⟩ := h4 a z1 z2
    exact ⟨t, e1, va_T.moved hvm e2⟩
  · obtain ⟨t, e1, e2, e3, e4⟩ := h5 a z1 z2
    exact ⟨t, e1, va_O.moved hvm e2, va_OF.moved hvm e3, va_OF.moved hvm e4⟩
  · obtain ⟨t, e1, e2⟩ := h6 q hm
    exact ⟨t, e1, vk_R.warm hW e2⟩
  · have hn : ajNest w = true := (List.mem_filter.mp hw).2
    have hz := h7 w hw
    cases w <;> first | (cases hn; done) | exact va_Nw.warmF hW hz | exact va_Nw.warmM hW hz
theorem ajEnv_same {base : Nat} {D : va_G} {dA : Nat → ClassId} {cst : Nat → Value} {xs : Nat → Int32} {L : Nat} {u U : State} {H : Heap} (hv : U.vm = u.vm) (h : ajEnv base D dA cst xs L u H) : ajEnv base D dA cst xs L U H := by
  have hvm : u.vm.Alike U.vm := by rw [hv]; exact Vm.Alike.refl _
  obtain ⟨h1, h2, h3, h4, h5, h6, h7, h8, h9, h10⟩ := h
  refine ⟨va_K.moved hvm h1, fun q hm => va_Z.moved hvm (h2 q hm), fun a z1 z2 => ?_, fun a z1 z2 => ?_, fun a z1 z2 => ?_, fun q hm => ?_, fun w hw => ?_, fun k k1 k2 => va_AO.moved hvm (h8 k k1 k2), h9.moved hvm, h10.moved hvm⟩
  · obtain ⟨t, e1, e2⟩ := h3 a z1 z2
    exact ⟨t, e1, va_T.moved hvm e2⟩
  · obtain ⟨t, e1, e2⟩ := h4 a z1 z2
    exact ⟨t, e1, va_T.moved hvm e2⟩
  · obtain ⟨t, e1, e2, e3, e4⟩ := h5 a z1 z2
    exact ⟨t, e1, va_O.moved hvm e2, va_OF.moved hvm e3, va_OF.moved hvm e4⟩
  · obtain ⟨t, e1, e2⟩ := h6 q hm
    exact ⟨t, e1, vk_R.same hv e2⟩
  · have hn : ajNest w = true := (List.mem_filter.mp hw).2
    have hz := h7 w hw
    refine va_Nw.same ?_ hv.symm hz
    cases w <;> first | (cases hn; done) | rfl
def ajCt (h : ajH) : Nat := ajN h + ajX h
def ajZz (h : ajH) : Prop := ajN h ≤ 1000 ∧ 1 ≤ ajN h
def ajHk (xs : Nat → Int32) (L : Nat) (h : ajH) : Prop := ajQ h = L ∧ ∀ a : Nat, 1000 ≤ a → ∀ k : Nat, ajI h a k = ajCI xs a k ∧ ajR h a k = ajCR a k
def ajDyn (base : Nat) (D : va_G) (dA : Nat → ClassId) (cst : Nat → Value) (xs : Nat → Int32) (L : Nat) (s : State) (h : ajH) (H : Heap) (locs : List Loc) (cells : Nat) : Prop :=
  va_P D ajCl (ajWs base cst dA h) H ∧ ajZz h ∧ ajHk xs L h ∧ va_S (ajA base) s.heap H locs ∧ s.heap.size + cells ≤ base + ajCt h
def ajCtx (base : Nat) (D : va_G) (dA : Nat → ClassId) (cst : Nat → Value) (xs : Nat → Int32) (L mi : Nat) (p : Program) (R : Room) (s : State) (m : MethodId) (args : Array Value) (meth : Method) (c : Code) : Prop :=
  p.tables.exec = Jvm.exec ∧ c.code = ajBy mi ∧ c.maxLocals = ajMx mi ∧ s.vm.findClass (ajOwn mi) = some m.cls ∧ (∀ w ∈ ajGw, w.before args s = true) ∧ meth.name = (ajYn mi).name ∧ ajEnv base D dA cst xs L s s.heap ∧ ajCst cst ∧ base < s.heap.size ∧ 1 ≤ R.frames ∧ 100 ≤ R.locals
