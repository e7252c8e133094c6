/-! The shapes and the classes, decided once. -/
-- the shapes
theorem ajShL_all {P : Nat × Nat → Bool} (h1 : ajShL.all P = true) (h2 : ajShC.all P = true) (h3 : P (999, 0) = true) (a : Nat) : P (ajSh a) = true := by
  unfold ajSh
  split
  · rw [List.getD_eq_getElem?_getD]
    cases hq : ajShC[a - 1000]? with
    | none => exact h3
    | some q => exact List.all_eq_true.mp h2 q (List.mem_of_getElem? hq)
  · rw [List.getD_eq_getElem?_getD]
    cases hq : ajShL[a]? with
    | none => exact h3
    | some q => exact List.all_eq_true.mp h1 q (List.mem_of_getElem? hq)
theorem ajSh_con {P : Nat × Nat → Bool} (h2 : ajShC.all P = true) (h3 : P (999, 0) = true) {a : Nat} (ha : 1000 ≤ a) : P (ajSh a) = true := by
  unfold ajSh
  rw [Nat.ble_eq_true_of_le ha]
  show P (ajShC.getD (a - 1000) (999, 0)) = true
  rw [List.getD_eq_getElem?_getD]
  cases hq : ajShC[a - 1000]? with
  | none => exact h3
  | some q => exact List.all_eq_true.mp h2 q (List.mem_of_getElem? hq)
theorem ajSh_own {P : Nat × Nat → Bool} (h2 : ajShL.all P = true) (h3 : P (999, 0) = true) {a : Nat} (ha : a < 1000) : P (ajSh a) = true := by
  unfold ajSh
  have hb : Nat.ble 1000 a = false := by
    cases hb : Nat.ble 1000 a with
    | false => rfl
    | true => exact absurd (Nat.le_of_ble_eq_true hb) (by omega)
  rw [hb]
  show P (ajShL.getD a (999, 0)) = true
  rw [List.getD_eq_getElem?_getD]
  cases hq : ajShL[a]? with
  | none => exact h3
  | some q => exact List.all_eq_true.mp h2 q (List.mem_of_getElem? hq)
theorem ajSh_n {a : Nat} (h : (ajSh a).1 < 50) : (ajCl[(ajSh a).1]?).map (fun q => q.2.2) = some (ajSh a).2 := by
  have h1 := ajShL_all (P := fun q => !(Nat.blt q.1 50) || decide ((ajCl[q.1]?).map (fun q => q.2.2) = some q.2)) (by decide +kernel) (by decide +kernel) (by decide +kernel) a
  simp only [Bool.or_eq_true, Bool.not_eq_true', decide_eq_true_eq] at h1
  rcases h1 with h1 | h1
  · have h2 : Nat.blt (ajSh a).1 50 = true := by rw [Nat.blt_eq]; exact h
    rw [h1] at h2; cases h2
  · exact h1
theorem ajSh_lt {a : Nat} (h : (ajSh a).1 < 50) : a < 1000 := by
  by_cases ha : a < 1000
  · exact ha
  · have h1 := ajSh_con (P := fun q => Nat.ble 50 q.1) (by decide +kernel) (by decide +kernel) (a := a) (by omega)
    have h2 := Nat.le_of_ble_eq_true h1
    omega
theorem ajSh_str {a : Nat} (h : (ajSh a).1 = 50) : 1000 ≤ a := by
  by_cases ha : a < 1000
  · have h1 := ajSh_own (P := fun q => !(Nat.beq q.1 50)) (by decide +kernel) (by decide +kernel) ha
    rw [h] at h1
    cases h1
  · omega
theorem ajSh_q {a : Nat} (h : 102 ≤ (ajSh a).1) (h2 : (ajSh a).1 < 106) : a < 1000 := by
  by_cases ha : a < 1000
  · exact ha
  · have h1 := ajSh_con (P := fun q => Nat.blt q.1 102 || Nat.ble 106 q.1) (by decide +kernel) (by decide +kernel) (a := a) (by omega)
    simp only [Bool.or_eq_true, Nat.blt_eq, Nat.ble_eq] at h1
    omega
theorem ajSh_0 : ajSh 0 = (999, 0) := by decide +kernel
theorem ajSh_w {a : Nat} (h : (ajSh a).1 < 900) : a ≠ 0 := by
  intro e
  subst e
  rw [ajSh_0] at h
  exact absurd h (by decide)
-- the classes
def ajClsOK (c : Nat) : Bool := match ajCl[c]? with
  | some (C, T, N) => (u_ws C T N).all (fun w => decide (w ∈ lw_tbl) && goodWord w) && ((List.range N).all (fun k => decide (parseFieldDescriptor (T k).2.2.1 = some (ajY c k))) && ((List.range N).all (fun a => (List.range N).all (fun b => Nat.beq a b || decide ((T a).2.1 ≠ (T b).2.1))) && (decide (Cond.instantiable C N ∈ lw_tbl) && (goodWord (.instantiable C N) && (decide (Cond.initialized C ∈ lw_tbl) && goodWord (.initialized C))))))
  | none => true
theorem ajCls_0 : (List.range 11).all ajClsOK = true := by decide +kernel
theorem ajGw_in {w : Cond} (h : w ∈ lw_tbl) (h2 : goodWord w = true) : w ∈ ajGw := List.mem_filter.mpr ⟨h, h2⟩
theorem ajCls {c : Nat} {C : String} {T : u_T} {N : Nat} (h : ajCl[c]? = some (C, T, N)) : (∀ w ∈ u_ws C T N, w ∈ ajGw) ∧ (∀ k, k < N → parseFieldDescriptor (T k).2.2.1 = some (ajY c k)) ∧ (∀ a, a < N → ∀ b, b < N → a ≠ b → (T a).2.1 ≠ (T b).2.1) ∧ Cond.instantiable C N ∈ ajGw ∧ Cond.initialized C ∈ ajGw := by
  have hl : c < 11 := (List.getElem?_eq_some_iff.mp h).1
  have h1 := List.all_eq_true.mp ajCls_0 c (List.mem_range.mpr hl)
  unfold ajClsOK at h1
  rw [h] at h1
  simp only [Bool.and_eq_true, List.all_eq_true, decide_eq_true_eq, List.mem_range, Bool.or_eq_true, Nat.beq_eq] at h1
  obtain ⟨e1, e2, e3, e4, e5, e6, e7⟩ := h1
  exact ⟨fun w hw => ajGw_in (e1 w hw).1 (e1 w hw).2, e2, fun a ha b hb hab => (e3 a ha b hb).resolve_left hab, ajGw_in e4 e5, ajGw_in e6 e7⟩
