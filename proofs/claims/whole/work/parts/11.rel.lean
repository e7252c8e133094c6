/-! How the abstract machine's values, locals and heap stand for the machine's. -/
def ajReal (v : Value) : Prop := match v with
  | .int _ => True
  | .long _ => True
  | .ref _ => True
  | _ => False
def ajCz (base : Nat) (cst : Nat → Value) : Value → Value
  | .ref a => if a = 0 then .null else if a < 1000 then .ref (base + a) else cst a
  | v => v
def ajCst (cst : Nat → Value) : Prop := ∀ a : Nat, cst a = .null ∨ ∃ t : Nat, cst a = .ref t
theorem ajCz_ref (base : Nat) {cst : Nat → Value} (hc : ajCst cst) (a : Nat) : ajCz base cst (.ref a) = .null ∨ ∃ t : Nat, ajCz base cst (.ref a) = .ref t := by
  show (if a = 0 then Value.null else if a < 1000 then .ref (base + a) else cst a) = .null ∨ ∃ t : Nat, (if a = 0 then Value.null else if a < 1000 then .ref (base + a) else cst a) = .ref t
  by_cases h0 : a = 0
  · exact Or.inl (by rw [if_pos h0])
  · by_cases h1 : a < 1000
    · exact Or.inr ⟨base + a, by rw [if_neg h0, if_pos h1]⟩
    · rw [if_neg h0, if_neg h1]; exact hc a
theorem ajCz_own {base : Nat} {cst : Nat → Value} {a : Nat} (h0 : a ≠ 0) (h1 : a < 1000) : ajCz base cst (.ref a) = .ref (base + a) := by
  show (if a = 0 then Value.null else if a < 1000 then .ref (base + a) else cst a) = .ref (base + a)
  rw [if_neg h0, if_pos h1]
theorem ajCz_con {base : Nat} {cst : Nat → Value} {a : Nat} (h1 : 1000 ≤ a) : ajCz base cst (.ref a) = cst a := by
  show (if a = 0 then Value.null else if a < 1000 then .ref (base + a) else cst a) = cst a
  rw [if_neg (by omega), if_neg (by omega)]
theorem ajCz_int (base : Nat) (cst : Nat → Value) (x : Int32) : ajCz base cst (.int x) = .int x := rfl
theorem ajCz_long (base : Nat) (cst : Nat → Value) (x : Int64) : ajCz base cst (.long x) = .long x := rfl
theorem ajCz_cat (base : Nat) {cst : Nat → Value} (hc : ajCst cst) (v : Value) : (ajCz base cst v).category = v.category := by
  cases v with
  | ref a =>
    rcases ajCz_ref base hc a with h | ⟨t, h⟩ <;> rw [h] <;> rfl
  | _ => rfl
/-- the locals -/
def ajLv (base : Nat) (cst : Nat → Value) (ls : Array Slot) (nL : Nat) (ps : List Value) : Prop := ls.size = nL ∧ lv_wf ls ∧ ps.length = nL ∧ ∀ (i : Nat) (v : Value), ps[i]? = some v → ajReal v → ls[i]? = some (.val (ajCz base cst v))
def ajLl (base : Nat) (cst : Nat → Value) (ps : List Value) : List (Nat × Value) := (List.range ps.length).filterMap (fun i => match (ps[i]? : Option Value) with
  | some (.int x) => some (i, .int x)
  | some (.long x) => some (i, .long x)
  | some (.ref x) => some (i, ajCz base cst (.ref x))
  | _ => none)
theorem ajLl_mem {base : Nat} {cst : Nat → Value} {ps : List Value} {q : Nat × Value} : q ∈ ajLl base cst ps ↔ ∃ v, ps[q.1]? = some v ∧ ajReal v ∧ q.2 = ajCz base cst v := by
  constructor
  · intro h
    obtain ⟨i, -, hi⟩ := List.mem_filterMap.mp h
    cases hv : ps[i]? with
    | none => rw [hv] at hi; cases hi
    | some v =>
      rw [hv] at hi
      cases v <;> first | (cases hi; done) | (cases hi; exact ⟨_, hv, trivial, rfl⟩)
  · rintro ⟨v, h1, h2, h3⟩
    have hl : q.1 < ps.length := (List.getElem?_eq_some_iff.mp h1).1
    refine List.mem_filterMap.mpr ⟨q.1, List.mem_range.mpr hl, ?_⟩
    rw [h1]
    obtain ⟨q1, q2⟩ := q
    dsimp only at h3
    subst h3
    cases v <;> first | rfl | exact h2.elim
theorem ajLv_has {base : Nat} {cst : Nat → Value} {ls : Array Slot} {nL : Nat} {ps : List Value} (h : ajLv base cst ls nL ps) : lv_has ls nL (ajLl base cst ps) := by
  refine ⟨h.1, h.2.1, fun q hq => ?_⟩
  obtain ⟨v, h1, h2, h3⟩ := ajLl_mem.mp hq
  rw [h3]
  exact h.2.2.2 q.1 v h1 h2
theorem ajLv_at {base : Nat} {cst : Nat → Value} {ls : Array Slot} {nL : Nat} {ps : List Value} (h : ajLv base cst ls nL ps) {i : Nat} {v : Value} (hv : ps.getD i ajU = v) (hr : ajReal v) : ls[i]? = some (.val (ajCz base cst v)) := by
  refine h.2.2.2 i v ?_ hr
  rw [List.getD_eq_getElem?_getD] at hv
  cases hp : ps[i]? with
  | none =>
    rw [hp] at hv
    rw [← hv] at hr; exact hr.elim
  | some w =>
    rw [hp] at hv
    exact congrArg some hv
theorem ajPut_len (ps : List Value) (i : Nat) (v : Value) : (ajPut ps i v).length = ps.length := by
  unfold ajPut
  split <;> simp
theorem ajPut_at {ps : List Value} {i j : Nat} {v w : Value} (h : (ajPut ps i v)[j]? = some w) (hw : ajReal w) : (j = i ∧ w = v) ∨ (j ≠ i ∧ ps[j]? = some w ∧ ¬ (j + 1 = i ∧ w.category = 2)) := by
  unfold ajPut at h
  split at h
  · rename_i x hx
    by_cases hji : j = i
    · subst hji
      left
      refine ⟨rfl, ?_⟩
      rw [List.getElem?_set] at h
      split at h
      · split at h
        · exact (Option.some.inj h).symm
        · cases h
      · rename_i hne; exact absurd rfl hne
    · right
      rw [List.getElem?_set_ne (fun e => hji e.symm)] at h
      by_cases hjp : j = i - 1
      · subst hjp
        rw [List.getElem?_set] at h
        simp only [ite_true] at h
        split at h
        · rw [← Option.some.inj h] at hw; exact hw.elim
        · cases h
      · rw [List.getElem?_set_ne (fun e => hjp e.symm)] at h
        exact ⟨hji, h, fun e => hjp (by omega)⟩
  · rename_i hnl
    by_cases hji : j = i
    · subst hji
      left
      refine ⟨rfl, ?_⟩
      rw [List.getElem?_set] at h
      simp only [ite_true] at h
      split at h
      · exact (Option.some.inj h).symm
      · cases h
    · right
      rw [List.getElem?_set_ne (fun e => hji e.symm)] at h
      refine ⟨hji, h, fun e => ?_⟩
      have hj : j = i - 1 := by omega
      subst hj
      have hd : ps.getD (i - 1) ajU = w := by rw [List.getD_eq_getElem?_getD, h]; rfl
      cases w with
      | long x => exact hnl x hd
      | double x => exact hw.elim
      | int x => exact absurd e.2 (by simp [Value.category])
      | float x => exact absurd e.2 (by simp [Value.category])
      | null => exact absurd e.2 (by simp [Value.category])
      | ref x => exact absurd e.2 (by simp [Value.category])
      | retAddr x => exact absurd e.2 (by simp [Value.category])
theorem ajLv_put {base : Nat} {cst : Nat → Value} {ls ls' : Array Slot} {nL i : Nat} {ps : List Value} {v : Value} (h : ajLv base cst ls nL ps)
    (h' : lv_has ls' nL ((i, ajCz base cst v) :: (ajLl base cst ps).filter (fun q => !(q.1 == i) && !(q.1 + 1 == i && q.2.category == 2)))) (hc : ajCst cst) : ajLv base cst ls' nL (ajPut ps i v) := by
  refine ⟨h'.1, h'.2.1, by rw [ajPut_len]; exact h.2.2.1, fun j w hj hw => ?_⟩
  rcases ajPut_at hj hw with ⟨e1, e2⟩ | ⟨e1, e2, e3⟩
  · subst e1; subst e2
    exact h'.2.2 _ List.mem_cons_self
  · refine h'.2.2 (j, ajCz base cst w) (List.mem_cons_of_mem _ (List.mem_filter.mpr ⟨ajLl_mem.mpr ⟨w, e2, hw, rfl⟩, ?_⟩))
    have h4 : ¬ (j + 1 = i ∧ (ajCz base cst w).category = 2) := by rw [ajCz_cat base hc]; exact e3
    simp only [Bool.and_eq_true, Bool.not_eq_true', beq_eq_false_iff_ne, ne_eq, Bool.and_eq_false_iff, beq_iff_eq]
    refine ⟨e1, ?_⟩
    by_cases h5 : j + 1 = i
    · exact Or.inr (fun e => h4 ⟨h5, e⟩)
    · exact Or.inl h5
theorem ajLv_put2 {base : Nat} {cst : Nat → Value} {ls ls' : Array Slot} {nL i : Nat} {ps : List Value} {v : Value} (h : ajLv base cst ls nL ps)
    (h' : lv_has ls' nL ((i, ajCz base cst v) :: (ajLl base cst ps).filter (fun q => !(q.1 == i) && (!(q.1 == i + 1) && !(q.1 + 1 == i && q.2.category == 2))))) (hc : ajCst cst) : ajLv base cst ls' nL (ajPut2 ps i v) := by
  refine ⟨h'.1, h'.2.1, by unfold ajPut2; rw [List.length_set, ajPut_len]; exact h.2.2.1, fun j w hj hw => ?_⟩
  unfold ajPut2 at hj
  have hj1 : j ≠ i + 1 := by
    intro e
    subst e
    rw [List.getElem?_set] at hj
    simp only [ite_true] at hj
    split at hj
    · rw [← Option.some.inj hj] at hw; exact hw.elim
    · cases hj
  rw [List.getElem?_set_ne (fun e => hj1 e.symm)] at hj
  rcases ajPut_at hj hw with ⟨e1, e2⟩ | ⟨e1, e2, e3⟩
  · subst e1; subst e2
    exact h'.2.2 _ List.mem_cons_self
  · refine h'.2.2 (j, ajCz base cst w) (List.mem_cons_of_mem _ (List.mem_filter.mpr ⟨ajLl_mem.mpr ⟨w, e2, hw, rfl⟩, ?_⟩))
    have h4 : ¬ (j + 1 = i ∧ (ajCz base cst w).category = 2) := by rw [ajCz_cat base hc]; exact e3
    simp only [Bool.and_eq_true, Bool.not_eq_true', beq_eq_false_iff_ne, ne_eq, Bool.and_eq_false_iff, beq_iff_eq]
    refine ⟨e1, hj1, ?_⟩
    by_cases h5 : j + 1 = i
    · exact Or.inr (fun e => h4 ⟨h5, e⟩)
    · exact Or.inl h5
/-- a method's entry -/
theorem ajEnt_args {base : Nat} {cst : Nat → Value} (hc : ajCst cst) : ∀ (as : List Value) (i : Nat) (pre : List Value), (∀ v ∈ as, ajReal v) → pre.length = i →
    ∀ (j : Nat) (w : Value), i ≤ j → (pre ++ ajXp as)[j]? = some w → ajReal w → (j, ajCz base cst w) ∈ lv_args i (as.map (ajCz base cst)) := by
  intro as
  induction as with
  | nil =>
    intro i pre _ hp j w hj h _
    simp only [ajXp, List.append_nil] at h
    have := (List.getElem?_eq_some_iff.mp h).1
    omega
  | cons a as ih =>
    intro i pre ha hp j w hj h hw
    have hra : ajReal a := ha a List.mem_cons_self
    have hras : ∀ v ∈ as, ajReal v := fun v hv => ha v (List.mem_cons_of_mem _ hv)
    have one : ajXp (a :: as) = a :: ajXp as → a.category = 1 → (j, ajCz base cst w) ∈ lv_args i ((a :: as).map (ajCz base cst)) := by
      intro e hcat
      rw [e] at h
      by_cases hji : j = i
      · subst hji
        rw [List.getElem?_append_right (by omega), hp, Nat.sub_self] at h
        cases h
        exact List.mem_cons_self
      · have h2 := ih (i + 1) (pre ++ [a]) hras (by simp [hp]) j w (by omega) (by rw [List.append_assoc]; exact h) hw
        show (j, ajCz base cst w) ∈ (i, ajCz base cst a) :: lv_args (if (ajCz base cst a).category = 2 then i + 2 else i + 1) (as.map (ajCz base cst))
        rw [ajCz_cat base hc, hcat]
        exact List.mem_cons_of_mem _ h2
    cases a with
    | int x => exact one rfl rfl
    | ref x => exact one rfl rfl
    | long x =>
      have e : ajXp (.long x :: as) = .long x :: ajU :: ajXp as := rfl
      rw [e] at h
      by_cases hji : j = i
      · subst hji
        rw [List.getElem?_append_right (by omega), hp, Nat.sub_self] at h
        cases h
        exact List.mem_cons_self
      · by_cases hji1 : j = i + 1
        · subst hji1
          rw [List.getElem?_append_right (by omega), hp, show i + 1 - i = 1 by omega] at h
          cases h
          exact hw.elim
        · have h2 := ih (i + 2) (pre ++ [.long x, ajU]) hras (by simp [hp]) j w (by omega) (by rw [List.append_assoc]; exact h) hw
          exact List.mem_cons_of_mem _ h2
    | _ => exact hra.elim
theorem ajXp_len {base : Nat} {cst : Nat → Value} (hc : ajCst cst) : ∀ (as : List Value), (∀ v ∈ as, ajReal v) → (lg_sl (as.map (ajCz base cst))).length = (ajXp as).length := by
  intro as
  induction as with
  | nil => intro _; rfl
  | cons a as ih =>
    intro ha
    have h1 := ih (fun v hv => ha v (List.mem_cons_of_mem _ hv))
    have hra : ajReal a := ha a List.mem_cons_self
    unfold lg_sl at h1 ⊢
    rw [List.map_cons, List.flatMap_cons, List.length_append, h1, ajCz_cat base hc]
    cases a with
    | int x => show 1 + (ajXp as).length = (Value.int x :: ajXp as).length; rw [List.length_cons]; omega
    | ref x => show 1 + (ajXp as).length = (Value.ref x :: ajXp as).length; rw [List.length_cons]; omega
    | long x => show 2 + (ajXp as).length = (Value.long x :: ajU :: ajXp as).length; rw [List.length_cons, List.length_cons]; omega
    | _ => exact hra.elim
theorem ajLv_entry {base : Nat} {cst : Nat → Value} (hc : ajCst cst) {as : List Value} {n : Nat} (ha : ∀ v ∈ as, ajReal v) (hn : (ajXp as).length ≤ n) :
    ajLv base cst ((lg_sl (as.map (ajCz base cst)) ++ List.replicate (n - (lg_sl (as.map (ajCz base cst))).length) Slot.unset).toArray) n (ajEnt n as) := by
  have hlen := ajXp_len (base := base) hc as ha
  have h := lv_entry (as.map (ajCz base cst)) (n := n) (by rw [hlen]; exact hn)
  refine ⟨h.1, h.2.1, by unfold ajEnt; rw [List.length_append, List.length_replicate]; omega, fun i v hi hv => ?_⟩
  refine h.2.2 (i, ajCz base cst v) (ajEnt_args hc as 0 [] ha rfl i v (Nat.zero_le _) ?_ hv)
  unfold ajEnt at hi
  by_cases hl : i < (ajXp as).length
  · rw [List.getElem?_append_left hl] at hi; exact hi
  · rw [List.getElem?_append_right (by omega)] at hi
    have := List.mem_of_getElem? hi
    rw [(List.mem_replicate.mp this).2] at hv
    exact hv.elim
