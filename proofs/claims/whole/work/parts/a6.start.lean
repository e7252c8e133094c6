/-! The start: what the Statement gives of it. -/
def ayF : List Cond := flatC (Jvm.Cond.and given_1 narrow_1)
def ayTm (i : Nat) : Term := match i with
  | 0 => .string "SpokeRing$Law" 18
  | 1 => .string "SpokeRing" 178
  | 2 => .string "SpokeRing" 197
  | 3 => .string "SpokeRing" 229
  | 4 => .string "SpokeRing" 242
  | _ => .string "SpokeRingModel" 26
def aySt (i : Nat) : String := match i with
  | 0 => "RULE_USUAL"
  | 1 => "RULE_LEAST"
  | 2 => "RULE_MOST"
  | 3 => "SPOKE_USUAL"
  | 4 => "SPOKE_LEAST"
  | _ => "SPOKE_MOST"
def aySn : List Nat := [4, 4, 4, 3, 3, 3]
def ayKn : List Nat := [6, 4, 3, 4, 35, 1]
def ayB : List (List Int32) := (ajCo.drop 30).take 6
theorem ay_s1 : ∀ i < 6, Cond.arrayOf (.static "SpokeRing" (aySt i) "[I") .int ∈ ayF := by decide +kernel
theorem ay_s2 : ∀ i < 6, Cond.eq (.length (.static "SpokeRing" (aySt i) "[I")) (.int (Int32.ofNat (aySn.getD i 0))) ∈ ayF := by decide +kernel
theorem ay_s3 : ∀ i < 6, ∀ j < aySn.getD i 0, Cond.eq (.elem (.static "SpokeRing" (aySt i) "[I") (.int (Int32.ofNat j))) (.int ((ajCo.getD i []).getD j 0)) ∈ ayF := by decide +kernel
theorem ay_k1 : ∀ i < 6, Cond.exactly (ayTm i) "java/lang/String" ∈ ayF := by decide +kernel
theorem ay_k2 : ∀ i < 6, Cond.eq (.field (ayTm i) "java/lang/String" "coder" "B") (.int 0) ∈ ayF := by decide +kernel
theorem ay_k3 : ∀ i < 6, Cond.arrayOf (.field (ayTm i) "java/lang/String" "value" "[B") .byte ∈ ayF := by decide +kernel
theorem ay_k4 : ∀ i < 6, Cond.eq (.length (.field (ayTm i) "java/lang/String" "value" "[B")) (.int (Int32.ofNat (ayKn.getD i 0))) ∈ ayF := by decide +kernel
theorem ay_k5 : ∀ i < 6, ∀ j < ayKn.getD i 0, Cond.eq (.elem (.field (ayTm i) "java/lang/String" "value" "[B") (.int (Int32.ofNat j))) (.int ((ayB.getD i []).getD j 0)) ∈ ayF := by decide +kernel
theorem ay_k6 : ∀ i < 6, ∀ j < 6, i ≠ j → Cond.not (Cond.eq (ayTm i) (ayTm j)) ∈ ayF ∨ Cond.not (Cond.eq (ayTm j) (ayTm i)) ∈ ayF := by decide +kernel
theorem ay_k7 : ∀ q ∈ ajStrs, Cond.stringRef q.1 q.2.1 q.2.2.1 ∈ lw_tbl ∧ 1010 ≤ q.2.2.2 ∧ q.2.2.2 < 1016 ∧ (Term.string q.1 q.2.1 = ayTm (q.2.2.2 - 1010) ∨ Cond.eq (ayTm (q.2.2.2 - 1010)) (Term.string q.1 q.2.1) ∈ ayF) := by decide +kernel
theorem ay_t1 : ∀ i < 6, Cond.laysStatic "SpokeRing" (aySt i) "[I" ∈ lw_tbl := by decide +kernel
theorem ay_sh100 : ∀ i < 200, (ajShC.getD i (999, 0)).1 = 100 → (i < 6 ∧ (ajShC.getD i (999, 0)).2 = aySn.getD i 0) ∨ i = 100 := by decide +kernel
theorem ay_sh101 : ∀ i < 200, (ajShC.getD i (999, 0)).1 = 101 → 30 ≤ i ∧ i < 36 ∧ (ajShC.getD i (999, 0)).2 = ayKn.getD (i - 30) 0 := by decide +kernel
theorem ay_sh50 : ∀ i < 200, (ajShC.getD i (999, 0)).1 = 50 → 10 ≤ i ∧ i < 16 := by decide +kernel
theorem ay_b : ∀ i < 6, ajCo.getD (30 + i) [] = ayB.getD i [] := by decide +kernel
theorem ay_shE {o : Nat} (h : 1000 ≤ o) (h9 : (ajSh o).1 < 999) : ajSh o = ajShC.getD (o - 1000) (999, 0) ∧ o - 1000 < 200 := by
  have e : ajSh o = ajShC.getD (o - 1000) (999, 0) := by
    unfold ajSh
    rw [show Nat.ble 1000 o = true by rw [Nat.ble_eq]; exact h]
  refine ⟨e, ?_⟩
  by_cases hi : o - 1000 < 200
  · exact hi
  · exfalso
    have hl : ajShC.length ≤ 200 := by decide +kernel
    rw [e, List.getD_eq_getElem?_getD, List.getElem?_eq_none (by omega)] at h9
    exact absurd h9 (by decide)
theorem ay_eqr {args : Array Value} {s : State} {t u : Term} {a : Nat} (h : (Cond.eq t u).before args s = true) (ht : t.eval args s none [] s = some (.ref a)) : u.eval args s none [] s = some (.ref a) := by
  cases hu : u.eval args s none [] s with
  | none => simp [Cond.before, Cond.holds, Cond.value, ht, hu] at h
  | some w =>
    simp only [Cond.before, Cond.holds, Cond.value, ht, hu] at h
    cases w <;> simp_all
theorem ay_isRef {args : Array Value} {s : State} {t : Term} (h : (Cond.isRef t).before args s = true) : ∃ v, t.eval args s none [] s = some v ∧ (v = .null ∨ ∃ a : Nat, v = .ref a) := by
  cases hu : t.eval args s none [] s with
  | none => simp [Cond.before, Cond.holds, Cond.value, hu] at h
  | some w =>
    refine ⟨w, rfl, ?_⟩
    simp only [Cond.before, Cond.holds, Cond.value, hu] at h
    cases w <;> first | exact Or.inl rfl | exact Or.inr ⟨_, rfl⟩ | (simp_all [Value.isRef]; done)
/-- the constants' addresses -/
def ayC (tA adK adV : Nat → Nat) (v60 : Value) (b a : Nat) : Value := if a < 1000 then .null else if a < 1006 then .ref (tA (a - 1000)) else if a < 1010 then .null else if a < 1016 then .ref (adK (a - 1010)) else if a < 1030 then .null else if a < 1036 then .ref (adV (a - 1030)) else if a = 1060 then v60 else if a = 1100 then .ref b else .null
section AYC
variable {tA adK adV : Nat → Nat} {v60 : Value} {b : Nat}
theorem ayC_t {i : Nat} (h : i < 6) : ayC tA adK adV v60 b (1000 + i) = .ref (tA i) := by
  unfold ayC
  rw [if_neg (by omega), if_pos (by omega), Nat.add_sub_cancel_left]
theorem ayC_k {i : Nat} (h : i < 6) : ayC tA adK adV v60 b (1010 + i) = .ref (adK i) := by
  unfold ayC
  rw [if_neg (by omega), if_neg (by omega), if_neg (by omega), if_pos (by omega), Nat.add_sub_cancel_left]
theorem ayC_v {i : Nat} (h : i < 6) : ayC tA adK adV v60 b (1030 + i) = .ref (adV i) := by
  unfold ayC
  rw [if_neg (by omega), if_neg (by omega), if_neg (by omega), if_neg (by omega), if_neg (by omega), if_pos (by omega), Nat.add_sub_cancel_left]
theorem ayC_60 : ayC tA adK adV v60 b 1060 = v60 := by
  unfold ayC
  rw [if_neg (by omega), if_neg (by omega), if_neg (by omega), if_neg (by omega), if_neg (by omega), if_neg (by omega), if_pos rfl]
theorem ayC_b : ayC tA adK adV v60 b 1100 = .ref b := by
  unfold ayC
  rw [if_neg (by omega), if_neg (by omega), if_neg (by omega), if_neg (by omega), if_neg (by omega), if_neg (by omega), if_neg (by omega), if_pos rfl]
theorem ayC_cst (h : v60 = .null ∨ ∃ a : Nat, v60 = .ref a) : ajCst (ayC tA adK adV v60 b) := by
  intro a
  unfold ayC
  repeat' split
  all_goals first | exact Or.inl rfl | exact Or.inr ⟨_, rfl⟩ | exact h
end AYC
section AYE
variable {s : State} {args : Array Value} {A : Nat → Prop}
theorem ay_K (hts : ∀ w ∈ ajGw, w.before args s = true) : ∃ D : va_G, ∀ (c : Nat) (q : vw_C), ajCl[c]? = some q → u_Kn s q.1 q.2.1 q.2.2 (D.1 c) (D.2 c) := by
  have h : ∀ c : Nat, ∃ z : ClassId × (Nat → Nat), ∀ q : vw_C, ajCl[c]? = some q → u_Kn s q.1 q.2.1 q.2.2 z.1 z.2 := by
    intro c
    cases hq : ajCl[c]? with
    | none => exact ⟨(0, fun _ => 0), fun q h => by cases h⟩
    | some q =>
      obtain ⟨C, T, N⟩ := q
      obtain ⟨h1, -, -, h4, -⟩ := ajCls hq
      obtain ⟨c1, iS, hk⟩ := u_known (C := C) (T := T) (N := N) hts h1 (hts _ h4)
      exact ⟨(c1, iS), fun q h => by cases h; exact hk⟩
  obtain ⟨z, hz⟩ := Classical.axiomOfChoice h
  exact ⟨(fun c => (z c).1, fun c => (z c).2), hz⟩
theorem ay_arr {ty : FieldType} (hty : ∀ C, ty ≠ .object C) (h : (Cond.arrayClass ty).before args s = true) : ∃ c : ClassId, ArrOfT s c ty ∧ va_RA s c ty := by
  obtain ⟨c, k, comp, h1, h2, h3⟩ := Cond.arrayClass_spec (show (Cond.arrayClass ty).holds args s none s [] = true from h)
  refine ⟨c, fun N z => ⟨(fun _ h => by cases h), k, h2, comp, h3⟩, ?_⟩
  cases ty <;> first | exact h1 | exact absurd rfl (hty _)
theorem ay_arq {C : String} (h : (Cond.arrayOver (.object C)).before args s = true) : ∃ c : ClassId, ArrOfT s c (.object C) ∧ va_RA s c (.object C) := by
  obtain ⟨comp, c, k, h1, -, h2, h3, h4⟩ := Cond.arrayOver_spec (show (Cond.arrayOver (.object C)).holds args s none s [] = true from h)
  exact ⟨c, fun N z => ⟨(fun _ h => by cases h), k, h2, comp, h3⟩, k, comp, h2, h3, h1, h4⟩
theorem ay_dA (hts : ∀ w ∈ lw_tbl, w.before args s = true) : ∃ dA : Nat → ClassId, ∀ (k : Nat) (q : ClassId × FieldType), (ajTy dA)[k]? = some q → ArrOfT s q.1 q.2 ∧ va_RA s q.1 q.2 := by
  obtain ⟨c0, h0⟩ := ay_arr (ty := .int) (fun C h => by cases h) (hts _ (List.mem_of_getElem? (i := 141) (by decide +kernel)))
  obtain ⟨c1, h1⟩ := ay_arr (ty := .byte) (fun C h => by cases h) (hts _ (List.mem_of_getElem? (i := 215) (by decide +kernel)))
  obtain ⟨c2, h2⟩ := ay_arr (ty := .long) (fun C h => by cases h) (hts _ (List.mem_of_getElem? (i := 1342) (by decide +kernel)))
  obtain ⟨c3, h3⟩ := ay_arq (C := "SpokeRing$State") (hts _ (List.mem_of_getElem? (i := 324) (by decide +kernel)))
  obtain ⟨c4, h4⟩ := ay_arq (C := "SpokeRing$Law") (hts _ (List.mem_of_getElem? (i := 182) (by decide +kernel)))
  obtain ⟨c5, h5⟩ := ay_arq (C := "SpokeRing$Journey") (hts _ (List.mem_of_getElem? (i := 184) (by decide +kernel)))
  refine ⟨fun a => if a = 100 then c0 else if a = 101 then c1 else if a = 102 then c2 else if a = 103 then c3 else if a = 104 then c4 else c5, ?_⟩
  intro k q hq
  match k, hq with
  | 0, hq => cases hq; exact h0
  | 1, hq => cases hq; exact h1
  | 2, hq => cases hq; exact h2
  | 3, hq => cases hq; exact h3
  | 4, hq => cases hq; exact h4
  | 5, hq => cases hq; exact h5
  | k + 6, hq => cases hq
theorem ay_stat (hs : ∀ w ∈ ayF, w.before args s = true) (hA : ∀ a : Nat, a < s.heap.size → ¬ A a) : ∃ tA : Nat → Nat, ∀ i < 6, (Term.static "SpokeRing" (aySt i) "[I").eval args s none [] s = some (.ref (tA i)) ∧ va_T .int (tA i) (aySn.getD i 0) (fun j => .int ((ajCo.getD i []).getD j 0)) A s s.heap := by
  have h : ∀ i : Nat, ∃ t : Nat, i < 6 → (Term.static "SpokeRing" (aySt i) "[I").eval args s none [] s = some (.ref t) ∧ va_T .int t (aySn.getD i 0) (fun j => .int ((ajCo.getD i []).getD j 0)) A s s.heap := by
    intro i
    by_cases hi : i < 6
    · obtain ⟨t, h1, h2⟩ := va_Tof (tm := .static "SpokeRing" (aySt i) "[I") (ty := .int) (N := aySn.getD i 0) (f := fun j => .int ((ajCo.getD i []).getD j 0)) (A := A) ((by decide : ∀ i < 6, aySn.getD i 0 < 2 ^ 31) i hi) (hs _ (ay_s1 i hi)) (va_eqt (hs _ (ay_s2 i hi))) (fun j hj => va_eqt (hs _ (ay_s3 i hi j hj))) hA
      exact ⟨t, fun _ => ⟨h1, h2⟩⟩
    · exact ⟨0, fun h => absurd h hi⟩
  obtain ⟨tA, hz⟩ := Classical.axiomOfChoice h
  exact ⟨tA, hz⟩
theorem ay_texts (hs : ∀ w ∈ ayF, w.before args s = true) (hA : ∀ a : Nat, a < s.heap.size → ¬ A a) : ∃ adK adV : Nat → Nat, vk_S 6 ayKn ayB adK adV A s s.heap ∧ ∀ i : Nat, i < 6 → (ayTm i).eval args s none [] s = some (.ref (adK i)) :=
  vk_Sof (N := 6) (tm := ayTm) (len := ayKn) (byt := ayB) (by decide) (fun i hi => hs _ (ay_k1 i hi)) (fun i hi => hs _ (ay_k2 i hi)) (fun i hi => hs _ (ay_k3 i hi)) (fun i hi => hs _ (ay_k4 i hi)) (fun i hi j hj => hs _ (ay_k5 i hi j hj)) (fun i j hi hj hij => (ay_k6 i hi j hj hij).imp (hs _) (hs _)) hA
theorem ay_nest {w : Cond} (hn : ajNest w = true) (h : w.before args s = true) : va_Nw w s := by
  cases w <;> first | (cases hn; done) | exact va_tabs rfl rfl h
end AYE
theorem ay_om0 {z k : Nat} (h5 : k ≤ z) (h6 : z < k + 6) : z - k < 6 := by omega
theorem ay_om1 {a : Nat} (h5 : 30 ≤ a - 1000) (h6 : a - 1000 < 36) : a - 1030 < 6 := by
  have h := ay_om0 (k := 30) h5 h6
  rw [Nat.sub_sub] at h
  exact h
theorem ay_om2 {a : Nat} (h5 : 10 ≤ a - 1000) (h6 : a - 1000 < 16) : a - 1010 < 6 := by
  have h := ay_om0 (k := 10) h5 h6
  rw [Nat.sub_sub] at h
  exact h
/-- the bundle, at the start -/
theorem ay_env {s : State} {b L : Nat} {xs : Nat → Int32} (hts : ∀ w ∈ lw_tbl, w.before #[Value.ref b] s = true) (hX : va_X b L xs s s.heap) (hbl : b < s.heap.size) (hgv : (Jvm.Cond.and given_1 narrow_1).before #[Value.ref b] s = true) :
    ∃ (D : va_G) (dA : Nat → ClassId) (cst : Nat → Value), ajCst cst ∧ cst 1100 = .ref b ∧ ajEnv (s.heap.size - 1) D dA cst xs L s s.heap := by
  have hs : ∀ w ∈ ayF, w.before #[Value.ref b] s = true := flat_of_before _ hgv
  have hg : ∀ w ∈ ajGw, w.before #[Value.ref b] s = true := fun w hw => hts w (List.mem_filter.mp hw).1
  have hA : ∀ a : Nat, a < s.heap.size → ¬ ajA (s.heap.size - 1) a := fun a ha h => by
    have h : s.heap.size - 1 < a := h
    omega
  obtain ⟨D, hD⟩ := ay_K hg
  obtain ⟨dA, hdA⟩ := ay_dA hts
  obtain ⟨tA, htA⟩ := ay_stat hs hA
  obtain ⟨adK, adV, hk, hkt⟩ := ay_texts hs hA
  obtain ⟨v60, hv60, hr60⟩ := ay_isRef (hs (.isRef (.static "jdk/internal/util/Preconditions" "SIOOBE_FORMATTER" "Ljava/util/function/BiFunction;")) (by decide +kernel))
  have i1 := hg _ (ajGwK 89 (w := .initialized "SpokeRing") (by decide +kernel) (by decide +kernel))
  have i2 := hg _ (ajGwK 93 (w := .initialized "java/lang/String") (by decide +kernel) (by decide +kernel))
  have i3 := hg _ (ajGwK 105 (w := .initialized "jdk/internal/util/Preconditions") (by decide +kernel) (by decide +kernel))
  have i4 := hg _ (ajGwK 107 (w := .initialized "java/lang/Throwable") (by decide +kernel) (by decide +kernel))
  refine ⟨D, dA, ayC tA adK adV v60 b, ayC_cst hr60, ayC_b, ⟨hD, hdA⟩, ?_, ?_, ?_, ?_, ?_, ?_, ?_, ?_, ?_⟩
  · have st : ∀ i < 6, va_Z "SpokeRing" (aySt i) "[I" (ajCz (s.heap.size - 1) (ayC tA adK adV v60 b) (.ref (1000 + i))) (ajA (s.heap.size - 1)) s s.heap := fun i hi => by
      rw [ajCz_con (by omega), ayC_t hi]
      exact va_Zof (hts _ (ay_t1 i hi)) i1 (htA i hi).1 hA
    intro q hq
    unfold ajStat at hq
    simp only [List.mem_cons, List.not_mem_nil, or_false] at hq
    rcases hq with rfl | rfl | rfl | rfl | rfl | rfl | rfl | rfl
    · exact st 0 (by omega)
    · exact st 1 (by omega)
    · exact st 2 (by omega)
    · exact st 3 (by omega)
    · exact st 4 (by omega)
    · exact st 5 (by omega)
    · exact va_Zof (hts _ (List.mem_of_getElem? (i := 200) (by decide +kernel))) i2 (va_eqt (hs _ (by decide +kernel))) hA
    · dsimp only
      rw [ajCz_con (by omega), ayC_60]
      exact va_Zof (hts _ (List.mem_of_getElem? (i := 555) (by decide +kernel))) i3 hv60 hA
  · intro a ha h1
    obtain ⟨e, hl⟩ := ay_shE ha (by omega)
    rw [e] at h1
    rcases ay_sh100 _ hl h1 with ⟨h6, h7⟩ | h6
    · refine ⟨tA (a - 1000), ?_, ?_⟩
      · have := ayC_t (tA := tA) (adK := adK) (adV := adV) (v60 := v60) (b := b) h6
        rw [show 1000 + (a - 1000) = a by omega] at this
        exact this
      · have z := (htA _ h6).2
        have e1 : ajLc L a = aySn.getD (a - 1000) 0 := by
          unfold ajLc
          rw [if_neg (by omega), e]
          exact h7
        have e2 : (fun j => Value.int (ajCI xs a j)) = fun j => Value.int ((ajCo.getD (a - 1000) []).getD j 0) := by
          funext j
          unfold ajCI
          rw [if_neg (by omega)]
        rw [e1, e2]
        exact z
    · have ea : a = 1100 := by omega
      subst ea
      refine ⟨b, ayC_b, ?_⟩
      obtain ⟨scr, x1, x2, x3, x4, x5⟩ := hX
      refine ⟨scr, x1, x2, x3, ?_, ?_, fun j hj => ?_, hA b hbl⟩
      · show ajLc L 1100 ≤ scr.slots.size
        unfold ajLc
        rw [if_pos rfl, x4]
        exact Nat.le_refl _
      · show scr.slots.size.toInt32 = Int32.ofNat (ajLc L 1100)
        unfold ajLc
        rw [if_pos rfl, x4]
      · unfold ajLc at hj
        rw [if_pos rfl] at hj
        show scr.slots[j]? = some (.int (ajCI xs 1100 j))
        unfold ajCI
        rw [if_pos rfl]
        exact x5 j hj
  · intro a ha h1
    obtain ⟨e, hl⟩ := ay_shE ha (by omega)
    rw [e] at h1
    obtain ⟨h5, h6, h7⟩ := ay_sh101 _ hl h1
    have h8 : a - 1030 < 6 := ay_om1 h5 h6
    refine ⟨adV (a - 1030), ?_, ?_⟩
    · have := ayC_v (tA := tA) (adK := adK) (adV := adV) (v60 := v60) (b := b) h8
      rw [show 1030 + (a - 1030) = a by omega] at this
      exact this
    · have z := (hk.1 _ h8).2.2.2
      have e1 : ajLc L a = ayKn.getD (a - 1030) 0 := by
        unfold ajLc
        rw [if_neg (by omega), e, h7]
        rw [show a - 1000 - 30 = a - 1030 by omega]
      have e2 : (fun j => Value.int (ajCI xs a j)) = fun j => Value.int ((ayB.getD (a - 1030) []).getD j 0) := by
        funext j
        unfold ajCI
        rw [if_neg (by omega), ← ay_b _ h8, show 30 + (a - 1030) = a - 1000 by omega]
      rw [e1, e2]
      exact z
  · intro a ha h1
    obtain ⟨e, hl⟩ := ay_shE ha (by omega)
    rw [e] at h1
    obtain ⟨h5, h6⟩ := ay_sh50 _ hl h1
    have h8 : a - 1010 < 6 := ay_om2 h5 h6
    obtain ⟨z1, z2, z3, -⟩ := hk.1 _ h8
    refine ⟨adK (a - 1010), ?_, z1, z2, ?_⟩
    · have := ayC_k (tA := tA) (adK := adK) (adV := adV) (v60 := v60) (b := b) h8
      rw [show 1010 + (a - 1010) = a by omega] at this
      exact this
    · have := ayC_v (tA := tA) (adK := adK) (adV := adV) (v60 := v60) (b := b) h8
      rw [show 1030 + (a - 1010) = a + 20 by omega] at this
      rw [this]
      exact z3
  · intro q hq
    obtain ⟨h1, h2, h3, h4⟩ := ay_k7 q hq
    have h8 : q.2.2.2 - 1010 < 6 := by omega
    refine ⟨adK (q.2.2.2 - 1010), ?_, vk_R.of (hts _ h1) ?_⟩
    · have := ayC_k (tA := tA) (adK := adK) (adV := adV) (v60 := v60) (b := b) h8
      rw [show 1010 + (q.2.2.2 - 1010) = q.2.2.2 by omega] at this
      exact this
    · rcases h4 with h4 | h4
      · rw [h4]
        exact hkt _ h8
      · exact ay_eqr (hs _ h4) (hkt _ h8)
  · intro w hw
    obtain ⟨h1, h2⟩ := List.mem_filter.mp hw
    exact ay_nest h2 (hts w h1)
  · intro k h1 h2
    rcases (show k = 103 ∨ k = 104 ∨ k = 105 by omega) with rfl | rfl | rfl
    · exact va_AO.of (hts _ (List.mem_of_getElem? (i := 324) (by decide +kernel)))
    · exact va_AO.of (hts _ (List.mem_of_getElem? (i := 182) (by decide +kernel)))
    · exact va_AO.of (hts _ (List.mem_of_getElem? (i := 184) (by decide +kernel)))
  · exact vx_Zqof (hts _ (List.mem_of_getElem? (i := 1148) (by decide +kernel))) i4 (hs _ (by decide +kernel)) hA
  · exact vx_Zqof (hts _ (List.mem_of_getElem? (i := 1150) (by decide +kernel))) i4 (hs _ (by decide +kernel)) hA
