/-! One step of the abstract machine is a step of the machine. -/
theorem ajIld_some {pc i : Nat} {ps st : List Value} {h : ajH} {q : Nat × List Value × List Value × ajH} (hs : ajIld pc i ps st h = some q) : ∃ x, ps.getD i ajU = .int x ∧ q = (pc, ps, .int x :: st, h) := by
  unfold ajIld at hs
  split at hs
  · rename_i x hx; exact ⟨x, hx, (Option.some.inj hs).symm⟩
  · cases hs
theorem ajLld_some {pc i : Nat} {ps st : List Value} {h : ajH} {q : Nat × List Value × List Value × ajH} (hs : ajLld pc i ps st h = some q) : ∃ x, ps.getD i ajU = .long x ∧ q = (pc, ps, .long x :: st, h) := by
  unfold ajLld at hs
  split at hs
  · rename_i x hx; exact ⟨x, hx, (Option.some.inj hs).symm⟩
  · cases hs
theorem ajAld_some {pc i : Nat} {ps st : List Value} {h : ajH} {q : Nat × List Value × List Value × ajH} (hs : ajAld pc i ps st h = some q) : ∃ x, ps.getD i ajU = .ref x ∧ q = (pc, ps, .ref x :: st, h) := by
  unfold ajAld at hs
  split at hs
  · rename_i x hx; exact ⟨x, hx, (Option.some.inj hs).symm⟩
  · cases hs
theorem ajInc_some {pc i : Nat} {n : Int32} {ps st : List Value} {h : ajH} {q : Nat × List Value × List Value × ajH} (hs : ajInc pc i n ps st h = some q) : ∃ x, ps.getD i ajU = .int x ∧ q = (pc, ajPut ps i (.int (x + n)), st, h) := by
  unfold ajInc at hs
  split at hs
  · rename_i x hx; exact ⟨x, hx, (Option.some.inj hs).symm⟩
  · cases hs

theorem ajIst_some {pc : Nat} {i : Nat} {ps st : List Value} {h : ajH} {q : Nat × List Value × List Value × ajH} (hs : ajIst pc i ps st h = some q) : ∃ (x : Int32) (r : List Value), st = .int x :: r ∧ q = (pc, ajPut ps i (.int x), r, h) := by
  unfold ajIst at hs
  split at hs
  · exact ⟨_, _, rfl, (Option.some.inj hs).symm⟩
  · cases hs
theorem ajLst_some {pc : Nat} {i : Nat} {ps st : List Value} {h : ajH} {q : Nat × List Value × List Value × ajH} (hs : ajLst pc i ps st h = some q) : ∃ (x : Int64) (r : List Value), st = .long x :: r ∧ q = (pc, ajPut2 ps i (.long x), r, h) := by
  unfold ajLst at hs
  split at hs
  · exact ⟨_, _, rfl, (Option.some.inj hs).symm⟩
  · cases hs
theorem ajAst_some {pc : Nat} {i : Nat} {ps st : List Value} {h : ajH} {q : Nat × List Value × List Value × ajH} (hs : ajAst pc i ps st h = some q) : ∃ (x : Nat) (r : List Value), st = .ref x :: r ∧ q = (pc, ajPut ps i (.ref x), r, h) := by
  unfold ajAst at hs
  split at hs
  · exact ⟨_, _, rfl, (Option.some.inj hs).symm⟩
  · cases hs
theorem ajII_some {pc : Nat} {f : Int32 → Int32 → Int32} {ps st : List Value} {h : ajH} {q : Nat × List Value × List Value × ajH} (hs : ajII pc ps st h f = some q) : ∃ (x : Int32) (y : Int32) (r : List Value), st = .int y :: .int x :: r ∧ q = (pc, ps, .int (f x y) :: r, h) := by
  unfold ajII at hs
  split at hs
  · exact ⟨_, _, _, rfl, (Option.some.inj hs).symm⟩
  · cases hs
theorem ajDD_some {pc : Nat} {f : Int32 → Int32 → Int32} {ps st : List Value} {h : ajH} {q : Nat × List Value × List Value × ajH} (hs : ajDD pc ps st h f = some q) : ∃ (x : Int32) (y : Int32) (r : List Value), st = .int y :: .int x :: r ∧ q = (pc, ps, .int (f x y) :: r, h) ∧ ¬ y = 0 := by
  unfold ajDD at hs
  split at hs
  · split at hs
    · cases hs
    · rename_i hc; exact ⟨_, _, _, rfl, (Option.some.inj hs).symm, hc⟩
  · cases hs
theorem ajLL_some {pc : Nat} {f : Int64 → Int64 → Int64} {ps st : List Value} {h : ajH} {q : Nat × List Value × List Value × ajH} (hs : ajLL pc ps st h f = some q) : ∃ (x : Int64) (y : Int64) (r : List Value), st = .long y :: .long x :: r ∧ q = (pc, ps, .long (f x y) :: r, h) := by
  unfold ajLL at hs
  split at hs
  · exact ⟨_, _, _, rfl, (Option.some.inj hs).symm⟩
  · cases hs
theorem ajLD_some {pc : Nat} {f : Int64 → Int64 → Int64} {ps st : List Value} {h : ajH} {q : Nat × List Value × List Value × ajH} (hs : ajLD pc ps st h f = some q) : ∃ (x : Int64) (y : Int64) (r : List Value), st = .long y :: .long x :: r ∧ q = (pc, ps, .long (f x y) :: r, h) ∧ ¬ y = 0 := by
  unfold ajLD at hs
  split at hs
  · split at hs
    · cases hs
    · rename_i hc; exact ⟨_, _, _, rfl, (Option.some.inj hs).symm, hc⟩
  · cases hs
theorem ajLS_some {pc : Nat} {f : Int64 → Int32 → Int64} {ps st : List Value} {h : ajH} {q : Nat × List Value × List Value × ajH} (hs : ajLS pc ps st h f = some q) : ∃ (x : Int64) (y : Int32) (r : List Value), st = .int y :: .long x :: r ∧ q = (pc, ps, .long (f x y) :: r, h) := by
  unfold ajLS at hs
  split at hs
  · exact ⟨_, _, _, rfl, (Option.some.inj hs).symm⟩
  · cases hs
theorem ajUU_some {pc : Nat} {f : Int32 → Value} {ps st : List Value} {h : ajH} {q : Nat × List Value × List Value × ajH} (hs : ajUU pc ps st h f = some q) : ∃ (x : Int32) (r : List Value), st = .int x :: r ∧ q = (pc, ps, f x :: r, h) := by
  unfold ajUU at hs
  split at hs
  · exact ⟨_, _, rfl, (Option.some.inj hs).symm⟩
  · cases hs
theorem ajL2I_some {pc : Nat} {ps st : List Value} {h : ajH} {q : Nat × List Value × List Value × ajH} (hs : ajL2I pc ps st h = some q) : ∃ (x : Int64) (r : List Value), st = .long x :: r ∧ q = (pc, ps, .int x.toInt32 :: r, h) := by
  unfold ajL2I at hs
  split at hs
  · exact ⟨_, _, rfl, (Option.some.inj hs).symm⟩
  · cases hs
theorem ajCmpL_some {pc : Nat} {ps st : List Value} {h : ajH} {q : Nat × List Value × List Value × ajH} (hs : ajCmpL pc ps st h = some q) : ∃ (x : Int64) (y : Int64) (r : List Value), st = .long y :: .long x :: r ∧ q = (pc, ps, .int (lg_cmp x y) :: r, h) := by
  unfold ajCmpL at hs
  split at hs
  · exact ⟨_, _, _, rfl, (Option.some.inj hs).symm⟩
  · cases hs
theorem ajGet_some {pc : Nat} {a : Nat} {k : Nat} {t : Nat} {ps st : List Value} {h : ajH} {q : Nat × List Value × List Value × ajH} (hs : ajGet pc a k t ps st h = some q) : ∃ (x : Nat) (r : List Value), st = .ref x :: r ∧ q = (pc, ps, ajFv h x k t :: r, h) ∧ ajOK h x a := by
  unfold ajGet at hs
  split at hs
  · split at hs
    · rename_i hc; exact ⟨_, _, rfl, (Option.some.inj hs).symm, hc⟩
    · cases hs
  · cases hs
theorem ajAL_some {pc : Nat} {kd : Nat} {ps st : List Value} {h : ajH} {q : Nat × List Value × List Value × ajH} (hs : ajAL pc kd ps st h = some q) : ∃ (i : Int32) (x : Nat) (r : List Value), st = .int i :: .ref x :: r ∧ q = (pc, ps, (if kd = 102 then .long (ajL h x i.toNatClampNeg) else .int (ajI h x i.toNatClampNeg)) :: r, h) ∧ (ajOK h x kd ∧ ajIn i (ajLen h x)) := by
  unfold ajAL at hs
  split at hs
  · split at hs
    · rename_i hc; exact ⟨_, _, _, rfl, (Option.some.inj hs).symm, hc⟩
    · cases hs
  · cases hs
theorem ajALq_some {pc : Nat} {ps st : List Value} {h : ajH} {q : Nat × List Value × List Value × ajH} (hs : ajALq pc ps st h = some q) : ∃ (i : Int32) (x : Nat) (r : List Value), st = .int i :: .ref x :: r ∧ q = (pc, ps, .ref (ajR h x i.toNatClampNeg) :: r, h) ∧ ((x < ajN h ∧ 103 ≤ (ajSh x).1 ∧ (ajSh x).1 < 106) ∧ ajIn i (ajLen h x)) := by
  unfold ajALq at hs
  split at hs
  · split at hs
    · rename_i hc; exact ⟨_, _, _, rfl, (Option.some.inj hs).symm, hc⟩
    · cases hs
  · cases hs
theorem ajAS_some {pc : Nat} {kd : Nat} {ps st : List Value} {h : ajH} {q : Nat × List Value × List Value × ajH} (hs : ajAS pc kd ps st h = some q) : ∃ (y : Int32) (i : Int32) (x : Nat) (r : List Value), st = .int y :: .int i :: .ref x :: r ∧ q = (pc, ps, r, ajSI h x i.toNatClampNeg (if kd = 101 then vp_nar .byte y else y)) ∧ (ajOW h x kd ∧ ajIn i (ajLen h x)) := by
  unfold ajAS at hs
  split at hs
  · split at hs
    · rename_i hc; exact ⟨_, _, _, _, rfl, (Option.some.inj hs).symm, hc⟩
    · cases hs
  · cases hs
theorem ajASl_some {pc : Nat} {ps st : List Value} {h : ajH} {q : Nat × List Value × List Value × ajH} (hs : ajASl pc ps st h = some q) : ∃ (y : Int64) (i : Int32) (x : Nat) (r : List Value), st = .long y :: .int i :: .ref x :: r ∧ q = (pc, ps, r, ajSL h x i.toNatClampNeg y) ∧ (ajOW h x 102 ∧ ajIn i (ajLen h x)) := by
  unfold ajASl at hs
  split at hs
  · split at hs
    · rename_i hc; exact ⟨_, _, _, _, rfl, (Option.some.inj hs).symm, hc⟩
    · cases hs
  · cases hs
theorem ajASq_some {pc : Nat} {ps st : List Value} {h : ajH} {q : Nat × List Value × List Value × ajH} (hs : ajASq pc ps st h = some q) : ∃ (v : Nat) (i : Int32) (x : Nat) (r : List Value), st = .ref v :: .int i :: .ref x :: r ∧ q = (pc, ps, r, ajSR h x i.toNatClampNeg v) ∧ ((x < ajN h ∧ 103 ≤ (ajSh x).1 ∧ (ajSh x).1 < 106) ∧ ajIn i (ajLen h x) ∧ ajOW h v (ajEl (ajSh x).1)) := by
  unfold ajASq at hs
  split at hs
  · split at hs
    · rename_i hc; exact ⟨_, _, _, _, rfl, (Option.some.inj hs).symm, hc⟩
    · cases hs
  · cases hs
theorem ajALen_some {pc : Nat} {ps st : List Value} {h : ajH} {q : Nat × List Value × List Value × ajH} (hs : ajALen pc ps st h = some q) : ∃ (x : Nat) (r : List Value), st = .ref x :: r ∧ q = (pc, ps, .int (Int32.ofNat (ajLen h x)) :: r, h) ∧ ((x < ajN h ∨ 1000 ≤ x) ∧ 100 ≤ (ajSh x).1 ∧ (ajSh x).1 < 106) := by
  unfold ajALen at hs
  split at hs
  · split at hs
    · rename_i hc; exact ⟨_, _, rfl, (Option.some.inj hs).symm, hc⟩
    · cases hs
  · cases hs
theorem ajNewA_some {pc : Nat} {a : Nat} {ps st : List Value} {h : ajH} {q : Nat × List Value × List Value × ajH} (hs : ajNewA pc a ps st h = some q) : ∃ (x : Int32) (r : List Value), st = .int x :: r ∧ q = (pc, ps, .ref (ajN h) :: r, ajAl h x.toNatClampNeg) ∧ (¬ x < 0 ∧ ajX h = 0 ∧ ajN h < 999 ∧ ajSh (ajN h) = (a, x.toNatClampNeg) ∧ x.toNatClampNeg ≤ 10000) := by
  unfold ajNewA at hs
  split at hs
  · split at hs
    · rename_i hc; exact ⟨_, _, rfl, (Option.some.inj hs).symm, hc⟩
    · cases hs
  · cases hs
theorem ajBr_some {pc tgt : Nat} {f : Int32 → Bool} {ps st : List Value} {h : ajH} {q : Nat × List Value × List Value × ajH} (hs : ajBr pc tgt ps st h f = some q) : ∃ (x : Int32) (r : List Value), st = .int x :: r ∧ ((f x = true ∧ q = (tgt, ps, r, h)) ∨ (¬ f x = true ∧ q = (pc, ps, r, h))) := by
  unfold ajBr at hs
  split at hs
  · split at hs
    · rename_i hc; exact ⟨_, _, rfl, Or.inl ⟨hc, (Option.some.inj hs).symm⟩⟩
    · rename_i hc; exact ⟨_, _, rfl, Or.inr ⟨hc, (Option.some.inj hs).symm⟩⟩
  · cases hs
theorem ajBr2_some {pc tgt : Nat} {f : Int32 → Int32 → Bool} {ps st : List Value} {h : ajH} {q : Nat × List Value × List Value × ajH} (hs : ajBr2 pc tgt ps st h f = some q) : ∃ (x y : Int32) (r : List Value), st = .int y :: .int x :: r ∧ ((f x y = true ∧ q = (tgt, ps, r, h)) ∨ (¬ f x y = true ∧ q = (pc, ps, r, h))) := by
  unfold ajBr2 at hs
  split at hs
  · split at hs
    · rename_i hc; exact ⟨_, _, _, rfl, Or.inl ⟨hc, (Option.some.inj hs).symm⟩⟩
    · rename_i hc; exact ⟨_, _, _, rfl, Or.inr ⟨hc, (Option.some.inj hs).symm⟩⟩
  · cases hs
theorem ajNul_some {pc tgt : Nat} {ps st : List Value} {h : ajH} {q : Nat × List Value × List Value × ajH} (hs : ajNul pc tgt ps st h = some q) : ∃ (x : Nat) (r : List Value), st = .ref x :: r ∧ ((x = 0 ∧ q = (tgt, ps, r, h)) ∨ ((¬ x = 0 ∧ x < 1000) ∧ q = (pc, ps, r, h))) := by
  unfold ajNul at hs
  split at hs
  · split at hs
    · rename_i hc; exact ⟨_, _, rfl, Or.inl ⟨hc, (Option.some.inj hs).symm⟩⟩
    · split at hs
      · rename_i hc hd; exact ⟨_, _, rfl, Or.inr ⟨⟨hc, hd⟩, (Option.some.inj hs).symm⟩⟩
      · cases hs
  · cases hs
theorem ajDup_some {pc : Nat} {ps st : List Value} {h : ajH} {q : Nat × List Value × List Value × ajH} (hs : ajDup pc ps st h = some q) : ∃ (v : Value) (r : List Value), st = v :: r ∧ v.category = 1 ∧ q = (pc, ps, v :: v :: r, h) := by
  unfold ajDup at hs
  split at hs
  · exact ⟨_, _, rfl, rfl, (Option.some.inj hs).symm⟩
  · exact ⟨_, _, rfl, rfl, (Option.some.inj hs).symm⟩
  · cases hs
theorem ajDup2_some {pc : Nat} {ps st : List Value} {h : ajH} {q : Nat × List Value × List Value × ajH} (hs : ajDup2 pc ps st h = some q) : ∃ (v w : Value) (r : List Value), st = v :: w :: r ∧ v.category = 1 ∧ w.category = 1 ∧ q = (pc, ps, v :: w :: v :: w :: r, h) := by
  unfold ajDup2 at hs
  split at hs
  · exact ⟨_, _, _, rfl, rfl, rfl, (Option.some.inj hs).symm⟩
  · exact ⟨_, _, _, rfl, rfl, rfl, (Option.some.inj hs).symm⟩
  · cases hs
theorem ajPop_some {pc : Nat} {ps st : List Value} {h : ajH} {q : Nat × List Value × List Value × ajH} (hs : ajPop pc ps st h = some q) : ∃ (v : Value) (r : List Value), st = v :: r ∧ v.category = 1 ∧ q = (pc, ps, r, h) := by
  unfold ajPop at hs
  split at hs
  · exact ⟨_, _, rfl, rfl, (Option.some.inj hs).symm⟩
  · exact ⟨_, _, rfl, rfl, (Option.some.inj hs).symm⟩
  · cases hs
theorem ajTsw_some {ts : List Nat} {lo hi : Int} {ps st : List Value} {h : ajH} {q : Nat × List Value × List Value × ajH} (hs : ajTsw ts lo hi ps st h = some q) : ∃ (x : Int32) (r : List Value), st = .int x :: r ∧ q = (ajSw ts lo hi x, ps, r, h) := by
  unfold ajTsw at hs
  split at hs
  · exact ⟨_, _, rfl, (Option.some.inj hs).symm⟩
  · cases hs
theorem ajNew_some {pc a n : Nat} {ps st : List Value} {h : ajH} {q : Nat × List Value × List Value × ajH} (hs : ajNew pc a n ps st h = some q) : q = (pc, ps, .ref (ajN h) :: st, ajAl h n) ∧ ajX h = 0 ∧ ajN h < 999 ∧ ajSh (ajN h) = (a, n) := by
  unfold ajNew at hs
  split at hs
  · rename_i hc; exact ⟨(Option.some.inj hs).symm, hc⟩
  · cases hs
theorem ajSet_some {pc a k t : Nat} {ps st : List Value} {h : ajH} {q : Nat × List Value × List Value × ajH} (hs : ajSet pc a k t ps st h = some q) : ∃ (v : Value) (o : Nat) (r : List Value), st = v :: .ref o :: r ∧ ajOW h o a ∧ ((t = 0 ∧ ∃ x, v = .int x ∧ q = (pc, ps, r, ajSI h o k x)) ∨ (t = 3 ∧ ∃ x, (x = 0 ∨ x = 1) ∧ v = .int x ∧ q = (pc, ps, r, ajSI h o k x)) ∨ (t = 1 ∧ ∃ x, v = .long x ∧ q = (pc, ps, r, ajSL h o k x)) ∨ (t = 2 ∧ ∃ x, v = .ref x ∧ q = (pc, ps, r, ajSR h o k x))) := by
  unfold ajSet at hs
  split at hs
  · split at hs
    · rename_i hc; exact ⟨_, _, _, rfl, hc, Or.inl ⟨rfl, _, rfl, (Option.some.inj hs).symm⟩⟩
    · cases hs
  · split at hs
    · rename_i hc; exact ⟨_, _, _, rfl, hc.1, Or.inr (Or.inl ⟨rfl, _, hc.2, rfl, (Option.some.inj hs).symm⟩)⟩
    · cases hs
  · split at hs
    · rename_i hc; exact ⟨_, _, _, rfl, hc, Or.inr (Or.inr (Or.inl ⟨rfl, _, rfl, (Option.some.inj hs).symm⟩))⟩
    · cases hs
  · split at hs
    · rename_i hc; exact ⟨_, _, _, rfl, hc, Or.inr (Or.inr (Or.inr ⟨rfl, _, rfl, (Option.some.inj hs).symm⟩))⟩
    · cases hs
  · cases hs
section AJS
variable {p : Program} {l : Launch} {e : Env} {R : Room} {s : State} {m : MethodId} {args : Array Value} {below : List Frame} {meth : Method} {c : Code} {H : Heap} {locs : List Loc} {cells slots : Nat} {Q : State → Prop}
variable {pc : Nat} {ls : Array Slot} {base : Nat} {D : va_G} {dA : Nat → ClassId} {cst : Nat → Value} {xs : Nat → Int32} {L mi : Nat} {h : ajH} {ps st : List Value} {en : ajE} {q : Nat × List Value × List Value × ajH}
/-- what a step owes: the walk goes on where the abstract machine stands then -/
def ajOn (p : Program) (l : Launch) (e : Env) (R : Room) (s : State) (m : MethodId) (args : Array Value) (below : List Frame) (meth : Method) (c : Code) (Q : State → Prop) (base : Nat) (D : va_G) (dA : Nat → ClassId) (cst : Nat → Value) (xs : Nat → Int32) (L mi cells slots : Nat) (h : ajH) (q : Nat × List Value × List Value × ajH) : Prop :=
  ∀ (H1 : Heap) (locs1 : List Loc) (ls1 : Array Slot) (cells1 slots1 : Nat), ajDyn base D dA cst xs L s q.2.2.2 H1 locs1 cells1 → ajLv base cst ls1 (ajMx mi) q.2.1 → cells1 + ajCt h = cells + ajCt q.2.2.2 → slots1 + ajW h = slots + ajW q.2.2.2 →
    W p l e R s m args below meth c H1 locs1 cells1 slots1 Q (F0 m q.1 ls1 (q.2.2.1.map (ajCz base cst)))

set_option maxHeartbeats 4000000 in
theorem ajW_step (C0 : ajCtx base D dA cst xs L mi p R s m args meth c) (Y : ajDyn base D dA cst xs L s h H locs cells) (hl : ajLv base cst ls (ajMx mi) ps) (hck : ajChk mi pc en = true) (hs : ajStep en pc ps st h = some q) (hrc : cells + ajCt q.2.2.2 ≤ R.cells + ajCt h) (hrs : slots + ajW q.2.2.2 ≤ R.slots + ajW h)
    (kk : ajOn p l e R s m args below meth c Q base D dA cst xs L mi cells slots h q) : W p l e R s m args below meth c H locs cells slots Q (F0 m pc ls (st.map (ajCz base cst))) := by
  obtain ⟨ins, len, a, b, t, z, ts⟩ := en
  have C1 := C0
  obtain ⟨hx, hb, hml, hown, hts, hnm, hE, hcst, hbl, -, -⟩ := C1
  unfold ajChk at hck
  rw [Bool.and_eq_true, decide_eq_true_eq] at hck
  obtain ⟨hd, hck⟩ := hck
  dsimp only at hd hck
  unfold ajStep at hs
  dsimp only at hs
  have same : ∀ (ls1 : Array Slot), q.2.2.2 = h → ajLv base cst ls1 (ajMx mi) q.2.1 → W p l e R s m args below meth c H locs cells slots Q (F0 m q.1 ls1 (q.2.2.1.map (ajCz base cst))) := fun ls1 e1 e2 => kk H locs ls1 cells slots (by rw [e1]; exact Y) e2 (by rw [e1]) (by rw [e1])
  cases ins with
  | aconst_null =>
    have hlen : len = 1 := by simpa only [Nat.beq_eq, Bool.and_eq_true] using hck
    subst hlen
    cases hs
    exact lv_null hx hb hd (same ls rfl hl)
  | iload i =>
    have hlen : len = 2 := by simpa only [Nat.beq_eq, Bool.and_eq_true] using hck
    subst hlen
    obtain ⟨x, hv, rfl⟩ := ajIld_some hs
    exact lv_iload hx hb hd (ajLv_at hl hv trivial) (same ls rfl hl)
  | iload_n i =>
    have hlen : len = 1 := by simpa only [Nat.beq_eq, Bool.and_eq_true] using hck
    subst hlen
    obtain ⟨x, hv, rfl⟩ := ajIld_some hs
    exact lv_iload_n hx hb hd rfl (ajLv_at hl hv trivial) (same ls rfl hl)
  | lload i =>
    have hlen : len = 2 := by simpa only [Nat.beq_eq, Bool.and_eq_true] using hck
    subst hlen
    obtain ⟨x, hv, rfl⟩ := ajLld_some hs
    exact lv_lload hx hb hd (ajLv_at hl hv trivial) (same ls rfl hl)
  | lload_n i =>
    have hlen : len = 1 := by simpa only [Nat.beq_eq, Bool.and_eq_true] using hck
    subst hlen
    obtain ⟨x, hv, rfl⟩ := ajLld_some hs
    exact lv_lload_n hx hb hd rfl (ajLv_at hl hv trivial) (same ls rfl hl)
  | aload i =>
    have hlen : len = 2 := by simpa only [Nat.beq_eq, Bool.and_eq_true] using hck
    subst hlen
    obtain ⟨x, hv, rfl⟩ := ajAld_some hs
    have h1 := ajLv_at hl hv trivial
    have h2 := same ls rfl hl
    rcases ajCz_ref base hcst x with h3 | ⟨tt, h3⟩
    · rw [h3] at h1
      refine lv_aloadN hx hb hd h1 ?_
      have h4 : W p l e R s m args below meth c H locs cells slots Q (F0 m _ ls (ajCz base cst (.ref x) :: st.map (ajCz base cst))) := h2
      rw [h3] at h4
      exact h4
    · rw [h3] at h1
      refine lv_aload hx hb hd h1 ?_
      have h4 : W p l e R s m args below meth c H locs cells slots Q (F0 m _ ls (ajCz base cst (.ref x) :: st.map (ajCz base cst))) := h2
      rw [h3] at h4
      exact h4
  | aload_n i =>
    have hlen : len = 1 := by simpa only [Nat.beq_eq, Bool.and_eq_true] using hck
    subst hlen
    obtain ⟨x, hv, rfl⟩ := ajAld_some hs
    have h1 := ajLv_at hl hv trivial
    have h2 := same ls rfl hl
    rcases ajCz_ref base hcst x with h3 | ⟨tt, h3⟩
    · rw [h3] at h1
      refine lv_aload_nN hx hb hd rfl h1 ?_
      have h4 : W p l e R s m args below meth c H locs cells slots Q (F0 m _ ls (ajCz base cst (.ref x) :: st.map (ajCz base cst))) := h2
      rw [h3] at h4
      exact h4
    · rw [h3] at h1
      refine lv_aload_n hx hb hd rfl h1 ?_
      have h4 : W p l e R s m args below meth c H locs cells slots Q (F0 m _ ls (ajCz base cst (.ref x) :: st.map (ajCz base cst))) := h2
      rw [h3] at h4
      exact h4
  | istore i =>
    rw [Bool.and_eq_true, Nat.beq_eq, Nat.blt_eq] at hck
    obtain ⟨hlen, hlt⟩ := hck
    subst hlen
    obtain ⟨x, r, rfl, rfl⟩ := ajIst_some hs
    refine lv_istore hx hb hd (ajLv_has hl) hlt rfl (fun ls1 h1 => ?_)
    exact same ls1 rfl (ajLv_put (v := .int x) hl h1 hcst)
  | istore_n i =>
    rw [Bool.and_eq_true, Nat.beq_eq, Nat.blt_eq] at hck
    obtain ⟨hlen, hlt⟩ := hck
    subst hlen
    obtain ⟨x, r, rfl, rfl⟩ := ajIst_some hs
    refine lv_istore_n hx hb hd rfl (ajLv_has hl) hlt rfl (fun ls1 h1 => ?_)
    exact same ls1 rfl (ajLv_put (v := .int x) hl h1 hcst)
  | lstore i =>
    rw [Bool.and_eq_true, Nat.beq_eq, Nat.blt_eq] at hck
    obtain ⟨hlen, hlt⟩ := hck
    subst hlen
    obtain ⟨x, r, rfl, rfl⟩ := ajLst_some hs
    refine lv_lstore hx hb hd (ajLv_has hl) hlt rfl (fun ls1 h1 => ?_)
    exact same ls1 rfl (ajLv_put2 (v := .long x) hl h1 hcst)
  | lstore_n i =>
    rw [Bool.and_eq_true, Nat.beq_eq, Nat.blt_eq] at hck
    obtain ⟨hlen, hlt⟩ := hck
    subst hlen
    obtain ⟨x, r, rfl, rfl⟩ := ajLst_some hs
    refine lv_lstore_n hx hb hd rfl (ajLv_has hl) hlt rfl (fun ls1 h1 => ?_)
    exact same ls1 rfl (ajLv_put2 (v := .long x) hl h1 hcst)
  | astore i =>
    rw [Bool.and_eq_true, Nat.beq_eq, Nat.blt_eq] at hck
    obtain ⟨hlen, hlt⟩ := hck
    subst hlen
    obtain ⟨x, r, rfl, rfl⟩ := ajAst_some hs
    have h9 : ∀ ls1, lv_has ls1 (ajMx mi) (((_ : Nat), ajCz base cst (.ref x)) :: (ajLl base cst ps).filter (fun q => !(q.1 == _) && !(q.1 + 1 == _ && q.2.category == 2))) → _ := fun ls1 h1 => same ls1 rfl (ajLv_put (v := .ref x) hl h1 hcst)
    show W p l e R s m args below meth c H locs cells slots Q (F0 m pc ls (ajCz base cst (.ref x) :: r.map (ajCz base cst)))
    rcases ajCz_ref base hcst x with h3 | ⟨tt, h3⟩
    · rw [h3] at h9 ⊢
      exact lv_astoreN hx hb hd (ajLv_has hl) hlt rfl h9
    · rw [h3] at h9 ⊢
      exact lv_astore hx hb hd (ajLv_has hl) hlt rfl h9
  | astore_n i =>
    rw [Bool.and_eq_true, Nat.beq_eq, Nat.blt_eq] at hck
    obtain ⟨hlen, hlt⟩ := hck
    subst hlen
    obtain ⟨x, r, rfl, rfl⟩ := ajAst_some hs
    have h9 : ∀ ls1, lv_has ls1 (ajMx mi) (((_ : Nat), ajCz base cst (.ref x)) :: (ajLl base cst ps).filter (fun q => !(q.1 == _) && !(q.1 + 1 == _ && q.2.category == 2))) → _ := fun ls1 h1 => same ls1 rfl (ajLv_put (v := .ref x) hl h1 hcst)
    show W p l e R s m args below meth c H locs cells slots Q (F0 m pc ls (ajCz base cst (.ref x) :: r.map (ajCz base cst)))
    rcases ajCz_ref base hcst x with h3 | ⟨tt, h3⟩
    · rw [h3] at h9 ⊢
      exact lv_astore_nN hx hb hd rfl (ajLv_has hl) hlt rfl h9
    · rw [h3] at h9 ⊢
      exact lv_astore_n hx hb hd rfl (ajLv_has hl) hlt rfl h9
  | iinc i n =>
    rw [Bool.and_eq_true, Bool.and_eq_true, Nat.beq_eq, Nat.blt_eq, decide_eq_true_eq] at hck
    obtain ⟨hlen, hlt, hval⟩ := hck
    subst hlen
    obtain ⟨x, hv, rfl⟩ := ajInc_some hs
    have hi : i < ps.length := by rw [hl.2.2.1]; exact hlt
    have hm : (i, Value.int x) ∈ ajLl base cst ps := ajLl_mem.mpr ⟨.int x, by rw [List.getD_eq_getElem?_getD, List.getElem?_eq_getElem hi] at hv; rw [List.getElem?_eq_getElem hi]; exact congrArg some hv, trivial, rfl⟩
    obtain ⟨k, hk⟩ := List.getElem?_of_mem hm
    refine lv_iinc hx hb hd (ajLv_has hl) hk (by rw [hval]) hlt rfl (fun ls1 h1 => ?_)
    exact same ls1 rfl (ajLv_put (v := .int (x + ajCk b t)) hl h1 hcst)
  | iconst n =>
    dsimp only at hck
    rw [Bool.and_eq_true, Nat.beq_eq] at hck
    obtain ⟨hlen, hck⟩ := hck
    subst hlen
    cases hs
    exact lv_iconst hx hb hd (of_decide_eq_true hck) (same ls rfl hl)
  | bipush n =>
    dsimp only at hck
    rw [Bool.and_eq_true, Nat.beq_eq] at hck
    obtain ⟨hlen, hck⟩ := hck
    subst hlen
    cases hs
    exact lv_bipush hx hb hd (of_decide_eq_true hck) (same ls rfl hl)
  | sipush n =>
    dsimp only at hck
    rw [Bool.and_eq_true, Nat.beq_eq] at hck
    obtain ⟨hlen, hck⟩ := hck
    subst hlen
    cases hs
    exact lv_sipush hx hb hd (of_decide_eq_true hck) (same ls rfl hl)
  | lconst n =>
    have hlen : len = 1 := by simpa only [Nat.beq_eq, Bool.and_eq_true] using hck
    subst hlen
    cases hs
    exact lv_lconst hx hb hd rfl (same ls rfl hl)
  | ldc idx =>
    dsimp only at hck
    rw [Bool.and_eq_true, Nat.beq_eq] at hck
    obtain ⟨hlen, hck⟩ := hck
    subst hlen
    cases hs
    split at hck
    · exact ajW_ldcS C0 hd hck (same ls rfl hl)
    · exact lv_ldc hx hb hown (hts _ (ajHas_in hck)) hd (same ls rfl hl)
    · cases hck
  | ldc_w idx =>
    dsimp only at hck
    rw [Bool.and_eq_true, Nat.beq_eq] at hck
    obtain ⟨hlen, hck⟩ := hck
    subst hlen
    cases hs
    split at hck
    · exact ajW_ldcwS C0 hd hck (same ls rfl hl)
    · exact lv_ldcw hx hb hown (hts _ (ajHas_in hck)) hd (same ls rfl hl)
    · cases hck
  | ldc2_w idx =>
    dsimp only at hck
    rw [Bool.and_eq_true, Nat.beq_eq] at hck
    obtain ⟨hlen, hck⟩ := hck
    subst hlen
    cases hs
    split at hck
    · exact lv_ldc2 hx hb hown (hts _ (ajHas_in hck)) hd (same ls rfl hl)
    · cases hck
  | getstatic idx =>
    dsimp only at hck
    rw [Bool.and_eq_true, Nat.beq_eq] at hck
    obtain ⟨hlen, hck⟩ := hck
    subst hlen
    cases hs
    split at hck
    · rename_i C n d v hk
      rw [Bool.and_eq_true, decide_eq_true_eq] at hck
      refine ajW_gets (a := 0) (b := 0) (z := 0) C0 Y hd hk hck.1 ?_
      rw [hck.2]
      exact same ls rfl hl
    · cases hck
  | iadd =>
    have hlen : len = 1 := by simpa only [Nat.beq_eq, Bool.and_eq_true] using hck
    subst hlen
    obtain ⟨x, y, r, rfl, rfl⟩ := ajII_some hs
    exact lv_iadd hx hb hd (same ls rfl hl)
  | isub =>
    have hlen : len = 1 := by simpa only [Nat.beq_eq, Bool.and_eq_true] using hck
    subst hlen
    obtain ⟨x, y, r, rfl, rfl⟩ := ajII_some hs
    exact lv_isub hx hb hd (same ls rfl hl)
  | imul =>
    have hlen : len = 1 := by simpa only [Nat.beq_eq, Bool.and_eq_true] using hck
    subst hlen
    obtain ⟨x, y, r, rfl, rfl⟩ := ajII_some hs
    exact lv_imul hx hb hd (same ls rfl hl)
  | iand =>
    have hlen : len = 1 := by simpa only [Nat.beq_eq, Bool.and_eq_true] using hck
    subst hlen
    obtain ⟨x, y, r, rfl, rfl⟩ := ajII_some hs
    exact lv_iand hx hb hd (same ls rfl hl)
  | ior =>
    have hlen : len = 1 := by simpa only [Nat.beq_eq, Bool.and_eq_true] using hck
    subst hlen
    obtain ⟨x, y, r, rfl, rfl⟩ := ajII_some hs
    exact lv_ior hx hb hd (same ls rfl hl)
  | ixor =>
    have hlen : len = 1 := by simpa only [Nat.beq_eq, Bool.and_eq_true] using hck
    subst hlen
    obtain ⟨x, y, r, rfl, rfl⟩ := ajII_some hs
    exact lv_ixor hx hb hd (same ls rfl hl)
  | ishl =>
    have hlen : len = 1 := by simpa only [Nat.beq_eq, Bool.and_eq_true] using hck
    subst hlen
    obtain ⟨x, y, r, rfl, rfl⟩ := ajII_some hs
    exact lv_ishl hx hb hd (same ls rfl hl)
  | ishr =>
    have hlen : len = 1 := by simpa only [Nat.beq_eq, Bool.and_eq_true] using hck
    subst hlen
    obtain ⟨x, y, r, rfl, rfl⟩ := ajII_some hs
    exact lv_ishr hx hb hd (same ls rfl hl)
  | iushr =>
    have hlen : len = 1 := by simpa only [Nat.beq_eq, Bool.and_eq_true] using hck
    subst hlen
    obtain ⟨x, y, r, rfl, rfl⟩ := ajII_some hs
    exact lv_iushr hx hb hd rfl (same ls rfl hl)
  | idiv =>
    have hlen : len = 1 := by simpa only [Nat.beq_eq, Bool.and_eq_true] using hck
    subst hlen
    obtain ⟨x, y, r, rfl, rfl, hy⟩ := ajDD_some hs
    exact lv_idiv hx hb hd hy (same ls rfl hl)
  | irem =>
    have hlen : len = 1 := by simpa only [Nat.beq_eq, Bool.and_eq_true] using hck
    subst hlen
    obtain ⟨x, y, r, rfl, rfl, hy⟩ := ajDD_some hs
    exact lv_irem hx hb hd hy (same ls rfl hl)
  | ineg =>
    have hlen : len = 1 := by simpa only [Nat.beq_eq, Bool.and_eq_true] using hck
    subst hlen
    obtain ⟨x, r, rfl, rfl⟩ := ajUU_some hs
    exact lv_ineg hx hb hd (same ls rfl hl)
  | ladd =>
    have hlen : len = 1 := by simpa only [Nat.beq_eq, Bool.and_eq_true] using hck
    subst hlen
    obtain ⟨x, y, r, rfl, rfl⟩ := ajLL_some hs
    exact lv_ladd hx hb hd (same ls rfl hl)
  | lsub =>
    have hlen : len = 1 := by simpa only [Nat.beq_eq, Bool.and_eq_true] using hck
    subst hlen
    obtain ⟨x, y, r, rfl, rfl⟩ := ajLL_some hs
    exact lv_lsub hx hb hd (same ls rfl hl)
  | lmul =>
    have hlen : len = 1 := by simpa only [Nat.beq_eq, Bool.and_eq_true] using hck
    subst hlen
    obtain ⟨x, y, r, rfl, rfl⟩ := ajLL_some hs
    exact lv_lmul hx hb hd (same ls rfl hl)
  | land =>
    have hlen : len = 1 := by simpa only [Nat.beq_eq, Bool.and_eq_true] using hck
    subst hlen
    obtain ⟨x, y, r, rfl, rfl⟩ := ajLL_some hs
    exact lv_land hx hb hd (same ls rfl hl)
  | lor =>
    have hlen : len = 1 := by simpa only [Nat.beq_eq, Bool.and_eq_true] using hck
    subst hlen
    obtain ⟨x, y, r, rfl, rfl⟩ := ajLL_some hs
    exact lv_lor hx hb hd (same ls rfl hl)
  | ldiv =>
    have hlen : len = 1 := by simpa only [Nat.beq_eq, Bool.and_eq_true] using hck
    subst hlen
    obtain ⟨x, y, r, rfl, rfl, hy⟩ := ajLD_some hs
    exact lv_ldiv hx hb hd hy (same ls rfl hl)
  | lrem =>
    have hlen : len = 1 := by simpa only [Nat.beq_eq, Bool.and_eq_true] using hck
    subst hlen
    obtain ⟨x, y, r, rfl, rfl, hy⟩ := ajLD_some hs
    exact lv_lrem hx hb hd hy (same ls rfl hl)
  | lshl =>
    have hlen : len = 1 := by simpa only [Nat.beq_eq, Bool.and_eq_true] using hck
    subst hlen
    obtain ⟨x, y, r, rfl, rfl⟩ := ajLS_some hs
    exact lv_lshl hx hb hd rfl (same ls rfl hl)
  | lushr =>
    have hlen : len = 1 := by simpa only [Nat.beq_eq, Bool.and_eq_true] using hck
    subst hlen
    obtain ⟨x, y, r, rfl, rfl⟩ := ajLS_some hs
    exact lv_lushr hx hb hd rfl (same ls rfl hl)
  | i2l =>
    have hlen : len = 1 := by simpa only [Nat.beq_eq, Bool.and_eq_true] using hck
    subst hlen
    obtain ⟨x, r, rfl, rfl⟩ := ajUU_some hs
    exact lv_i2l hx hb hd rfl (same ls rfl hl)
  | i2b =>
    have hlen : len = 1 := by simpa only [Nat.beq_eq, Bool.and_eq_true] using hck
    subst hlen
    obtain ⟨x, r, rfl, rfl⟩ := ajUU_some hs
    exact lv_i2b hx hb hd rfl (same ls rfl hl)
  | i2c =>
    have hlen : len = 1 := by simpa only [Nat.beq_eq, Bool.and_eq_true] using hck
    subst hlen
    obtain ⟨x, r, rfl, rfl⟩ := ajUU_some hs
    exact lv_i2c hx hb hd rfl (same ls rfl hl)
  | l2i =>
    have hlen : len = 1 := by simpa only [Nat.beq_eq, Bool.and_eq_true] using hck
    subst hlen
    obtain ⟨x, r, rfl, rfl⟩ := ajL2I_some hs
    exact lv_l2i hx hb hd rfl (same ls rfl hl)
  | lcmp =>
    have hlen : len = 1 := by simpa only [Nat.beq_eq, Bool.and_eq_true] using hck
    subst hlen
    obtain ⟨x, y, r, rfl, rfl⟩ := ajCmpL_some hs
    exact W.lcmp hx hb hd (same ls rfl hl)
  | dup =>
    have hlen : len = 1 := by simpa only [Nat.beq_eq, Bool.and_eq_true] using hck
    subst hlen
    obtain ⟨v, r, rfl, hc1, rfl⟩ := ajDup_some hs
    exact lv_dup hx hb hd (by rw [ajCz_cat base hcst]; exact hc1) (same ls rfl hl)
  | dup2 =>
    have hlen : len = 1 := by simpa only [Nat.beq_eq, Bool.and_eq_true] using hck
    subst hlen
    obtain ⟨v, w, r, rfl, hc1, hc2, rfl⟩ := ajDup2_some hs
    exact lv_dup2_11 hx hb hd (by rw [ajCz_cat base hcst]; exact hc1) (by rw [ajCz_cat base hcst]; exact hc2) (same ls rfl hl)
  | pop =>
    have hlen : len = 1 := by simpa only [Nat.beq_eq, Bool.and_eq_true] using hck
    subst hlen
    obtain ⟨v, r, rfl, hc1, rfl⟩ := ajPop_some hs
    exact lv_pop hx hb hd (by rw [ajCz_cat base hcst]; exact hc1) (same ls rfl hl)
  | goto off =>
    rw [Bool.and_eq_true, Nat.beq_eq] at hck
    obtain ⟨hlen, htg⟩ := hck
    subst hlen
    have htg : (pc : Int) + off = (a : Int) := by unfold ajTgt at htg; exact decide_eq_true_eq.mp htg
    cases hs
    exact lv_goto hx hb hd htg (same ls rfl hl)
  | ifCond cc off =>
    rw [Bool.and_eq_true, Nat.beq_eq] at hck
    obtain ⟨hlen, htg⟩ := hck
    subst hlen
    have htg : (pc : Int) + off = (a : Int) := by unfold ajTgt at htg; exact decide_eq_true_eq.mp htg
    obtain ⟨x, r, rfl, h1⟩ := ajBr_some hs
    cases cc with
    | eq =>
      rcases h1 with ⟨h1, rfl⟩ | ⟨h1, rfl⟩
      · exact lv_if_eq hx hb hd htg (fun _ => same ls rfl hl) (fun z => absurd (of_decide_eq_true h1) z)
      · exact lv_if_eq hx hb hd htg (fun z => absurd (decide_eq_true z) h1) (fun _ => same ls rfl hl)
    | ne =>
      rcases h1 with ⟨h1, rfl⟩ | ⟨h1, rfl⟩
      · exact lv_if_ne hx hb hd htg (fun _ => same ls rfl hl) (fun z => absurd z (of_decide_eq_true h1))
      · exact lv_if_ne hx hb hd htg (fun z => absurd (decide_eq_true z) h1) (fun _ => same ls rfl hl)
    | lt =>
      rcases h1 with ⟨h1, rfl⟩ | ⟨h1, rfl⟩
      · exact lv_if_lt hx hb hd htg (fun _ => same ls rfl hl) (fun z => absurd (of_decide_eq_true h1) z)
      · exact lv_if_lt hx hb hd htg (fun z => absurd (decide_eq_true z) h1) (fun _ => same ls rfl hl)
    | ge =>
      rcases h1 with ⟨h1, rfl⟩ | ⟨h1, rfl⟩
      · exact lv_if_ge hx hb hd htg (fun _ => same ls rfl hl) (fun z => absurd (of_decide_eq_true h1) z)
      · exact lv_if_ge hx hb hd htg (fun z => absurd (decide_eq_true z) h1) (fun _ => same ls rfl hl)
    | gt =>
      rcases h1 with ⟨h1, rfl⟩ | ⟨h1, rfl⟩
      · exact lv_if_gt hx hb hd htg (fun _ => same ls rfl hl) (fun z => absurd (of_decide_eq_true h1) z)
      · exact lv_if_gt hx hb hd htg (fun z => absurd (decide_eq_true z) h1) (fun _ => same ls rfl hl)
    | le =>
      rcases h1 with ⟨h1, rfl⟩ | ⟨h1, rfl⟩
      · exact lv_if_le hx hb hd htg (fun _ => same ls rfl hl) (fun z => absurd (of_decide_eq_true h1) z)
      · exact lv_if_le hx hb hd htg (fun z => absurd (decide_eq_true z) h1) (fun _ => same ls rfl hl)
  | if_icmp cc off =>
    rw [Bool.and_eq_true, Nat.beq_eq] at hck
    obtain ⟨hlen, htg⟩ := hck
    subst hlen
    have htg : (pc : Int) + off = (a : Int) := by unfold ajTgt at htg; exact decide_eq_true_eq.mp htg
    obtain ⟨x, y, r, rfl, h1⟩ := ajBr2_some hs
    cases cc with
    | eq =>
      rcases h1 with ⟨h1, rfl⟩ | ⟨h1, rfl⟩
      · exact lv_icmp_eq hx hb hd htg (fun _ => same ls rfl hl) (fun z => absurd (of_decide_eq_true h1) z)
      · exact lv_icmp_eq hx hb hd htg (fun z => absurd (decide_eq_true z) h1) (fun _ => same ls rfl hl)
    | ne =>
      rcases h1 with ⟨h1, rfl⟩ | ⟨h1, rfl⟩
      · exact lv_icmp_ne hx hb hd htg (fun _ => same ls rfl hl) (fun z => absurd z (of_decide_eq_true h1))
      · exact lv_icmp_ne hx hb hd htg (fun z => absurd (decide_eq_true z) h1) (fun _ => same ls rfl hl)
    | lt =>
      rcases h1 with ⟨h1, rfl⟩ | ⟨h1, rfl⟩
      · exact lv_icmp_lt hx hb hd htg (fun _ => same ls rfl hl) (fun z => absurd (of_decide_eq_true h1) z)
      · exact lv_icmp_lt hx hb hd htg (fun z => absurd (decide_eq_true z) h1) (fun _ => same ls rfl hl)
    | ge =>
      rcases h1 with ⟨h1, rfl⟩ | ⟨h1, rfl⟩
      · exact lv_icmp_ge hx hb hd htg (fun _ => same ls rfl hl) (fun z => absurd (of_decide_eq_true h1) z)
      · exact lv_icmp_ge hx hb hd htg (fun z => absurd (decide_eq_true z) h1) (fun _ => same ls rfl hl)
    | gt =>
      rcases h1 with ⟨h1, rfl⟩ | ⟨h1, rfl⟩
      · exact lv_icmp_gt hx hb hd htg (fun _ => same ls rfl hl) (fun z => absurd (of_decide_eq_true h1) z)
      · exact lv_icmp_gt hx hb hd htg (fun z => absurd (decide_eq_true z) h1) (fun _ => same ls rfl hl)
    | le =>
      rcases h1 with ⟨h1, rfl⟩ | ⟨h1, rfl⟩
      · exact lv_icmp_le hx hb hd htg (fun _ => same ls rfl hl) (fun z => absurd (of_decide_eq_true h1) z)
      · exact lv_icmp_le hx hb hd htg (fun z => absurd (decide_eq_true z) h1) (fun _ => same ls rfl hl)
  | ifnull off =>
    rw [Bool.and_eq_true, Nat.beq_eq] at hck
    obtain ⟨hlen, htg⟩ := hck
    subst hlen
    have htg : (pc : Int) + off = (a : Int) := by unfold ajTgt at htg; exact decide_eq_true_eq.mp htg
    obtain ⟨x, r, rfl, h1⟩ := ajNul_some hs
    rcases h1 with ⟨rfl, rfl⟩ | ⟨⟨h1, h9⟩, rfl⟩
    · exact lv_ifnullN hx hb hd htg (same ls rfl hl)
    · show W p l e R s m args below meth c H locs cells slots Q (F0 m pc ls (ajCz base cst (.ref x) :: r.map (ajCz base cst)))
      rw [ajCz_own h1 h9]
      exact lv_ifnull hx hb hd (same ls rfl hl)
  | tableswitch df lo hi offs =>
    obtain ⟨x, r, rfl, rfl⟩ := ajTsw_some hs
    rw [Bool.and_eq_true, Bool.and_eq_true, Bool.and_eq_true, decide_eq_true_eq, decide_eq_true_eq] at hck
    obtain ⟨ht1, ht2, ht3, ht4⟩ := hck
    have h2 := same ls rfl hl
    by_cases hc : x.toInt < lo ∨ hi < x.toInt
    · refine lv_tableOut hx hb hd hc (tgt := ajSw ts lo hi x) ?_ h2
      unfold ajSw
      rw [if_pos hc]
      unfold ajTgt at ht1
      exact of_decide_eq_true ht1
    · have hc1 : ¬ x.toInt < lo := fun z => hc (Or.inl z)
      have hc2 : ¬ hi < x.toInt := fun z => hc (Or.inr z)
      have hlt : (x.toInt - lo).toNat < offs.size := by omega
      have h5 := List.all_eq_true.mp ht4 _ (List.mem_range.mpr hlt)
      rw [Array.getElem?_eq_getElem hlt] at h5
      unfold ajTgt at h5
      refine lv_tableIn hx hb hd hc1 hc2 (Array.getElem?_eq_getElem hlt) (tgt := ajSw ts lo hi x) ?_ h2
      unfold ajSw
      rw [if_neg hc]
      exact of_decide_eq_true h5
  | getfield idx =>
    dsimp only at hck
    rw [Bool.and_eq_true, Nat.beq_eq] at hck
    obtain ⟨hlen, hck⟩ := hck
    subst hlen
    obtain ⟨x, r, rfl, rfl, ho⟩ := ajGet_some hs
    exact ajW_get C0 Y hd hck ho (same ls rfl hl)
  | putfield idx =>
    dsimp only at hck
    rw [Bool.and_eq_true, Nat.beq_eq] at hck
    obtain ⟨hlen, hck⟩ := hck
    subst hlen
    rw [Bool.and_eq_true] at hck
    obtain ⟨v, o, r, rfl, ho, h1⟩ := ajSet_some hs
    obtain ⟨CC, TT, NN, hcc, hbN, htag, -⟩ := ajChF_some hck.1
    have hN : ∀ q2 : ajH, q2.1 = h.1 → ajCt q2 = ajCt h ∧ ajW q2 = ajW h := fun q2 z => by unfold ajCt ajN ajX ajW; rw [z]; exact ⟨rfl, rfl⟩
    rcases h1 with ⟨rfl, x, rfl, rfl⟩ | ⟨rfl, x, hx01, rfl, rfl⟩ | ⟨rfl, x, rfl, rfl⟩ | ⟨rfl, x, rfl, rfl⟩
    · have ht : ajY a b = .int := of_decide_eq_true htag
      exact ajW_put (v := .int x) (h' := ajSI h o b x) C0 Y hd hck.1 hck.2 ho (by rw [ht]; rfl) (by rw [ht]; rfl) (h2 := rfl) (by show Value.int (ajI (ajSI h o b x) o b) = _; rw [ajI_SI, if_pos ⟨rfl, rfl⟩]) (fun q j hq => ⟨by rw [ajI_SI, if_neg hq], rfl, rfl⟩) (fun H1 locs1 Y1 => kk H1 locs1 ls cells slots Y1 hl rfl rfl)
    · have ht : ajY a b = .boolean := of_decide_eq_true htag
      exact ajW_put (v := .int x) (h' := ajSI h o b x) C0 Y hd hck.1 hck.2 ho (by rw [ht]; rcases hx01 with rfl | rfl <;> rfl) (by rw [ht]; rcases hx01 with rfl | rfl <;> rfl) (h2 := rfl) (by show Value.int (ajI (ajSI h o b x) o b) = _; rw [ajI_SI, if_pos ⟨rfl, rfl⟩]) (fun q j hq => ⟨by rw [ajI_SI, if_neg hq], rfl, rfl⟩) (fun H1 locs1 Y1 => kk H1 locs1 ls cells slots Y1 hl rfl rfl)
    · have ht : ajY a b = .long := of_decide_eq_true htag
      exact ajW_put (v := .long x) (h' := ajSL h o b x) C0 Y hd hck.1 hck.2 ho (by rw [ht]; rfl) (by rw [ht]; rfl) (h2 := rfl) (by show Value.long (ajL (ajSL h o b x) o b) = _; rw [ajL_SL, if_pos ⟨rfl, rfl⟩]) (fun q j hq => ⟨rfl, by rw [ajL_SL, if_neg hq], rfl⟩) (fun H1 locs1 Y1 => kk H1 locs1 ls cells slots Y1 hl rfl rfl)
    · have ht : ajIsRef (ajY a b) = true := htag
      exact ajW_put (v := ajCz base cst (.ref x)) (h' := ajSR h o b x) C0 Y hd hck.1 hck.2 ho (by rcases ajCz_ref base hcst x with h3 | ⟨tt, h3⟩ <;> rw [h3] <;> cases hy : ajY a b <;> rw [hy] at ht <;> first | rfl | cases ht) (by rcases ajCz_ref base hcst x with h3 | ⟨tt, h3⟩ <;> rw [h3] <;> cases hy : ajY a b <;> rw [hy] at ht <;> first | rfl | cases ht) (h2 := rfl) (by show ajCz base cst (.ref (ajR (ajSR h o b x) o b)) = _; rw [ajR_SR, if_pos ⟨rfl, rfl⟩]) (fun q j hq => ⟨rfl, rfl, by rw [ajR_SR, if_neg hq]⟩) (fun H1 locs1 Y1 => kk H1 locs1 ls cells slots Y1 hl rfl rfl)
  | iaload =>
    have hlen : len = 1 := by simpa only [Nat.beq_eq, Bool.and_eq_true] using hck
    subst hlen
    obtain ⟨i, x, r, rfl, rfl, ho, hi⟩ := ajAL_some hs
    exact ajW_iald C0 Y hd ho hi (same ls rfl hl)
  | baload =>
    have hlen : len = 1 := by simpa only [Nat.beq_eq, Bool.and_eq_true] using hck
    subst hlen
    obtain ⟨i, x, r, rfl, rfl, ho, hi⟩ := ajAL_some hs
    exact ajW_bald C0 Y hd ho hi (same ls rfl hl)
  | laload =>
    have hlen : len = 1 := by simpa only [Nat.beq_eq, Bool.and_eq_true] using hck
    subst hlen
    obtain ⟨i, x, r, rfl, rfl, ho, hi⟩ := ajAL_some hs
    exact ajW_lald C0 Y hd ho hi (same ls rfl hl)
  | aaload =>
    have hlen : len = 1 := by simpa only [Nat.beq_eq, Bool.and_eq_true] using hck
    subst hlen
    obtain ⟨i, x, r, rfl, rfl, ho, hi⟩ := ajALq_some hs
    exact ajW_aald C0 Y hd ho hi (same ls rfl hl)
  | iastore =>
    have hlen : len = 1 := by simpa only [Nat.beq_eq, Bool.and_eq_true] using hck
    subst hlen
    obtain ⟨y, i, x, r, rfl, rfl, ho, hi⟩ := ajAS_some hs
    exact ajW_iast C0 Y hd ho hi (fun H1 locs1 Y1 => kk H1 locs1 ls cells slots Y1 hl rfl rfl)
  | bastore =>
    have hlen : len = 1 := by simpa only [Nat.beq_eq, Bool.and_eq_true] using hck
    subst hlen
    obtain ⟨y, i, x, r, rfl, rfl, ho, hi⟩ := ajAS_some hs
    exact ajW_bast C0 Y hd ho hi (fun H1 locs1 Y1 => kk H1 locs1 ls cells slots Y1 hl rfl rfl)
  | lastore =>
    have hlen : len = 1 := by simpa only [Nat.beq_eq, Bool.and_eq_true] using hck
    subst hlen
    obtain ⟨y, i, x, r, rfl, rfl, ho, hi⟩ := ajASl_some hs
    exact ajW_last C0 Y hd ho hi (fun H1 locs1 Y1 => kk H1 locs1 ls cells slots Y1 hl rfl rfl)
  | aastore =>
    have hlen : len = 1 := by simpa only [Nat.beq_eq, Bool.and_eq_true] using hck
    subst hlen
    obtain ⟨v, i, x, r, rfl, rfl, ho, hi, hv⟩ := ajASq_some hs
    exact ajW_aast C0 Y hd ho hi hv (fun H1 locs1 Y1 => kk H1 locs1 ls cells slots Y1 hl rfl rfl)
  | arraylength =>
    have hlen : len = 1 := by simpa only [Nat.beq_eq, Bool.and_eq_true] using hck
    subst hlen
    obtain ⟨x, r, rfl, rfl, ho⟩ := ajALen_some hs
    exact ajW_alen C0 Y hd ho (same ls rfl hl)
  | new idx =>
    dsimp only at hck
    rw [Bool.and_eq_true, Nat.beq_eq] at hck
    obtain ⟨hlen, hck⟩ := hck
    subst hlen
    obtain ⟨rfl, hX, hN, hsh⟩ := ajNew_some hs
    have e1 : ajCt (ajAl h b) = ajCt h + 1 := by unfold ajCt; show ajN h + 1 + ajX h = _; omega
    have e2 : ajW (ajAl h b) = ajW h + b := rfl
    dsimp only at hrc hrs
    rw [e1] at hrc
    rw [e2] at hrs
    exact ajW_new C0 Y hd hck hsh hX hN (by omega) (by omega) (fun H1 Y1 => kk H1 locs ls (cells + 1) (slots + b) Y1 hl (by dsimp only; rw [e1]; omega) (by dsimp only; rw [e2]; omega))
  | newarray ty =>
    dsimp only at hck
    rw [Bool.and_eq_true, Nat.beq_eq] at hck
    obtain ⟨hlen, hck⟩ := hck
    subst hlen
    obtain ⟨x, r, rfl, rfl, hx0, hX, hN, hsh, hbig⟩ := ajNewA_some hs
    have e1 : ajCt (ajAl h x.toNatClampNeg) = ajCt h + 1 := by unfold ajCt; show ajN h + 1 + ajX h = _; omega
    have e2 : ajW (ajAl h x.toNatClampNeg) = ajW h + x.toNatClampNeg := rfl
    dsimp only at hrc hrs
    rw [e1] at hrc
    rw [e2] at hrs
    have fin := fun (H1 : Heap) (Y1 : ajDyn base D dA cst xs L s (ajAl h x.toNatClampNeg) H1 locs (cells + 1)) => kk H1 locs ls (cells + 1) (slots + x.toNatClampNeg) Y1 hl (by dsimp only; rw [e1]; omega) (by dsimp only; rw [e2]; omega)
    have fI : (ajI (ajAl h x.toNatClampNeg) (ajN h)) = fun _ => 0 := funext fun j => ajAl_I h _ j
    have fL : (ajL (ajAl h x.toNatClampNeg) (ajN h)) = fun _ => 0 := funext fun j => ajAl_L h _ j
    split at hck
    · rw [Nat.beq_eq] at hck; subst hck
      exact ajW_newa C0 Y hd rfl (ajGw_in (List.mem_of_getElem? (i := 141) (by decide +kernel)) rfl) 0 rfl (fun C z => by cases z) (.inl (fun _ => 0)) (fun cA => rfl) (by rw [ajCell_int (by rw [hsh]), hsh, fI]) (by decide) hx0 hX hN hbig (by omega) (by omega) fin
    · rw [Nat.beq_eq] at hck; subst hck
      exact ajW_newa C0 Y hd rfl (ajGw_in (List.mem_of_getElem? (i := 215) (by decide +kernel)) rfl) 1 rfl (fun C z => by cases z) (.inl (fun _ => 0)) (fun cA => rfl) (by rw [ajCell_byte (by rw [hsh]), hsh, fI]) (by decide) hx0 hX hN hbig (by omega) (by omega) fin
    · rw [Nat.beq_eq] at hck; subst hck
      exact ajW_newa C0 Y hd rfl (ajGw_in (List.mem_of_getElem? (i := 1342) (by decide +kernel)) rfl) 2 rfl (fun C z => by cases z) (.inr (.inl (fun _ => 0))) (fun cA => rfl) (by rw [ajCell_long (by rw [hsh]), hsh, fL]) (by decide) hx0 hX hN hbig (by omega) (by omega) fin
    · cases hck
  | anewarray idx =>
    dsimp only at hck
    rw [Bool.and_eq_true, Nat.beq_eq] at hck
    obtain ⟨hlen, hck⟩ := hck
    subst hlen
    rw [Bool.and_eq_true, Bool.and_eq_true, Nat.ble_eq, Nat.blt_eq] at hck
    obtain ⟨h3, h6, hcl⟩ := hck
    obtain ⟨x, r, rfl, rfl, hx0, hX, hN, hsh, hbig⟩ := ajNewA_some hs
    have e1 : ajCt (ajAl h x.toNatClampNeg) = ajCt h + 1 := by unfold ajCt; show ajN h + 1 + ajX h = _; omega
    have e2 : ajW (ajAl h x.toNatClampNeg) = ajW h + x.toNatClampNeg := rfl
    dsimp only at hrc hrs
    rw [e1] at hrc
    rw [e2] at hrs
    split at hcl
    · exact ajW_newq C0 Y hd h3 h6 (ajHas_in hcl) hsh hx0 hX hN hbig (by omega) (by omega) (fun H1 Y1 => kk H1 locs ls (cells + 1) (slots + x.toNatClampNeg) Y1 hl (by dsimp only; rw [e1]; omega) (by dsimp only; rw [e2]; omega))
    · cases hcl
  | _ => cases hs
end AJS
