/-! The heap's instructions, a row each, over the bundle. -/
section AJR
variable {p : Program} {l : Launch} {e : Env} {R : Room} {s : State} {m : MethodId} {args : Array Value} {below : List Frame} {meth : Method} {c : Code} {H : Heap} {locs : List Loc} {cells slots : Nat} {Q : State → Prop}
variable {pc : Nat} {ls : Array Slot} {rest : List Value} {base : Nat} {D : va_G} {dA : Nat → ClassId} {cst : Nat → Value} {xs : Nat → Int32} {L mi : Nat} {h : ajH}
theorem ajCell_obj {a : Nat} (ha : (ajSh a).1 < 50) : ajCell base cst dA h a = .inr ((ajSh a).1, ajFd base cst h a (ajSh a).1 (ajSh a).2) := by
  unfold ajCell; rw [if_pos ha]
theorem ajCell_int {a : Nat} (ha : (ajSh a).1 = 100) : ajCell base cst dA h a = .inl (dA 100, (ajSh a).2, .inl (ajI h a)) := by
  unfold ajCell; rw [ha, if_neg (by omega), if_neg (by omega), if_neg (by omega)]
theorem ajCell_byte {a : Nat} (ha : (ajSh a).1 = 101) : ajCell base cst dA h a = .inl (dA 101, (ajSh a).2, .inl (ajI h a)) := by
  unfold ajCell; rw [ha, if_neg (by omega), if_neg (by omega), if_neg (by omega)]
theorem ajCell_long {a : Nat} (ha : (ajSh a).1 = 102) : ajCell base cst dA h a = .inl (dA 102, (ajSh a).2, .inr (.inl (ajL h a))) := by
  unfold ajCell; rw [ha, if_neg (by omega), if_pos rfl]
theorem ajCell_ref {a : Nat} (ha : 103 ≤ (ajSh a).1) : ajCell base cst dA h a = .inl (dA (ajSh a).1, (ajSh a).2, .inr (.inr (.inr (.inr (fun k => ajRo base cst (ajR h a k)))))) := by
  unfold ajCell; rw [if_neg (by omega), if_neg (by omega), if_pos ha]
theorem ajLen_own {a : Nat} (ha : a < 1000) : ajLen h a = (ajSh a).2 := by unfold ajLen; rw [if_neg (by omega)]
theorem ajLen_con (hk : ajHk xs L h) (a : Nat) : ajLen h a = ajLc L a := by unfold ajLen ajLc; rw [hk.1]
theorem ajTag_fv {t a b : Nat} (ht : ajTagOK t (ajY a b) = true) (o : Nat) : ajFv h o b t = ajFv h o b (ajTg (ajY a b)) := by
  match t, ht with
  | 0, ht => simp only [ajTagOK, decide_eq_true_eq] at ht; rw [ht]; rfl
  | 1, ht => simp only [ajTagOK, decide_eq_true_eq] at ht; rw [ht]; rfl
  | 2, ht =>
    simp only [ajTagOK] at ht
    cases hy : ajY a b <;> rw [hy] at ht <;> first | rfl | cases ht
  | 3, ht => simp only [ajTagOK, decide_eq_true_eq] at ht; rw [ht]; rfl
  | (n + 4), ht => simp [ajTagOK] at ht
theorem ajChF_some {own : String} {idx a b t : Nat} {ts : List Nat} (hk : ajChF own idx a b t ts = true) : ∃ (C : String) (T : u_T) (N : Nat), ajCl[a]? = some (C, T, N) ∧ b < N ∧ ajTagOK t (ajY a b) = true ∧ ajLnk own idx (T b).1 (T b).2.1 (T b).2.2.1 ts = true := by
  unfold ajChF at hk
  split at hk
  · rename_i C T N hc
    rw [Bool.and_eq_true, Bool.and_eq_true, Nat.blt_eq] at hk
    exact ⟨C, T, N, hc, hk.1, hk.2.1, hk.2.2⟩
  · cases hk
theorem ajLnk_some {own : String} {idx : Nat} {n d1 d2 : String} {ts : List Nat} (hk : ajLnk own idx n d1 d2 ts = true) : Cond.fieldLink own idx n d1 d2 ∈ ajGw ∨ Cond.fieldLinkNest own idx n d1 d2 "SpokeRing" ∈ ajNw := by
  unfold ajLnk at hk
  split at hk
  · exact Or.inl (ajHas_in hk)
  · exact Or.inr (ajHasN_in hk)
  · cases hk
theorem ajLnk0_some {own : String} {idx : Nat} {n d1 d2 : String} {ts : List Nat} (hk : ajLnk0 own idx n d1 d2 ts = true) : Cond.fieldLink own idx n d1 d2 ∈ ajGw := by
  unfold ajLnk0 at hk
  split at hk
  · exact ajHas_in hk
  · cases hk
/-- getfield -/
theorem ajW_get {idx a b t o : Nat} {ts : List Nat} (C0 : ajCtx base D dA cst xs L mi p R s m args meth c) (Y : ajDyn base D dA cst xs L s h H locs cells) (hdg : decode (ajBy mi) pc = .ok (.getfield idx, 3)) (hck : ajChG mi idx a b t ts = true) (ho : ajOK h o a)
    (kk : W p l e R s m args below meth c H locs cells slots Q (F0 m (pc + 3) ls (ajCz base cst (ajFv h o b t) :: rest))) : W p l e R s m args below meth c H locs cells slots Q (F0 m pc ls (ajCz base cst (.ref o) :: rest)) := by
  obtain ⟨hx, hb, hml, hown, hts, hnm, hE, hcst, hbl, -, -⟩ := C0
  obtain ⟨hP, hZ, hk, hS, hcap⟩ := Y
  obtain ⟨ho1, ho2⟩ := ho
  unfold ajChG at hck
  split at hck
  · rename_i ha
    have ha : a = 50 := by rw [Nat.beq_eq] at ha; exact ha
    subst ha
    have ho3 := ajSh_str ho2
    obtain ⟨tt, e1, e2, e3, e4⟩ := hE.2.2.2.2.1 o ho3 ho2
    rw [ajCz_con ho3, e1]
    rw [Bool.or_eq_true, Bool.and_eq_true, Bool.and_eq_true, Bool.and_eq_true, Bool.and_eq_true, Nat.beq_eq, Nat.beq_eq, Nat.beq_eq, Nat.beq_eq] at hck
    rcases hck with ⟨rfl, rfl, hl⟩ | ⟨rfl, rfl, hl⟩
    · have hl := ajLnk0_some hl
      · refine vk_getf hx hb e3 hS hown (hts _ hl) (fun _ z => z) hdg ?_
        have hv : ajFv h o 0 0 = .int 0 := by
          show Value.int (ajI h o 0) = .int 0
          rw [(hk.2 o ho3 0).1]
          have h5 : ajCI xs o 0 = 0 := by
            unfold ajCI
            have h9 : o ≠ 1100 := by intro z; subst z; exact absurd ho2 (by decide +kernel)
            rw [if_neg h9]
            have h6 := ajSh_con (P := fun q => true) (by decide +kernel) rfl ho3
            have h7 : ∀ i : Nat, i < 101 → (ajShC.getD i (999, 0)).1 = 50 → (ajCo.getD i []).getD 0 0 = 0 := by decide +kernel
            have h8 : o - 1000 < 101 := by
              by_cases h10 : o - 1000 < 101
              · exact h10
              · exfalso
                unfold ajSh at ho2
                rw [Nat.ble_eq_true_of_le ho3] at ho2
                have h11 : ajShC.getD (o - 1000) (999, 0) = (999, 0) := by
                  rw [List.getD_eq_getElem?_getD, List.getElem?_eq_none (by show 101 ≤ _; omega)]; rfl
                dsimp only at ho2
                rw [h11] at ho2
                cases ho2
            refine h7 _ h8 ?_
            unfold ajSh at ho2
            rw [Nat.ble_eq_true_of_le ho3] at ho2
            exact ho2
          rw [h5]
        rw [hv] at kk
        exact kk
    · have hl := ajLnk0_some hl
      · refine vk_getf hx hb e4 hS hown (hts _ hl) (fun _ z => z) hdg ?_
        have hv : ajCz base cst (ajFv h o 1 2) = cst (o + 20) := by
          show ajCz base cst (.ref (ajR h o 1)) = cst (o + 20)
          rw [(hk.2 o ho3 1).2]
          have h5 : ajCR o 1 = o + 20 := by
            unfold ajCR
            rw [if_pos ⟨rfl, ho2⟩]
          rw [h5, ajCz_con (by omega)]
        rw [hv] at kk
        exact kk
  · obtain ⟨C, T, N, hc, hbN, htag, hl⟩ := ajChF_some hck
    have hlt : a < 11 := (List.getElem?_eq_some_iff.mp hc).1
    have h50 : (ajSh o).1 < 50 := by omega
    have ho0 : o ≠ 0 := ajSh_w (by omega)
    have ho9 := ajSh_lt h50
    have hoN : o < ajN h := ho1.resolve_right (by omega)
    have hn := ajSh_n h50
    rw [ho2, hc] at hn
    have hn : N = (ajSh o).2 := Option.some.inj hn
    obtain ⟨k1, k2, k3, k4, k5⟩ := ajCls hc
    rw [ajCz_own ho0 ho9]
    have he := ajWs_at (base := base) (cst := cst) (dA := dA) ho0 hoN
    rw [ajCell_obj h50, ho2] at he
    rw [ajTag_fv htag] at kk
    have hv : (ajFd base cst h o a (ajSh o).2)[b]? = some (ajCz base cst (ajFv h o b (ajTg (ajY a b)))) := ajFd_at (by rw [← hn]; exact hbN)
    rcases ajLnk_some hl with hl | hl
    · exact va_get hx hb hts k1 hown hE.1 hP (o - 1) he hc b hbN (hts _ hl) (fun _ z => z) hv hdg kk
    · exact va_getN hx hb hts k1 hown hE.1 hP (o - 1) he hc b hbN (va_Nw.use rfl (hE.2.2.2.2.2.2.1 _ hl)) (fun _ z => z) hv hdg kk
/-- the bundle behind a store into an object or row of the heap -/
theorem ajDyn_set {h' : ajH} {a : Nat} {ee : va_E} {H1 : Heap} {locs1 : List Loc} (Y : ajDyn base D dA cst xs L s h H locs cells) (h0 : a ≠ 0) (h1 : a < ajN h) (h2 : h'.1 = h.1) (he : ajCell base cst dA h' a = ee) (ho : ∀ b : Nat, b ≠ a → (∀ j, ajI h' b j = ajI h b j) ∧ (∀ j, ajL h' b j = ajL h b j) ∧ ∀ j, ajR h' b j = ajR h b j)
    (hP : va_P D ajCl ((ajWs base cst dA h).set (a - 1) (base + a, ee)) H1) (hS : va_S (ajA base) s.heap H1 locs1) : ajDyn base D dA cst xs L s h' H1 locs1 cells := by
  obtain ⟨hP0, hZ, hk, hS0, hcap⟩ := Y
  have hN : ajN h' = ajN h := by unfold ajN; rw [h2]
  have hX : ajX h' = ajX h := by unfold ajX; rw [h2]
  have hQ : ajQ h' = ajQ h := by unfold ajQ; rw [h2]
  rw [ajWs_set (h' := h') h0 h1 hN he (fun b hb => ajCell_eq (ho b hb).1 (ho b hb).2.1 (ho b hb).2.2)] at hP
  refine ⟨hP, ⟨by rw [hN]; exact hZ.1, by rw [hN]; exact hZ.2⟩, ⟨by rw [hQ]; exact hk.1, fun b hb j => ?_⟩, hS, by unfold ajCt; rw [hN, hX]; exact hcap⟩
  have hba : b ≠ a := by have := hZ.1; omega
  rw [(ho b hba).1 j, (ho b hba).2.2 j]
  exact hk.2 b hb j
/-- a field's new value, as the object's list has it -/
theorem ajFd_put {h' : ajH} {a o b t : Nat} {v : Value} (hv : ajCz base cst (ajFv h' o b t) = v) (htag : ajTagOK t (ajY a b) = true) (ho : ∀ j : Nat, j ≠ b → ajI h' o j = ajI h o j ∧ ajL h' o j = ajL h o j ∧ ajR h' o j = ajR h o j) (n : Nat) : (ajFd base cst h o a n).set b v = ajFd base cst h' o a n := by
  refine ajFd_set (by rw [← ajTag_fv htag]; exact hv) (fun j hj => ?_)
  unfold ajFv
  rw [(ho j hj).1, (ho j hj).2.1, (ho j hj).2.2]
theorem ajFinOK_some {idx a b : Nat} {ts : List Nat} {C : String} {T : u_T} {N : Nat} (hc : ajCl[a]? = some (C, T, N)) (hk : ajFinOK mi idx a b ts = true) : (T b).2.2.2 = false ∨ ((T b).2.2.2 = true ∧ (ajYn mi).name = "<init>" ∧ (T b).1 = ajOwn mi ∧ ajLnk0 (ajOwn mi) idx (T b).1 (T b).2.1 (T b).2.2.1 ts = true) := by
  unfold ajFinOK at hk
  rw [hc] at hk
  simp only [Bool.or_eq_true, Bool.not_eq_true', Bool.and_eq_true, decide_eq_true_eq] at hk
  rcases hk with hk | hk
  · exact Or.inl hk
  · cases hf : (T b).2.2.2 with
    | false => exact Or.inl rfl
    | true => exact Or.inr ⟨rfl, hk⟩
/-- putfield, whatever its kind -/
theorem ajW_put {idx a b t o : Nat} {ts : List Nat} {v : Value} {h' : ajH} (C0 : ajCtx base D dA cst xs L mi p R s m args meth c) (Y : ajDyn base D dA cst xs L s h H locs cells) (hdg : decode (ajBy mi) pc = .ok (.putfield idx, 3)) (hck : ajChF (ajOwn mi) idx a b t ts = true) (hfi : ajFinOK mi idx a b ts = true) (ho : ajOW h o a)
    (hn : narrow (ajY a b) v = v) (hfit : fits (ajY a b) v = true) (h2 : h'.1 = h.1) (hv : ajCz base cst (ajFv h' o b t) = v) (hoth : ∀ q j : Nat, ¬ (q = o ∧ j = b) → ajI h' q j = ajI h q j ∧ ajL h' q j = ajL h q j ∧ ajR h' q j = ajR h q j)
    (kk : ∀ (H1 : Heap) (locs1 : List Loc), ajDyn base D dA cst xs L s h' H1 locs1 cells → W p l e R s m args below meth c H1 locs1 cells slots Q (F0 m (pc + 3) ls rest)) : W p l e R s m args below meth c H locs cells slots Q (F0 m pc ls (v :: ajCz base cst (.ref o) :: rest)) := by
  obtain ⟨hx, hb, hml, hown, hts, hnm, hE, hcst, hbl, -, -⟩ := C0
  have Y0 := Y
  obtain ⟨hP, hZ, hk, hS, hcap⟩ := Y
  obtain ⟨hoN, ho2⟩ := ho
  obtain ⟨C, T, N, hc, hbN, htag, hl⟩ := ajChF_some hck
  have hlt : a < 11 := (List.getElem?_eq_some_iff.mp hc).1
  have h50 : (ajSh o).1 < 50 := by omega
  have ho0 : o ≠ 0 := ajSh_w (by omega)
  have ho9 := ajSh_lt h50
  have hnn := ajSh_n h50
  rw [ho2, hc] at hnn
  have hnn : N = (ajSh o).2 := Option.some.inj hnn
  obtain ⟨k1, k2, k3, k4, k5⟩ := ajCls hc
  rw [ajCz_own ho0 ho9]
  have he := ajWs_at (base := base) (cst := cst) (dA := dA) ho0 hoN
  rw [ajCell_obj h50, ho2] at he
  have hset := ajFd_put (base := base) (cst := cst) (h := h) hv htag (fun j hj => hoth o j (fun z => hj z.2)) (ajSh o).2
  have hcell : ajCell base cst dA h' o = .inr (a, (ajFd base cst h o a (ajSh o).2).set b v) := by rw [ajCell_obj h50, ho2, hset]
  have go : ∀ (H1 : Heap) (locs1 : List Loc), va_P D ajCl ((ajWs base cst dA h).set (o - 1) (base + o, .inr (a, (ajFd base cst h o a (ajSh o).2).set b v))) H1 → va_D (ajA base) ((ajWs base cst dA h).set (o - 1) (base + o, .inr (a, (ajFd base cst h o a (ajSh o).2).set b v))) → va_S (ajA base) s.heap H1 locs1 → W p l e R s m args below meth c H1 locs1 cells slots Q (F0 m (pc + 3) ls rest) := by
    intro H1 locs1 g1 _ g2
    exact kk H1 locs1 (ajDyn_set Y0 ho0 hoN h2 hcell (fun q hq => ⟨fun j => (hoth q j (fun z => hq z.1)).1, fun j => (hoth q j (fun z => hq z.1)).2.1, fun j => (hoth q j (fun z => hq z.1)).2.2⟩) g1 g2)
  have hlen : b < (ajFd base cst h o a (ajSh o).2).length := by rw [ajFd_len, ← hnn]; exact hbN
  rcases ajFinOK_some hc hfi with hf | ⟨hf, hi, hd, hl0⟩
  · rcases ajLnk_some hl with hl | hl
    · exact va_put hx hb hts k1 (ajY a) k2 k3 hown hE.1 hP ajWs_D hS (o - 1) he hc b hbN (hts _ hl) (fun _ z => z) hf (k2 b hbN) hn hfit hlen hdg go
    · exact va_putN hx hb hts k1 (ajY a) k2 k3 hown hE.1 hP ajWs_D hS (o - 1) he hc b hbN (va_Nw.use rfl (hE.2.2.2.2.2.2.1 _ hl)) (fun _ z => z) hf (k2 b hbN) hn hfit hlen hdg go
  · exact va_putF hx hb hts k1 (ajY a) k2 k3 hown hE.1 hP ajWs_D hS (o - 1) he hc b hbN (hts _ (ajLnk0_some hl0)) (fun _ z => z) hf (by rw [hnm]; exact hi) hd (k2 b hbN) hn hfit hlen hdg go
end AJR
