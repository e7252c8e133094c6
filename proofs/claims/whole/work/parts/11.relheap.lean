/-! The abstract heap as a world of the kit. -/
def ajTg : FieldType → Nat
  | .long => 1
  | .object _ => 2
  | .array _ => 2
  | _ => 0
def ajA (base : Nat) : Nat → Prop := fun q => base < q
def ajRo (base : Nat) (cst : Nat → Value) (r : Nat) : Option Nat := match ajCz base cst (.ref r) with
  | .ref t => some t
  | _ => none
theorem ajRo_rf (base : Nat) {cst : Nat → Value} (hc : ajCst cst) (r : Nat) : va_rf (ajRo base cst r) = ajCz base cst (.ref r) := by
  unfold ajRo
  rcases ajCz_ref base hc r with h | ⟨t, h⟩ <;> rw [h] <;> rfl
theorem ajRo_own {base : Nat} {cst : Nat → Value} {r : Nat} (h0 : r ≠ 0) (h1 : r < 1000) : ajRo base cst r = some (base + r) := by
  unfold ajRo
  rw [ajCz_own h0 h1]
theorem ajRo_0 {base : Nat} {cst : Nat → Value} : ajRo base cst 0 = none := rfl
def ajFd (base : Nat) (cst : Nat → Value) (h : ajH) (a c n : Nat) : List Value := (List.range n).map (fun k => ajCz base cst (ajFv h a k (ajTg (ajY c k))))
def ajCell (base : Nat) (cst : Nat → Value) (dA : Nat → ClassId) (h : ajH) (a : Nat) : va_E :=
  if (ajSh a).1 < 50 then .inr ((ajSh a).1, ajFd base cst h a (ajSh a).1 (ajSh a).2)
  else if (ajSh a).1 = 102 then .inl (dA (ajSh a).1, (ajSh a).2, .inr (.inl (ajL h a)))
  else if 103 ≤ (ajSh a).1 then .inl (dA (ajSh a).1, (ajSh a).2, .inr (.inr (.inr (.inr (fun k => ajRo base cst (ajR h a k))))))
  else .inl (dA (ajSh a).1, (ajSh a).2, .inl (ajI h a))
def ajWs (base : Nat) (cst : Nat → Value) (dA : Nat → ClassId) (h : ajH) : va_W := (List.range (ajN h - 1)).map (fun i => (base + (i + 1), ajCell base cst dA h (i + 1)))
theorem ajWs_at {base : Nat} {cst : Nat → Value} {dA : Nat → ClassId} {h : ajH} {a : Nat} (h0 : a ≠ 0) (h1 : a < ajN h) : (ajWs base cst dA h)[a - 1]? = some (base + a, ajCell base cst dA h a) := by
  unfold ajWs
  rw [List.getElem?_map, List.getElem?_range (by omega)]
  show some (base + (a - 1 + 1), ajCell base cst dA h (a - 1 + 1)) = _
  rw [show a - 1 + 1 = a by omega]
theorem ajWs_get {base : Nat} {cst : Nat → Value} {dA : Nat → ClassId} {h : ajH} {k : Nat} {q : Nat × va_E} (hk : (ajWs base cst dA h)[k]? = some q) : k + 1 < ajN h ∧ q = (base + (k + 1), ajCell base cst dA h (k + 1)) := by
  have hl : k < ajN h - 1 := by
    have := (List.getElem?_eq_some_iff.mp hk).1
    unfold ajWs at this
    rw [List.length_map, List.length_range] at this
    exact this
  have h2 := ajWs_at (base := base) (cst := cst) (dA := dA) (h := h) (a := k + 1) (by omega) (by omega)
  rw [Nat.add_sub_cancel, hk] at h2
  exact ⟨by omega, Option.some.inj h2⟩
theorem ajWs_len {base : Nat} {cst : Nat → Value} {dA : Nat → ClassId} {h : ajH} : (ajWs base cst dA h).length = ajN h - 1 := by
  unfold ajWs; rw [List.length_map, List.length_range]
theorem ajWs_D {base : Nat} {cst : Nat → Value} {dA : Nat → ClassId} {h : ajH} : va_D (ajA base) (ajWs base cst dA h) := by
  refine ⟨fun i j p q hi hj e => ?_, fun k q hk => ?_⟩
  · obtain ⟨-, rfl⟩ := ajWs_get hi
    obtain ⟨-, rfl⟩ := ajWs_get hj
    dsimp only at e
    omega
  · obtain ⟨-, rfl⟩ := ajWs_get hk
    show base < base + (k + 1)
    omega
theorem ajWs_set {base : Nat} {cst : Nat → Value} {dA : Nat → ClassId} {h h' : ajH} {a : Nat} {e : va_E} (h0 : a ≠ 0) (h1 : a < ajN h) (hN : ajN h' = ajN h) (he : ajCell base cst dA h' a = e) (ho : ∀ b : Nat, b ≠ a → ajCell base cst dA h' b = ajCell base cst dA h b) :
    (ajWs base cst dA h).set (a - 1) (base + a, e) = ajWs base cst dA h' := by
  refine List.ext_getElem? fun k => ?_
  by_cases hk : k < ajN h - 1
  · have h2 := ajWs_at (base := base) (cst := cst) (dA := dA) (h := h') (a := k + 1) (by omega) (by omega)
    rw [Nat.add_sub_cancel] at h2
    rw [h2, List.getElem?_set]
    by_cases hka : a - 1 = k
    · rw [if_pos hka, if_pos (by rw [ajWs_len]; omega)]
      subst hka
      rw [show a - 1 + 1 = a by omega, he]
    · rw [if_neg hka]
      have h3 := ajWs_at (base := base) (cst := cst) (dA := dA) (h := h) (a := k + 1) (by omega) (by omega)
      rw [Nat.add_sub_cancel] at h3
      rw [h3, ho (k + 1) (by omega)]
  · rw [List.getElem?_eq_none (by rw [List.length_set, ajWs_len]; omega), List.getElem?_eq_none (by rw [ajWs_len]; omega)]
theorem ajWs_push {base : Nat} {cst : Nat → Value} {dA : Nat → ClassId} {h h' : ajH} {e : va_E} (h1 : 1 ≤ ajN h) (hN : ajN h' = ajN h + 1) (he : ajCell base cst dA h' (ajN h) = e) (ho : ∀ b : Nat, b ≠ ajN h → ajCell base cst dA h' b = ajCell base cst dA h b) :
    ajWs base cst dA h ++ [(base + ajN h, e)] = ajWs base cst dA h' := by
  refine List.ext_getElem? fun k => ?_
  by_cases hk : k < ajN h - 1
  · have h2 := ajWs_at (base := base) (cst := cst) (dA := dA) (h := h') (a := k + 1) (by omega) (by omega)
    have h3 := ajWs_at (base := base) (cst := cst) (dA := dA) (h := h) (a := k + 1) (by omega) (by omega)
    rw [Nat.add_sub_cancel] at h2 h3
    rw [h2, List.getElem?_append_left (by rw [ajWs_len]; exact hk), h3, ho (k + 1) (by omega)]
  · by_cases hk2 : k = ajN h - 1
    · have h2 := ajWs_at (base := base) (cst := cst) (dA := dA) (h := h') (a := k + 1) (by omega) (by omega)
      rw [Nat.add_sub_cancel] at h2
      rw [h2, List.getElem?_append_right (by rw [ajWs_len]; omega), ajWs_len, show k - (ajN h - 1) = 0 by omega, show k + 1 = ajN h by omega, he]
      rfl
    · rw [List.getElem?_eq_none (by rw [List.length_append, ajWs_len]; show _ + 1 ≤ _; omega), List.getElem?_eq_none (by rw [ajWs_len]; omega)]
-- the parts of a heap behind a store
theorem ajI_SI (h : ajH) (a k b j : Nat) (v : Int32) : ajI (ajSI h a k v) b j = if b = a ∧ j = k then v else ajI h b j := rfl
theorem ajL_SI (h : ajH) (a k b j : Nat) (v : Int32) : ajL (ajSI h a k v) b j = ajL h b j := rfl
theorem ajR_SI (h : ajH) (a k b j : Nat) (v : Int32) : ajR (ajSI h a k v) b j = ajR h b j := rfl
theorem ajI_SL (h : ajH) (a k b j : Nat) (v : Int64) : ajI (ajSL h a k v) b j = ajI h b j := rfl
theorem ajL_SL (h : ajH) (a k b j : Nat) (v : Int64) : ajL (ajSL h a k v) b j = if b = a ∧ j = k then v else ajL h b j := rfl
theorem ajR_SL (h : ajH) (a k b j : Nat) (v : Int64) : ajR (ajSL h a k v) b j = ajR h b j := rfl
theorem ajI_SR (h : ajH) (a k b j : Nat) (v : Nat) : ajI (ajSR h a k v) b j = ajI h b j := rfl
theorem ajL_SR (h : ajH) (a k b j : Nat) (v : Nat) : ajL (ajSR h a k v) b j = ajL h b j := rfl
theorem ajR_SR (h : ajH) (a k b j : Nat) (v : Nat) : ajR (ajSR h a k v) b j = if b = a ∧ j = k then v else ajR h b j := rfl
theorem ajI_Cp (h : ajH) (d s sp dp n b j : Nat) : ajI (ajCp h d s sp dp n) b j = if b = d ∧ dp ≤ j ∧ j < dp + n then ajI h s (sp + (j - dp)) else ajI h b j := rfl
theorem ajL_Cp (h : ajH) (d s sp dp n b j : Nat) : ajL (ajCp h d s sp dp n) b j = ajL h b j := rfl
theorem ajR_Cp (h : ajH) (d s sp dp n b j : Nat) : ajR (ajCp h d s sp dp n) b j = ajR h b j := rfl
/-- cells where nothing was written -/
theorem ajCell_eq {base : Nat} {cst : Nat → Value} {dA : Nat → ClassId} {h h' : ajH} {b : Nat} (hI : ∀ j, ajI h' b j = ajI h b j) (hL : ∀ j, ajL h' b j = ajL h b j) (hR : ∀ j, ajR h' b j = ajR h b j) : ajCell base cst dA h' b = ajCell base cst dA h b := by
  have e1 : ajI h' b = ajI h b := funext hI
  have e2 : ajL h' b = ajL h b := funext hL
  have e3 : (fun k => ajRo base cst (ajR h' b k)) = fun k => ajRo base cst (ajR h b k) := funext fun k => by rw [hR]
  have e4 : ∀ c n, ajFd base cst h' b c n = ajFd base cst h b c n := by
    intro c n
    unfold ajFd
    refine List.map_congr_left fun k _ => ?_
    unfold ajFv
    rw [hI, hL, hR]
  unfold ajCell
  rw [e1, e2, e3, e4]
theorem ajFd_at {base : Nat} {cst : Nat → Value} {h : ajH} {a c n k : Nat} (hk : k < n) : (ajFd base cst h a c n)[k]? = some (ajCz base cst (ajFv h a k (ajTg (ajY c k)))) := by
  unfold ajFd
  rw [List.getElem?_map, List.getElem?_range hk]
  rfl
theorem ajFd_len {base : Nat} {cst : Nat → Value} {h : ajH} {a c n : Nat} : (ajFd base cst h a c n).length = n := by
  unfold ajFd; rw [List.length_map, List.length_range]
theorem ajFd_set {base : Nat} {cst : Nat → Value} {h h' : ajH} {a c n k : Nat} {v : Value} (hv : ajCz base cst (ajFv h' a k (ajTg (ajY c k))) = v) (ho : ∀ j : Nat, j ≠ k → ajFv h' a j (ajTg (ajY c j)) = ajFv h a j (ajTg (ajY c j))) : (ajFd base cst h a c n).set k v = ajFd base cst h' a c n := by
  refine List.ext_getElem? fun j => ?_
  by_cases hj : j < n
  · rw [ajFd_at hj, List.getElem?_set]
    by_cases hkj : k = j
    · rw [if_pos hkj, if_pos (by rw [ajFd_len]; omega)]
      subst hkj
      rw [hv]
    · rw [if_neg hkj, ajFd_at hj, ho j (fun e => hkj e.symm)]
  · rw [List.getElem?_eq_none (by rw [List.length_set, ajFd_len]; omega), List.getElem?_eq_none (by rw [ajFd_len]; omega)]
