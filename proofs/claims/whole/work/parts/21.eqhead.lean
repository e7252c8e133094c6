/-! Equations for the abstract machine, printed by wip/gen/dec.py. -/
theorem ajIte {α : Type} {c : Prop} [Decidable c] {a b x y : α} (h1 : a = x) (h2 : b = y) : (if c then a else b) = (if c then x else y) := by rw [h1, h2]
theorem ajAndL {α : Type} {P Q : Prop} [Decidable P] [Decidable Q] {a b x : α} (g : P) (h : a = x) : (if P ∧ Q then a else b) = if Q then x else b := by
  subst h
  by_cases hq : Q
  · rw [if_pos ⟨g, hq⟩, if_pos hq]
  · rw [if_neg (fun z => hq z.2), if_neg hq]
theorem ajTrueI {α : Type} {x y z : α} (e : x = y) : x = if True then y else z := by rw [if_pos trivial]; exact e
theorem ajE_d {d mi pc pc' : Nat} {ps st ps' st' : List Value} {h h' : ajH} {c : Prop} [Decidable c] (hk : (ajCode mi pc).map (fun en => ajKd en.1) = some 0) (e : ajNext mi pc ps st h = if c then none else some (pc', ps', st', h')) : ajLim d mi pc ps st h = if c then none else ajLim d mi pc' ps' st' h' := by
  rw [ajE_n hk, e]
  by_cases hc : c
  · rw [if_pos hc, if_pos hc]
  · rw [if_neg hc, if_neg hc]
theorem ajInv_copy {n d mi pc b : Nat} {en : ajE} {ps st rest as : List Value} {h h2 : ajH} {P : Prop} [Decidable P] (hb : (if en.2.2.2.2.1 = 0 then en.2.2.2.1 else en.2.2.2.1 + 1) = b) (ha : en.2.2.1 = 500) (hs : ajStk b st = true) (has : (st.take b).reverse = as) (hrest : st.drop b = rest) (hc : ajCopy as h = if P then some h2 else none) : ajInv n d mi pc en ps st h = if P then ajRun n d mi (pc + 3) ps rest h2 else none := by
  unfold ajInv
  dsimp only
  rw [hb, if_pos hs, ha, if_neg (by omega), if_pos rfl, has, hrest, hc]
  by_cases hp : P
  · rw [if_pos hp, if_pos hp]
  · rw [if_neg hp, if_neg hp]
theorem ajE_1 {d mi pc pc' : Nat} {ps st ps' st' : List Value} {h h' : ajH} (e : ajNext mi pc ps st h = some (pc', ps', st', h')) : ajLim d mi pc ps st h = ajLim d mi pc' ps' st' h' := by rw [ajE_n (ajNext_kd e), e]
