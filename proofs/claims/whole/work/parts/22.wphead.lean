/-! What must hold for a call to come to something good: rules (printed by wip/gen/wphead.py). -/
abbrev ajKi (a k : Nat) : Prop := (a < 343 ∨ 1000 ≤ a) ∧ (ajSh a).1 = k
abbrev ajKw (a k : Nat) : Prop := a < 343 ∧ (ajSh a).1 = k
theorem ajKwi {a k : Nat} (h : ajKw a k) : ajKi a k := ⟨Or.inl h.1, h.2⟩
theorem ajKc {a k : Nat} (h : (Nat.blt a 343 && Nat.beq (ajSh a).1 k) = true) : ajKw a k := by
  rw [Bool.and_eq_true, Nat.blt_eq, Nat.beq_eq] at h
  exact h
theorem ajKci {a k : Nat} (h : (Nat.ble 1000 a && Nat.beq (ajSh a).1 k) = true) : ajKi a k := by
  rw [Bool.and_eq_true, Nat.ble_eq, Nat.beq_eq] at h
  exact ⟨Or.inr h.1, h.2⟩
/-- where an object keeps what is its own: by its kind and the field -/
def ajRf (o f : Nat) : Nat := match (ajSh o).1, f with
  | 0, 0 => 2
  | 0, 1 => 4
  | 0, 2 => 10
  | 0, 3 => 16
  | 0, 4 => 46
  | 0, 7 => 17
  | 0, 8 => 51
  | 0, 11 => 54
  | 0, 12 => 59
  | 0, 13 => 64
  | 0, 15 => 69
  | 0, 16 => 271
  | 0, 17 => 273
  | 1, 0 => 3
  | 2, 1 => o + 1
  | 2, 2 => o + 2
  | 2, 3 => o + 3
  | 2, 4 => o + 4
  | 2, 5 => o + 5
  | 3, 0 => o + 1
  | 3, 1 => o + 2
  | 3, 2 => o + 3
  | 4, 1 => o + 1
  | 4, 2 => o + 2
  | 5, 0 => 2
  | 5, 1 => 47
  | 6, 8 => o + 1
  | 6, 9 => o + 2
  | 6, 11 => o + 3
  | 6, 12 => o + 4
  | 7, 0 => 70
  | 8, 5 => 272
  | 9, 0 => 274
  | 9, 1 => 4
  | 10, 1 => 321
  | 10, 2 => 322
  | 10, 3 => 323
  | 10, 4 => 324
  | 10, 15 => 1015
  | 10, 16 => 1010
  | 10, 18 => 325
  | 10, 19 => 326
  | 10, 20 => 327
  | 10, 21 => 328
  | 10, 22 => 329
  | 10, 23 => 330
  | 10, 28 => 331
  | 10, 29 => 332
  | 10, 32 => 333
  | 10, 33 => 334
  | 10, 34 => 335
  | 10, 35 => 336
  | 10, 38 => 337
  | 10, 41 => 338
  | 10, 44 => 339
  | 10, 46 => 340
  | 10, 47 => 341
  | 50, 1 => o + 20
  | 103, f => if o = 70 then 71 + 5 * f else 275 + 5 * f
  | 104, f => 18 + 7 * f
  | 105, f => 22 + 7 * f
  | _, _ => 0
/-- the heap as the constructors left its references -/
def ajShp (h : ajH) : Prop := ajN h = 343 ∧ ∀ o f, (o < 343 ∨ 1000 ≤ o) → f < (ajSh o).2 → ajRf o f ≠ 0 → ajR h o f = ajRf o f
theorem ajOKw {h : ajH} {a k : Nat} (s : ajShp h) (q : ajKi a k) : ajOK h a k := ⟨by rw [s.1]; exact q.1, q.2⟩
theorem ajOWw {h : ajH} {a k : Nat} (s : ajShp h) (q : ajKw a k) : ajOW h a k := ⟨by rw [s.1]; exact q.1, q.2⟩
theorem ajShpI {h h1 : ajH} {o k : Nat} {v : Int32} (s : ajShp h) (e : h1 = ajSI h o k v) : ajShp h1 := by subst e; exact s
theorem ajShpL {h h1 : ajH} {o k : Nat} {v : Int64} (s : ajShp h) (e : h1 = ajSL h o k v) : ajShp h1 := by subst e; exact s
theorem ajShpC {h h1 : ajH} {o k sp dp n : Nat} (s : ajShp h) (e : h1 = ajCp h o k sp dp n) : ajShp h1 := by subst e; exact s
theorem ajShpR {h h1 : ajH} {o k v : Nat} (s : ajShp h) (e : h1 = ajSR h o k v) (z : ajRf o k = 0) : ajShp h1 := by
  subst e
  refine ⟨s.1, fun a f ha hf hz => ?_⟩
  have h0 := s.2 a f ha hf hz
  show (if a = o ∧ f = k then v else ajR h a f) = ajRf a f
  rw [if_neg (by rintro ⟨rfl, rfl⟩; exact hz z)]
  exact h0
theorem ajSz_0 {q : Nat} (hq : ajKw q 0) : (ajSh q).2 = 18 := (by decide +kernel : ∀ q < 343, (ajSh q).1 = 0 → (ajSh q).2 = 18) q hq.1 hq.2
theorem ajRf_0_0 {h : ajH} {q : Nat} (s : ajShp h) (hq : ajKw q 0) : ajR h q 0 = 2 := by
  have e : ajRf q 0 = 2 := by unfold ajRf; rw [hq.2] <;> rfl
  rw [← e]
  exact s.2 q 0 (Or.inl hq.1) (by rw [ajSz_0 hq]; decide) (by rw [e]; first | omega | decide)
theorem ajRf_0_1 {h : ajH} {q : Nat} (s : ajShp h) (hq : ajKw q 0) : ajR h q 1 = 4 := by
  have e : ajRf q 1 = 4 := by unfold ajRf; rw [hq.2] <;> rfl
  rw [← e]
  exact s.2 q 1 (Or.inl hq.1) (by rw [ajSz_0 hq]; decide) (by rw [e]; first | omega | decide)
theorem ajRf_0_2 {h : ajH} {q : Nat} (s : ajShp h) (hq : ajKw q 0) : ajR h q 2 = 10 := by
  have e : ajRf q 2 = 10 := by unfold ajRf; rw [hq.2] <;> rfl
  rw [← e]
  exact s.2 q 2 (Or.inl hq.1) (by rw [ajSz_0 hq]; decide) (by rw [e]; first | omega | decide)
theorem ajRf_0_3 {h : ajH} {q : Nat} (s : ajShp h) (hq : ajKw q 0) : ajR h q 3 = 16 := by
  have e : ajRf q 3 = 16 := by unfold ajRf; rw [hq.2] <;> rfl
  rw [← e]
  exact s.2 q 3 (Or.inl hq.1) (by rw [ajSz_0 hq]; decide) (by rw [e]; first | omega | decide)
theorem ajRf_0_4 {h : ajH} {q : Nat} (s : ajShp h) (hq : ajKw q 0) : ajR h q 4 = 46 := by
  have e : ajRf q 4 = 46 := by unfold ajRf; rw [hq.2] <;> rfl
  rw [← e]
  exact s.2 q 4 (Or.inl hq.1) (by rw [ajSz_0 hq]; decide) (by rw [e]; first | omega | decide)
theorem ajRf_0_7 {h : ajH} {q : Nat} (s : ajShp h) (hq : ajKw q 0) : ajR h q 7 = 17 := by
  have e : ajRf q 7 = 17 := by unfold ajRf; rw [hq.2] <;> rfl
  rw [← e]
  exact s.2 q 7 (Or.inl hq.1) (by rw [ajSz_0 hq]; decide) (by rw [e]; first | omega | decide)
theorem ajRf_0_8 {h : ajH} {q : Nat} (s : ajShp h) (hq : ajKw q 0) : ajR h q 8 = 51 := by
  have e : ajRf q 8 = 51 := by unfold ajRf; rw [hq.2] <;> rfl
  rw [← e]
  exact s.2 q 8 (Or.inl hq.1) (by rw [ajSz_0 hq]; decide) (by rw [e]; first | omega | decide)
theorem ajRf_0_11 {h : ajH} {q : Nat} (s : ajShp h) (hq : ajKw q 0) : ajR h q 11 = 54 := by
  have e : ajRf q 11 = 54 := by unfold ajRf; rw [hq.2] <;> rfl
  rw [← e]
  exact s.2 q 11 (Or.inl hq.1) (by rw [ajSz_0 hq]; decide) (by rw [e]; first | omega | decide)
theorem ajRf_0_12 {h : ajH} {q : Nat} (s : ajShp h) (hq : ajKw q 0) : ajR h q 12 = 59 := by
  have e : ajRf q 12 = 59 := by unfold ajRf; rw [hq.2] <;> rfl
  rw [← e]
  exact s.2 q 12 (Or.inl hq.1) (by rw [ajSz_0 hq]; decide) (by rw [e]; first | omega | decide)
theorem ajRf_0_13 {h : ajH} {q : Nat} (s : ajShp h) (hq : ajKw q 0) : ajR h q 13 = 64 := by
  have e : ajRf q 13 = 64 := by unfold ajRf; rw [hq.2] <;> rfl
  rw [← e]
  exact s.2 q 13 (Or.inl hq.1) (by rw [ajSz_0 hq]; decide) (by rw [e]; first | omega | decide)
theorem ajRf_0_15 {h : ajH} {q : Nat} (s : ajShp h) (hq : ajKw q 0) : ajR h q 15 = 69 := by
  have e : ajRf q 15 = 69 := by unfold ajRf; rw [hq.2] <;> rfl
  rw [← e]
  exact s.2 q 15 (Or.inl hq.1) (by rw [ajSz_0 hq]; decide) (by rw [e]; first | omega | decide)
theorem ajRf_0_16 {h : ajH} {q : Nat} (s : ajShp h) (hq : ajKw q 0) : ajR h q 16 = 271 := by
  have e : ajRf q 16 = 271 := by unfold ajRf; rw [hq.2] <;> rfl
  rw [← e]
  exact s.2 q 16 (Or.inl hq.1) (by rw [ajSz_0 hq]; decide) (by rw [e]; first | omega | decide)
theorem ajRf_0_17 {h : ajH} {q : Nat} (s : ajShp h) (hq : ajKw q 0) : ajR h q 17 = 273 := by
  have e : ajRf q 17 = 273 := by unfold ajRf; rw [hq.2] <;> rfl
  rw [← e]
  exact s.2 q 17 (Or.inl hq.1) (by rw [ajSz_0 hq]; decide) (by rw [e]; first | omega | decide)
theorem ajSz_1 {q : Nat} (hq : ajKw q 1) : (ajSh q).2 = 4 := (by decide +kernel : ∀ q < 343, (ajSh q).1 = 1 → (ajSh q).2 = 4) q hq.1 hq.2
theorem ajRf_1_0 {h : ajH} {q : Nat} (s : ajShp h) (hq : ajKw q 1) : ajR h q 0 = 3 := by
  have e : ajRf q 0 = 3 := by unfold ajRf; rw [hq.2] <;> rfl
  rw [← e]
  exact s.2 q 0 (Or.inl hq.1) (by rw [ajSz_1 hq]; decide) (by rw [e]; first | omega | decide)
theorem ajSz_2 {q : Nat} (hq : ajKw q 2) : (ajSh q).2 = 6 := (by decide +kernel : ∀ q < 343, (ajSh q).1 = 2 → (ajSh q).2 = 6) q hq.1 hq.2
theorem ajRf_2_1 {h : ajH} {q : Nat} (s : ajShp h) (hq : ajKw q 2) : ajR h q 1 = (q + 1) := by
  have e : ajRf q 1 = (q + 1) := by unfold ajRf; rw [hq.2] <;> rfl
  rw [← e]
  exact s.2 q 1 (Or.inl hq.1) (by rw [ajSz_2 hq]; decide) (by rw [e]; first | omega | decide)
theorem ajKw_2_1 {q : Nat} (hq : ajKw q 2) : ajKw (q + 1) 100 := (by decide +kernel : ∀ q < 343, (ajSh q).1 = 2 → ((q + 1) < 343 ∧ (ajSh (q + 1)).1 = 100)) q hq.1 hq.2
theorem ajLn_2_1 {h : ajH} {q : Nat} (hq : ajKw q 2) : ajLen h (q + 1) = 4 := by
  have e := (by decide +kernel : ∀ q < 343, (ajSh q).1 = 2 → (ajSh (q + 1)).2 = 4) q hq.1 hq.2
  have h1 := hq.1
  unfold ajLen
  rw [if_neg (by omega), e]
theorem ajRf_2_2 {h : ajH} {q : Nat} (s : ajShp h) (hq : ajKw q 2) : ajR h q 2 = (q + 2) := by
  have e : ajRf q 2 = (q + 2) := by unfold ajRf; rw [hq.2] <;> rfl
  rw [← e]
  exact s.2 q 2 (Or.inl hq.1) (by rw [ajSz_2 hq]; decide) (by rw [e]; first | omega | decide)
theorem ajKw_2_2 {q : Nat} (hq : ajKw q 2) : ajKw (q + 2) 100 := (by decide +kernel : ∀ q < 343, (ajSh q).1 = 2 → ((q + 2) < 343 ∧ (ajSh (q + 2)).1 = 100)) q hq.1 hq.2
theorem ajLn_2_2 {h : ajH} {q : Nat} (hq : ajKw q 2) : ajLen h (q + 2) = 3 := by
  have e := (by decide +kernel : ∀ q < 343, (ajSh q).1 = 2 → (ajSh (q + 2)).2 = 3) q hq.1 hq.2
  have h1 := hq.1
  unfold ajLen
  rw [if_neg (by omega), e]
theorem ajRf_2_3 {h : ajH} {q : Nat} (s : ajShp h) (hq : ajKw q 2) : ajR h q 3 = (q + 3) := by
  have e : ajRf q 3 = (q + 3) := by unfold ajRf; rw [hq.2] <;> rfl
  rw [← e]
  exact s.2 q 3 (Or.inl hq.1) (by rw [ajSz_2 hq]; decide) (by rw [e]; first | omega | decide)
theorem ajKw_2_3 {q : Nat} (hq : ajKw q 2) : ajKw (q + 3) 100 := (by decide +kernel : ∀ q < 343, (ajSh q).1 = 2 → ((q + 3) < 343 ∧ (ajSh (q + 3)).1 = 100)) q hq.1 hq.2
theorem ajLn_2_3 {h : ajH} {q : Nat} (hq : ajKw q 2) : ajLen h (q + 3) = 8 := by
  have e := (by decide +kernel : ∀ q < 343, (ajSh q).1 = 2 → (ajSh (q + 3)).2 = 8) q hq.1 hq.2
  have h1 := hq.1
  unfold ajLen
  rw [if_neg (by omega), e]
theorem ajRf_2_4 {h : ajH} {q : Nat} (s : ajShp h) (hq : ajKw q 2) : ajR h q 4 = (q + 4) := by
  have e : ajRf q 4 = (q + 4) := by unfold ajRf; rw [hq.2] <;> rfl
  rw [← e]
  exact s.2 q 4 (Or.inl hq.1) (by rw [ajSz_2 hq]; decide) (by rw [e]; first | omega | decide)
theorem ajKw_2_4 {q : Nat} (hq : ajKw q 2) : ajKw (q + 4) 100 := (by decide +kernel : ∀ q < 343, (ajSh q).1 = 2 → ((q + 4) < 343 ∧ (ajSh (q + 4)).1 = 100)) q hq.1 hq.2
theorem ajLn_2_4 {h : ajH} {q : Nat} (hq : ajKw q 2) : ajLen h (q + 4) = 8 := by
  have e := (by decide +kernel : ∀ q < 343, (ajSh q).1 = 2 → (ajSh (q + 4)).2 = 8) q hq.1 hq.2
  have h1 := hq.1
  unfold ajLen
  rw [if_neg (by omega), e]
theorem ajRf_2_5 {h : ajH} {q : Nat} (s : ajShp h) (hq : ajKw q 2) : ajR h q 5 = (q + 5) := by
  have e : ajRf q 5 = (q + 5) := by unfold ajRf; rw [hq.2] <;> rfl
  rw [← e]
  exact s.2 q 5 (Or.inl hq.1) (by rw [ajSz_2 hq]; decide) (by rw [e]; first | omega | decide)
theorem ajKw_2_5 {q : Nat} (hq : ajKw q 2) : ajKw (q + 5) 100 := (by decide +kernel : ∀ q < 343, (ajSh q).1 = 2 → ((q + 5) < 343 ∧ (ajSh (q + 5)).1 = 100)) q hq.1 hq.2
theorem ajLn_2_5 {h : ajH} {q : Nat} (hq : ajKw q 2) : ajLen h (q + 5) = 8 := by
  have e := (by decide +kernel : ∀ q < 343, (ajSh q).1 = 2 → (ajSh (q + 5)).2 = 8) q hq.1 hq.2
  have h1 := hq.1
  unfold ajLen
  rw [if_neg (by omega), e]
theorem ajSz_3 {q : Nat} (hq : ajKw q 3) : (ajSh q).2 = 4 := (by decide +kernel : ∀ q < 343, (ajSh q).1 = 3 → (ajSh q).2 = 4) q hq.1 hq.2
theorem ajRf_3_0 {h : ajH} {q : Nat} (s : ajShp h) (hq : ajKw q 3) : ajR h q 0 = (q + 1) := by
  have e : ajRf q 0 = (q + 1) := by unfold ajRf; rw [hq.2] <;> rfl
  rw [← e]
  exact s.2 q 0 (Or.inl hq.1) (by rw [ajSz_3 hq]; decide) (by rw [e]; first | omega | decide)
theorem ajKw_3_0 {q : Nat} (hq : ajKw q 3) : ajKw (q + 1) 100 := (by decide +kernel : ∀ q < 343, (ajSh q).1 = 3 → ((q + 1) < 343 ∧ (ajSh (q + 1)).1 = 100)) q hq.1 hq.2
theorem ajLn_3_0 {h : ajH} {q : Nat} (hq : ajKw q 3) : ajLen h (q + 1) = 256 := by
  have e := (by decide +kernel : ∀ q < 343, (ajSh q).1 = 3 → (ajSh (q + 1)).2 = 256) q hq.1 hq.2
  have h1 := hq.1
  unfold ajLen
  rw [if_neg (by omega), e]
theorem ajRf_3_1 {h : ajH} {q : Nat} (s : ajShp h) (hq : ajKw q 3) : ajR h q 1 = (q + 2) := by
  have e : ajRf q 1 = (q + 2) := by unfold ajRf; rw [hq.2] <;> rfl
  rw [← e]
  exact s.2 q 1 (Or.inl hq.1) (by rw [ajSz_3 hq]; decide) (by rw [e]; first | omega | decide)
theorem ajKw_3_1 {q : Nat} (hq : ajKw q 3) : ajKw (q + 2) 100 := (by decide +kernel : ∀ q < 343, (ajSh q).1 = 3 → ((q + 2) < 343 ∧ (ajSh (q + 2)).1 = 100)) q hq.1 hq.2
theorem ajLn_3_1 {h : ajH} {q : Nat} (hq : ajKw q 3) : ajLen h (q + 2) = 64 := by
  have e := (by decide +kernel : ∀ q < 343, (ajSh q).1 = 3 → (ajSh (q + 2)).2 = 64) q hq.1 hq.2
  have h1 := hq.1
  unfold ajLen
  rw [if_neg (by omega), e]
theorem ajRf_3_2 {h : ajH} {q : Nat} (s : ajShp h) (hq : ajKw q 3) : ajR h q 2 = (q + 3) := by
  have e : ajRf q 2 = (q + 3) := by unfold ajRf; rw [hq.2] <;> rfl
  rw [← e]
  exact s.2 q 2 (Or.inl hq.1) (by rw [ajSz_3 hq]; decide) (by rw [e]; first | omega | decide)
theorem ajKw_3_2 {q : Nat} (hq : ajKw q 3) : ajKw (q + 3) 100 := (by decide +kernel : ∀ q < 343, (ajSh q).1 = 3 → ((q + 3) < 343 ∧ (ajSh (q + 3)).1 = 100)) q hq.1 hq.2
theorem ajLn_3_2 {h : ajH} {q : Nat} (hq : ajKw q 3) : ajLen h (q + 3) = 6 := by
  have e := (by decide +kernel : ∀ q < 343, (ajSh q).1 = 3 → (ajSh (q + 3)).2 = 6) q hq.1 hq.2
  have h1 := hq.1
  unfold ajLen
  rw [if_neg (by omega), e]
theorem ajSz_4 {q : Nat} (hq : ajKw q 4) : (ajSh q).2 = 3 := (by decide +kernel : ∀ q < 343, (ajSh q).1 = 4 → (ajSh q).2 = 3) q hq.1 hq.2
theorem ajRf_4_1 {h : ajH} {q : Nat} (s : ajShp h) (hq : ajKw q 4) : ajR h q 1 = (q + 1) := by
  have e : ajRf q 1 = (q + 1) := by unfold ajRf; rw [hq.2] <;> rfl
  rw [← e]
  exact s.2 q 1 (Or.inl hq.1) (by rw [ajSz_4 hq]; decide) (by rw [e]; first | omega | decide)
theorem ajKw_4_1 {q : Nat} (hq : ajKw q 4) : ajKw (q + 1) 100 := (by decide +kernel : ∀ q < 343, (ajSh q).1 = 4 → ((q + 1) < 343 ∧ (ajSh (q + 1)).1 = 100)) q hq.1 hq.2
theorem ajLn_4_1 {h : ajH} {q : Nat} (hq : ajKw q 4) : ajLen h (q + 1) = 16 := by
  have e := (by decide +kernel : ∀ q < 343, (ajSh q).1 = 4 → (ajSh (q + 1)).2 = 16) q hq.1 hq.2
  have h1 := hq.1
  unfold ajLen
  rw [if_neg (by omega), e]
theorem ajRf_4_2 {h : ajH} {q : Nat} (s : ajShp h) (hq : ajKw q 4) : ajR h q 2 = (q + 2) := by
  have e : ajRf q 2 = (q + 2) := by unfold ajRf; rw [hq.2] <;> rfl
  rw [← e]
  exact s.2 q 2 (Or.inl hq.1) (by rw [ajSz_4 hq]; decide) (by rw [e]; first | omega | decide)
theorem ajKw_4_2 {q : Nat} (hq : ajKw q 4) : ajKw (q + 2) 100 := (by decide +kernel : ∀ q < 343, (ajSh q).1 = 4 → ((q + 2) < 343 ∧ (ajSh (q + 2)).1 = 100)) q hq.1 hq.2
theorem ajLn_4_2 {h : ajH} {q : Nat} (hq : ajKw q 4) : ajLen h (q + 2) = 16 := by
  have e := (by decide +kernel : ∀ q < 343, (ajSh q).1 = 4 → (ajSh (q + 2)).2 = 16) q hq.1 hq.2
  have h1 := hq.1
  unfold ajLen
  rw [if_neg (by omega), e]
theorem ajSz_5 {q : Nat} (hq : ajKw q 5) : (ajSh q).2 = 2 := (by decide +kernel : ∀ q < 343, (ajSh q).1 = 5 → (ajSh q).2 = 2) q hq.1 hq.2
theorem ajRf_5_0 {h : ajH} {q : Nat} (s : ajShp h) (hq : ajKw q 5) : ajR h q 0 = 2 := by
  have e : ajRf q 0 = 2 := by unfold ajRf; rw [hq.2] <;> rfl
  rw [← e]
  exact s.2 q 0 (Or.inl hq.1) (by rw [ajSz_5 hq]; decide) (by rw [e]; first | omega | decide)
theorem ajRf_5_1 {h : ajH} {q : Nat} (s : ajShp h) (hq : ajKw q 5) : ajR h q 1 = 47 := by
  have e : ajRf q 1 = 47 := by unfold ajRf; rw [hq.2] <;> rfl
  rw [← e]
  exact s.2 q 1 (Or.inl hq.1) (by rw [ajSz_5 hq]; decide) (by rw [e]; first | omega | decide)
theorem ajSz_6 {q : Nat} (hq : ajKw q 6) : (ajSh q).2 = 16 := (by decide +kernel : ∀ q < 343, (ajSh q).1 = 6 → (ajSh q).2 = 16) q hq.1 hq.2
theorem ajRf_6_8 {h : ajH} {q : Nat} (s : ajShp h) (hq : ajKw q 6) : ajR h q 8 = (q + 1) := by
  have e : ajRf q 8 = (q + 1) := by unfold ajRf; rw [hq.2] <;> rfl
  rw [← e]
  exact s.2 q 8 (Or.inl hq.1) (by rw [ajSz_6 hq]; decide) (by rw [e]; first | omega | decide)
theorem ajKw_6_8 {q : Nat} (hq : ajKw q 6) : ajKw (q + 1) 100 := (by decide +kernel : ∀ q < 343, (ajSh q).1 = 6 → ((q + 1) < 343 ∧ (ajSh (q + 1)).1 = 100)) q hq.1 hq.2
theorem ajLn_6_8 {h : ajH} {q : Nat} (hq : ajKw q 6) : ajLen h (q + 1) = 8 := by
  have e := (by decide +kernel : ∀ q < 343, (ajSh q).1 = 6 → (ajSh (q + 1)).2 = 8) q hq.1 hq.2
  have h1 := hq.1
  unfold ajLen
  rw [if_neg (by omega), e]
theorem ajRf_6_9 {h : ajH} {q : Nat} (s : ajShp h) (hq : ajKw q 6) : ajR h q 9 = (q + 2) := by
  have e : ajRf q 9 = (q + 2) := by unfold ajRf; rw [hq.2] <;> rfl
  rw [← e]
  exact s.2 q 9 (Or.inl hq.1) (by rw [ajSz_6 hq]; decide) (by rw [e]; first | omega | decide)
theorem ajKw_6_9 {q : Nat} (hq : ajKw q 6) : ajKw (q + 2) 100 := (by decide +kernel : ∀ q < 343, (ajSh q).1 = 6 → ((q + 2) < 343 ∧ (ajSh (q + 2)).1 = 100)) q hq.1 hq.2
theorem ajLn_6_9 {h : ajH} {q : Nat} (hq : ajKw q 6) : ajLen h (q + 2) = 60 := by
  have e := (by decide +kernel : ∀ q < 343, (ajSh q).1 = 6 → (ajSh (q + 2)).2 = 60) q hq.1 hq.2
  have h1 := hq.1
  unfold ajLen
  rw [if_neg (by omega), e]
theorem ajRf_6_11 {h : ajH} {q : Nat} (s : ajShp h) (hq : ajKw q 6) : ajR h q 11 = (q + 3) := by
  have e : ajRf q 11 = (q + 3) := by unfold ajRf; rw [hq.2] <;> rfl
  rw [← e]
  exact s.2 q 11 (Or.inl hq.1) (by rw [ajSz_6 hq]; decide) (by rw [e]; first | omega | decide)
theorem ajKw_6_11 {q : Nat} (hq : ajKw q 6) : ajKw (q + 3) 100 := (by decide +kernel : ∀ q < 343, (ajSh q).1 = 6 → ((q + 3) < 343 ∧ (ajSh (q + 3)).1 = 100)) q hq.1 hq.2
theorem ajLn_6_11 {h : ajH} {q : Nat} (hq : ajKw q 6) : ajLen h (q + 3) = 8 := by
  have e := (by decide +kernel : ∀ q < 343, (ajSh q).1 = 6 → (ajSh (q + 3)).2 = 8) q hq.1 hq.2
  have h1 := hq.1
  unfold ajLen
  rw [if_neg (by omega), e]
theorem ajRf_6_12 {h : ajH} {q : Nat} (s : ajShp h) (hq : ajKw q 6) : ajR h q 12 = (q + 4) := by
  have e : ajRf q 12 = (q + 4) := by unfold ajRf; rw [hq.2] <;> rfl
  rw [← e]
  exact s.2 q 12 (Or.inl hq.1) (by rw [ajSz_6 hq]; decide) (by rw [e]; first | omega | decide)
theorem ajKw_6_12 {q : Nat} (hq : ajKw q 6) : ajKw (q + 4) 100 := (by decide +kernel : ∀ q < 343, (ajSh q).1 = 6 → ((q + 4) < 343 ∧ (ajSh (q + 4)).1 = 100)) q hq.1 hq.2
theorem ajLn_6_12 {h : ajH} {q : Nat} (hq : ajKw q 6) : ajLen h (q + 4) = 8 := by
  have e := (by decide +kernel : ∀ q < 343, (ajSh q).1 = 6 → (ajSh (q + 4)).2 = 8) q hq.1 hq.2
  have h1 := hq.1
  unfold ajLen
  rw [if_neg (by omega), e]
theorem ajSz_7 {q : Nat} (hq : ajKw q 7) : (ajSh q).2 = 3 := (by decide +kernel : ∀ q < 343, (ajSh q).1 = 7 → (ajSh q).2 = 3) q hq.1 hq.2
theorem ajRf_7_0 {h : ajH} {q : Nat} (s : ajShp h) (hq : ajKw q 7) : ajR h q 0 = 70 := by
  have e : ajRf q 0 = 70 := by unfold ajRf; rw [hq.2] <;> rfl
  rw [← e]
  exact s.2 q 0 (Or.inl hq.1) (by rw [ajSz_7 hq]; decide) (by rw [e]; first | omega | decide)
theorem ajSz_8 {q : Nat} (hq : ajKw q 8) : (ajSh q).2 = 6 := (by decide +kernel : ∀ q < 343, (ajSh q).1 = 8 → (ajSh q).2 = 6) q hq.1 hq.2
theorem ajRf_8_5 {h : ajH} {q : Nat} (s : ajShp h) (hq : ajKw q 8) : ajR h q 5 = 272 := by
  have e : ajRf q 5 = 272 := by unfold ajRf; rw [hq.2] <;> rfl
  rw [← e]
  exact s.2 q 5 (Or.inl hq.1) (by rw [ajSz_8 hq]; decide) (by rw [e]; first | omega | decide)
theorem ajSz_9 {q : Nat} (hq : ajKw q 9) : (ajSh q).2 = 7 := (by decide +kernel : ∀ q < 343, (ajSh q).1 = 9 → (ajSh q).2 = 7) q hq.1 hq.2
theorem ajRf_9_0 {h : ajH} {q : Nat} (s : ajShp h) (hq : ajKw q 9) : ajR h q 0 = 274 := by
  have e : ajRf q 0 = 274 := by unfold ajRf; rw [hq.2] <;> rfl
  rw [← e]
  exact s.2 q 0 (Or.inl hq.1) (by rw [ajSz_9 hq]; decide) (by rw [e]; first | omega | decide)
theorem ajRf_9_1 {h : ajH} {q : Nat} (s : ajShp h) (hq : ajKw q 9) : ajR h q 1 = 4 := by
  have e : ajRf q 1 = 4 := by unfold ajRf; rw [hq.2] <;> rfl
  rw [← e]
  exact s.2 q 1 (Or.inl hq.1) (by rw [ajSz_9 hq]; decide) (by rw [e]; first | omega | decide)
theorem ajSz_10 {q : Nat} (hq : ajKw q 10) : (ajSh q).2 = 49 := (by decide +kernel : ∀ q < 343, (ajSh q).1 = 10 → (ajSh q).2 = 49) q hq.1 hq.2
theorem ajRf_10_1 {h : ajH} {q : Nat} (s : ajShp h) (hq : ajKw q 10) : ajR h q 1 = 321 := by
  have e : ajRf q 1 = 321 := by unfold ajRf; rw [hq.2] <;> rfl
  rw [← e]
  exact s.2 q 1 (Or.inl hq.1) (by rw [ajSz_10 hq]; decide) (by rw [e]; first | omega | decide)
theorem ajRf_10_2 {h : ajH} {q : Nat} (s : ajShp h) (hq : ajKw q 10) : ajR h q 2 = 322 := by
  have e : ajRf q 2 = 322 := by unfold ajRf; rw [hq.2] <;> rfl
  rw [← e]
  exact s.2 q 2 (Or.inl hq.1) (by rw [ajSz_10 hq]; decide) (by rw [e]; first | omega | decide)
theorem ajRf_10_3 {h : ajH} {q : Nat} (s : ajShp h) (hq : ajKw q 10) : ajR h q 3 = 323 := by
  have e : ajRf q 3 = 323 := by unfold ajRf; rw [hq.2] <;> rfl
  rw [← e]
  exact s.2 q 3 (Or.inl hq.1) (by rw [ajSz_10 hq]; decide) (by rw [e]; first | omega | decide)
theorem ajRf_10_4 {h : ajH} {q : Nat} (s : ajShp h) (hq : ajKw q 10) : ajR h q 4 = 324 := by
  have e : ajRf q 4 = 324 := by unfold ajRf; rw [hq.2] <;> rfl
  rw [← e]
  exact s.2 q 4 (Or.inl hq.1) (by rw [ajSz_10 hq]; decide) (by rw [e]; first | omega | decide)
theorem ajRf_10_15 {h : ajH} {q : Nat} (s : ajShp h) (hq : ajKw q 10) : ajR h q 15 = 1015 := by
  have e : ajRf q 15 = 1015 := by unfold ajRf; rw [hq.2] <;> rfl
  rw [← e]
  exact s.2 q 15 (Or.inl hq.1) (by rw [ajSz_10 hq]; decide) (by rw [e]; first | omega | decide)
theorem ajRf_10_16 {h : ajH} {q : Nat} (s : ajShp h) (hq : ajKw q 10) : ajR h q 16 = 1010 := by
  have e : ajRf q 16 = 1010 := by unfold ajRf; rw [hq.2] <;> rfl
  rw [← e]
  exact s.2 q 16 (Or.inl hq.1) (by rw [ajSz_10 hq]; decide) (by rw [e]; first | omega | decide)
theorem ajRf_10_18 {h : ajH} {q : Nat} (s : ajShp h) (hq : ajKw q 10) : ajR h q 18 = 325 := by
  have e : ajRf q 18 = 325 := by unfold ajRf; rw [hq.2] <;> rfl
  rw [← e]
  exact s.2 q 18 (Or.inl hq.1) (by rw [ajSz_10 hq]; decide) (by rw [e]; first | omega | decide)
theorem ajRf_10_19 {h : ajH} {q : Nat} (s : ajShp h) (hq : ajKw q 10) : ajR h q 19 = 326 := by
  have e : ajRf q 19 = 326 := by unfold ajRf; rw [hq.2] <;> rfl
  rw [← e]
  exact s.2 q 19 (Or.inl hq.1) (by rw [ajSz_10 hq]; decide) (by rw [e]; first | omega | decide)
theorem ajRf_10_20 {h : ajH} {q : Nat} (s : ajShp h) (hq : ajKw q 10) : ajR h q 20 = 327 := by
  have e : ajRf q 20 = 327 := by unfold ajRf; rw [hq.2] <;> rfl
  rw [← e]
  exact s.2 q 20 (Or.inl hq.1) (by rw [ajSz_10 hq]; decide) (by rw [e]; first | omega | decide)
theorem ajRf_10_21 {h : ajH} {q : Nat} (s : ajShp h) (hq : ajKw q 10) : ajR h q 21 = 328 := by
  have e : ajRf q 21 = 328 := by unfold ajRf; rw [hq.2] <;> rfl
  rw [← e]
  exact s.2 q 21 (Or.inl hq.1) (by rw [ajSz_10 hq]; decide) (by rw [e]; first | omega | decide)
theorem ajRf_10_22 {h : ajH} {q : Nat} (s : ajShp h) (hq : ajKw q 10) : ajR h q 22 = 329 := by
  have e : ajRf q 22 = 329 := by unfold ajRf; rw [hq.2] <;> rfl
  rw [← e]
  exact s.2 q 22 (Or.inl hq.1) (by rw [ajSz_10 hq]; decide) (by rw [e]; first | omega | decide)
theorem ajRf_10_23 {h : ajH} {q : Nat} (s : ajShp h) (hq : ajKw q 10) : ajR h q 23 = 330 := by
  have e : ajRf q 23 = 330 := by unfold ajRf; rw [hq.2] <;> rfl
  rw [← e]
  exact s.2 q 23 (Or.inl hq.1) (by rw [ajSz_10 hq]; decide) (by rw [e]; first | omega | decide)
theorem ajRf_10_28 {h : ajH} {q : Nat} (s : ajShp h) (hq : ajKw q 10) : ajR h q 28 = 331 := by
  have e : ajRf q 28 = 331 := by unfold ajRf; rw [hq.2] <;> rfl
  rw [← e]
  exact s.2 q 28 (Or.inl hq.1) (by rw [ajSz_10 hq]; decide) (by rw [e]; first | omega | decide)
theorem ajRf_10_29 {h : ajH} {q : Nat} (s : ajShp h) (hq : ajKw q 10) : ajR h q 29 = 332 := by
  have e : ajRf q 29 = 332 := by unfold ajRf; rw [hq.2] <;> rfl
  rw [← e]
  exact s.2 q 29 (Or.inl hq.1) (by rw [ajSz_10 hq]; decide) (by rw [e]; first | omega | decide)
theorem ajRf_10_32 {h : ajH} {q : Nat} (s : ajShp h) (hq : ajKw q 10) : ajR h q 32 = 333 := by
  have e : ajRf q 32 = 333 := by unfold ajRf; rw [hq.2] <;> rfl
  rw [← e]
  exact s.2 q 32 (Or.inl hq.1) (by rw [ajSz_10 hq]; decide) (by rw [e]; first | omega | decide)
theorem ajRf_10_33 {h : ajH} {q : Nat} (s : ajShp h) (hq : ajKw q 10) : ajR h q 33 = 334 := by
  have e : ajRf q 33 = 334 := by unfold ajRf; rw [hq.2] <;> rfl
  rw [← e]
  exact s.2 q 33 (Or.inl hq.1) (by rw [ajSz_10 hq]; decide) (by rw [e]; first | omega | decide)
theorem ajRf_10_34 {h : ajH} {q : Nat} (s : ajShp h) (hq : ajKw q 10) : ajR h q 34 = 335 := by
  have e : ajRf q 34 = 335 := by unfold ajRf; rw [hq.2] <;> rfl
  rw [← e]
  exact s.2 q 34 (Or.inl hq.1) (by rw [ajSz_10 hq]; decide) (by rw [e]; first | omega | decide)
theorem ajRf_10_35 {h : ajH} {q : Nat} (s : ajShp h) (hq : ajKw q 10) : ajR h q 35 = 336 := by
  have e : ajRf q 35 = 336 := by unfold ajRf; rw [hq.2] <;> rfl
  rw [← e]
  exact s.2 q 35 (Or.inl hq.1) (by rw [ajSz_10 hq]; decide) (by rw [e]; first | omega | decide)
theorem ajRf_10_38 {h : ajH} {q : Nat} (s : ajShp h) (hq : ajKw q 10) : ajR h q 38 = 337 := by
  have e : ajRf q 38 = 337 := by unfold ajRf; rw [hq.2] <;> rfl
  rw [← e]
  exact s.2 q 38 (Or.inl hq.1) (by rw [ajSz_10 hq]; decide) (by rw [e]; first | omega | decide)
theorem ajRf_10_41 {h : ajH} {q : Nat} (s : ajShp h) (hq : ajKw q 10) : ajR h q 41 = 338 := by
  have e : ajRf q 41 = 338 := by unfold ajRf; rw [hq.2] <;> rfl
  rw [← e]
  exact s.2 q 41 (Or.inl hq.1) (by rw [ajSz_10 hq]; decide) (by rw [e]; first | omega | decide)
theorem ajRf_10_44 {h : ajH} {q : Nat} (s : ajShp h) (hq : ajKw q 10) : ajR h q 44 = 339 := by
  have e : ajRf q 44 = 339 := by unfold ajRf; rw [hq.2] <;> rfl
  rw [← e]
  exact s.2 q 44 (Or.inl hq.1) (by rw [ajSz_10 hq]; decide) (by rw [e]; first | omega | decide)
theorem ajRf_10_46 {h : ajH} {q : Nat} (s : ajShp h) (hq : ajKw q 10) : ajR h q 46 = 340 := by
  have e : ajRf q 46 = 340 := by unfold ajRf; rw [hq.2] <;> rfl
  rw [← e]
  exact s.2 q 46 (Or.inl hq.1) (by rw [ajSz_10 hq]; decide) (by rw [e]; first | omega | decide)
theorem ajRf_10_47 {h : ajH} {q : Nat} (s : ajShp h) (hq : ajKw q 10) : ajR h q 47 = 341 := by
  have e : ajRf q 47 = 341 := by unfold ajRf; rw [hq.2] <;> rfl
  rw [← e]
  exact s.2 q 47 (Or.inl hq.1) (by rw [ajSz_10 hq]; decide) (by rw [e]; first | omega | decide)
theorem ajSz_50 {q : Nat} (hq : ajKi q 50) : (ajSh q).2 = 2 := by
  rcases hq.1 with h1 | h1
  · exact absurd hq.2 ((by decide +kernel : ∀ q < 343, (ajSh q).1 ≠ 50) q h1)
  · by_cases h2 : q < 1200
    · have h3 := (by decide +kernel : ∀ j < 200, (ajSh (1000 + j)).1 = 50 → (ajSh (1000 + j)).2 = 2) (q - 1000) (by omega)
      have e : 1000 + (q - 1000) = q := by omega
      rw [e] at h3
      exact h3 hq.2
    · exfalso
      have h3 : ajSh q = (999, 0) := by
        unfold ajSh
        rw [Nat.ble_eq_true_of_le h1]
        have h5 : ajShC.length ≤ 200 := by decide +kernel
        have h6 : ajShC[q - 1000]? = none := List.getElem?_eq_none (by omega)
        show ajShC.getD (q - 1000) (999, 0) = (999, 0)
        rw [List.getD_eq_getElem?_getD, h6]
        rfl
      have h4 := hq.2
      rw [h3] at h4
      exact absurd h4 (by decide)
theorem ajRf_50_1 {h : ajH} {q : Nat} (s : ajShp h) (hq : ajKi q 50) : ajR h q 1 = (q + 20) := by
  have e : ajRf q 1 = (q + 20) := by unfold ajRf; rw [hq.2] <;> rfl
  rw [← e]
  exact s.2 q 1 (hq.1) (by rw [ajSz_50 hq]; decide) (by rw [e]; first | omega | decide)
theorem ajKw_50_1 {q : Nat} (hq : ajKi q 50) : ajKi (q + 20) 101 := by
  rcases hq.1 with h1 | h1
  · exact absurd hq.2 ((by decide +kernel : ∀ q < 343, (ajSh q).1 ≠ 50) q h1)
  · by_cases h2 : q < 1200
    · have h3 := (by decide +kernel : ∀ j < 200, (ajSh (1000 + j)).1 = 50 → (ajSh (1000 + j + 20)).1 = 101) (q - 1000) (by omega)
      have e : 1000 + (q - 1000) = q := by omega
      rw [e] at h3
      exact ⟨Or.inr (by omega), h3 hq.2⟩
    · exfalso
      have h3 : ajSh q = (999, 0) := by
        unfold ajSh
        rw [Nat.ble_eq_true_of_le h1]
        have h5 : ajShC.length ≤ 200 := by decide +kernel
        have h6 : ajShC[q - 1000]? = none := List.getElem?_eq_none (by omega)
        show ajShC.getD (q - 1000) (999, 0) = (999, 0)
        rw [List.getD_eq_getElem?_getD, h6]
        rfl
      have h4 := hq.2
      rw [h3] at h4
      exact absurd h4 (by decide)
theorem ajLenC {h : ajH} {a n : Nat} (e : (Nat.blt a 1100 && Nat.beq (ajSh a).2 n) = true) : ajLen h a = n := by
  rw [Bool.and_eq_true, Nat.blt_eq, Nat.beq_eq] at e
  unfold ajLen
  rw [if_neg (by omega), e.2]
theorem ajIn_n {i : Int32} {n : Nat} (h : ajIn i n) : i.toNatClampNeg < n := by
  have h1 : ¬ (i < 0 ∨ n ≤ i.toNatClampNeg) := h
  by_cases h2 : n ≤ i.toNatClampNeg
  · exact absurd (Or.inr h2) h1
  · omega
theorem ajRa_16 {h : ajH} {i : Int32} (s : ajShp h) (hi : ajIn i 4) : ajR h 16 i.toNatClampNeg = 18 + 7 * i.toNatClampNeg := by
  have hf := ajIn_n hi
  generalize i.toNatClampNeg = f at hf ⊢
  have e : ajRf 16 f = 18 + 7 * f := rfl
  rw [← e]
  exact s.2 16 f (Or.inl (by decide)) hf (by rw [e]; omega)
theorem ajKa_16 {i : Int32} (hi : ajIn i 4) : ajKw (18 + 7 * i.toNatClampNeg) 3 := by
  have hf := ajIn_n hi
  generalize i.toNatClampNeg = f at hf ⊢
  exact (by decide +kernel : ∀ f < 4, (18 + 7 * f < 343 ∧ (ajSh (18 + 7 * f)).1 = 3)) f hf
theorem ajRa_17 {h : ajH} {i : Int32} (s : ajShp h) (hi : ajIn i 4) : ajR h 17 i.toNatClampNeg = 22 + 7 * i.toNatClampNeg := by
  have hf := ajIn_n hi
  generalize i.toNatClampNeg = f at hf ⊢
  have e : ajRf 17 f = 22 + 7 * f := rfl
  rw [← e]
  exact s.2 17 f (Or.inl (by decide)) hf (by rw [e]; omega)
theorem ajKa_17 {i : Int32} (hi : ajIn i 4) : ajKw (22 + 7 * i.toNatClampNeg) 4 := by
  have hf := ajIn_n hi
  generalize i.toNatClampNeg = f at hf ⊢
  exact (by decide +kernel : ∀ f < 4, (22 + 7 * f < 343 ∧ (ajSh (22 + 7 * f)).1 = 4)) f hf
theorem ajRa_70 {h : ajH} {i : Int32} (s : ajShp h) (hi : ajIn i 40) : ajR h 70 i.toNatClampNeg = 71 + 5 * i.toNatClampNeg := by
  have hf := ajIn_n hi
  generalize i.toNatClampNeg = f at hf ⊢
  have e : ajRf 70 f = 71 + 5 * f := rfl
  rw [← e]
  exact s.2 70 f (Or.inl (by decide)) hf (by rw [e]; omega)
theorem ajKa_70 {i : Int32} (hi : ajIn i 40) : ajKw (71 + 5 * i.toNatClampNeg) 6 := by
  have hf := ajIn_n hi
  generalize i.toNatClampNeg = f at hf ⊢
  exact (by decide +kernel : ∀ f < 40, (71 + 5 * f < 343 ∧ (ajSh (71 + 5 * f)).1 = 6)) f hf
theorem ajRa_274 {h : ajH} {i : Int32} (s : ajShp h) (hi : ajIn i 9) : ajR h 274 i.toNatClampNeg = 275 + 5 * i.toNatClampNeg := by
  have hf := ajIn_n hi
  generalize i.toNatClampNeg = f at hf ⊢
  have e : ajRf 274 f = 275 + 5 * f := rfl
  rw [← e]
  exact s.2 274 f (Or.inl (by decide)) hf (by rw [e]; omega)
theorem ajKa_274 {i : Int32} (hi : ajIn i 9) : ajKw (275 + 5 * i.toNatClampNeg) 6 := by
  have hf := ajIn_n hi
  generalize i.toNatClampNeg = f at hf ⊢
  exact (by decide +kernel : ∀ f < 9, (275 + 5 * f < 343 ∧ (ajSh (275 + 5 * f)).1 = 6)) f hf
def ajCtor : List Nat := [0, 1, 2, 3, 4, 5, 6, 7, 8, 9, 138, 263]
/-- methods that make nothing and leave the references as they are -/
def ajQuM (mi : Nat) : Bool := !(ajCtor.contains mi)
def ajQuE (en : ajE) : Bool := match en.1 with
  | .new _ => false
  | .newarray _ => false
  | .anewarray _ => false
  | .aastore => false
  | .putfield _ => !(Nat.beq en.2.2.2.2.1 2) || (Nat.beq en.2.2.1 9 && Nat.beq en.2.2.2.1 2) || (Nat.beq en.2.2.1 10 && Nat.beq en.2.2.2.1 5)
  | .invokevirtual _ => !(Nat.beq en.2.2.1 501) && (Nat.ble 500 en.2.2.1 || ajQuM en.2.2.1)
  | .invokestatic _ => !(Nat.beq en.2.2.1 501) && (Nat.ble 500 en.2.2.1 || ajQuM en.2.2.1)
  | .invokespecial _ => !(Nat.beq en.2.2.1 501) && (Nat.ble 500 en.2.2.1 || ajQuM en.2.2.1)
  | _ => true
def ajQuT (i : Nat) (t : List (List (Nat × ajE))) : Bool := !(ajQuM i) || t.all (fun r => r.all (fun q => ajQuE q.2))
def ajQuA (k : Nat) : List (List (List (Nat × ajE))) → Bool
  | [] => true
  | t :: r => ajQuT k t && ajQuA (k + 1) r
theorem ajQuA_all : ajQuA 0 ajTs = true := by decide +kernel
theorem ajQuA_at : ∀ (l : List (List (List (Nat × ajE)))) (k i : Nat) (t : List (List (Nat × ajE))), ajQuA k l = true → l[i]? = some t → ajQuT (k + i) t = true
  | [], _, _, _, _, h => by simp at h
  | a :: l, k, 0, t, hg, h => by
    rw [List.getElem?_cons_zero] at h
    cases h
    unfold ajQuA at hg
    rw [Bool.and_eq_true] at hg
    exact hg.1
  | a :: l, k, i + 1, t, hg, h => by
    rw [List.getElem?_cons_succ] at h
    unfold ajQuA at hg
    rw [Bool.and_eq_true] at hg
    have h1 := ajQuA_at l (k + 1) i t hg.2 h
    rwa [show k + 1 + i = k + (i + 1) by omega] at h1
theorem ajFind_in : ∀ (l : List (Nat × ajE)) (p : Nat) (en : ajE), ajFind p l = some en → (p, en) ∈ l
  | [], _, _, h => by cases h
  | (q, e) :: r, p, en, h => by
    unfold ajFind at h
    split at h
    · rename_i hb
      rw [Nat.beq_eq] at hb
      subst hb
      cases h
      exact List.mem_cons_self
    · exact List.mem_cons_of_mem _ (ajFind_in r p en h)
theorem ajQu_all {mi pc : Nat} {en : ajE} (h : ajCode mi pc = some en) (hq : ajQuM mi = true) : ajQuE en = true := by
  have h1 := ajFind_in _ _ _ h
  cases ht : ajTs[mi]? with
  | none =>
    rw [List.getD_eq_getElem?_getD, List.getD_eq_getElem?_getD, ht] at h1
    simp at h1
  | some t =>
    have h2 := ajQuA_at ajTs 0 mi t ajQuA_all ht
    rw [Nat.zero_add] at h2
    unfold ajQuT at h2
    rw [hq, Bool.not_true, Bool.false_or] at h2
    rw [List.getD_eq_getElem?_getD, List.getD_eq_getElem?_getD, ht] at h1
    dsimp only [Option.getD_some] at h1
    cases hc : t[pc / 64]? with
    | none =>
      rw [hc] at h1
      simp at h1
    | some ch =>
      rw [hc] at h1
      dsimp only [Option.getD_some] at h1
      exact List.all_eq_true.mp (List.all_eq_true.mp h2 ch (List.mem_of_getElem? hc)) (pc, en) h1
/-- what stays -/
def ajKp (h h' : ajH) : Prop := h'.1 = h.1 ∧ ∀ o f, ajRf o f ≠ 0 → ajR h' o f = ajR h o f
theorem ajKp_refl (h : ajH) : ajKp h h := ⟨rfl, fun _ _ _ => rfl⟩
theorem ajKp_trans {h h1 h2 : ajH} (a : ajKp h h1) (b : ajKp h1 h2) : ajKp h h2 := ⟨b.1.trans a.1, fun o f z => (b.2 o f z).trans (a.2 o f z)⟩
theorem ajShpK {h h1 : ajH} (s : ajShp h) (a : ajKp h h1) : ajShp h1 := by
  refine ⟨?_, fun o f ho hf hz => ?_⟩
  · show h1.1.1 = 343
    rw [a.1]; exact s.1
  · rw [a.2 o f hz]; exact s.2 o f ho hf hz

/-- it comes to an end, and Q holds there -/
def ajEv (d mi pc : Nat) (ps st : List Value) (h : ajH) (Q : Option Value → ajH → Prop) : Prop := ∃ r h', ajLim d mi pc ps st h = some (r, h') ∧ Q r h'
theorem ajEv_mono {d mi pc : Nat} {ps st : List Value} {h : ajH} {Q Q' : Option Value → ajH → Prop} (hw : ajEv d mi pc ps st h Q) (hq : ∀ r h', Q r h' → Q' r h') : ajEv d mi pc ps st h Q' := by
  obtain ⟨r, h', e, q⟩ := hw
  exact ⟨r, h', e, hq r h' q⟩
theorem ajEv_eq {d mi pc pc' : Nat} {ps st ps' st' : List Value} {h h' : ajH} {Q : Option Value → ajH → Prop} (e : ajLim d mi pc ps st h = ajLim d mi pc' ps' st' h') (hw : ajEv d mi pc' ps' st' h' Q) : ajEv d mi pc ps st h Q := by
  unfold ajEv at hw ⊢
  rw [e]
  exact hw
/-- a simple step -/
theorem ajW_1 {d mi pc pc' : Nat} {ps st ps' st' : List Value} {h : ajH} {Q : Option Value → ajH → Prop} (e : ajNext mi pc ps st h = some (pc', ps', st', h)) (hw : ajEv d mi pc' ps' st' h Q) : ajEv d mi pc ps st h Q := ajEv_eq (ajE_1 e) hw
/-- a read behind a guard -/
theorem ajW_g {d mi pc pc' : Nat} {ps st ps' st' : List Value} {h : ajH} {Q : Option Value → ajH → Prop} {P : Prop} [Decidable P] (hk : (ajCode mi pc).map (fun en => ajKd en.1) = some 0) (e : ajNext mi pc ps st h = if P then some (pc', ps', st', h) else none) (p : P) (hw : ajEv d mi pc' ps' st' h Q) : ajEv d mi pc ps st h Q := ajEv_eq ((ajE_g hk e).trans (if_pos p)) hw
/-- a reference read, where one knows what it is -/
theorem ajW_r {d mi pc pc' o f w : Nat} {ps st ps' st' : List Value} {h : ajH} {Q : Option Value → ajH → Prop} {P : Prop} [Decidable P] (hk : (ajCode mi pc).map (fun en => ajKd en.1) = some 0) (e : ajNext mi pc ps st h = if P then some (pc', ps', .ref (ajR h o f) :: st', h) else none) (p : P) (er : ajR h o f = w) (hw : ajEv d mi pc' ps' (.ref w :: st') h Q) : ajEv d mi pc ps st h Q := by
  subst er
  exact ajW_g hk e p hw
/-- a write -/
theorem ajW_w {d mi pc pc' : Nat} {ps st ps' st' : List Value} {h h2 : ajH} {Q : Option Value → ajH → Prop} {P : Prop} [Decidable P] (hk : (ajCode mi pc).map (fun en => ajKd en.1) = some 0) (e : ajNext mi pc ps st h = if P then some (pc', ps', st', h2) else none) (p : P) (hw : ∀ h1, h1 = h2 → ajEv d mi pc' ps' st' h1 Q) : ajEv d mi pc ps st h Q := ajEv_eq ((ajE_g hk e).trans (if_pos p)) (hw h2 rfl)
theorem ajW_b {d mi pc p1 p2 : Nat} {ps st ps1 st1 ps2 st2 : List Value} {h : ajH} {Q : Option Value → ajH → Prop} {c : Prop} [Decidable c] (hk : (ajCode mi pc).map (fun en => ajKd en.1) = some 0) (e : ajNext mi pc ps st h = if decide c = true then some (p1, ps1, st1, h) else some (p2, ps2, st2, h)) (hw : if c then ajEv d mi p1 ps1 st1 h Q else ajEv d mi p2 ps2 st2 h Q) : ajEv d mi pc ps st h Q := by
  have e2 := ajE_b (d := d) hk e
  by_cases hc : c
  · rw [if_pos hc] at e2 hw; exact ajEv_eq e2 hw
  · rw [if_neg hc] at e2 hw; exact ajEv_eq e2 hw
theorem ajW_b0 {d mi pc p1 p2 : Nat} {ps st ps1 st1 ps2 st2 : List Value} {h : ajH} {Q : Option Value → ajH → Prop} {c x9 : Prop} [Decidable c] [Decidable x9] (hk : (ajCode mi pc).map (fun en => ajKd en.1) = some 0) (e : ajNext mi pc ps st h = if c then some (p1, ps1, st1, h) else if x9 then some (p2, ps2, st2, h) else none) (hw : if c then ajEv d mi p1 ps1 st1 h Q else (x9 ∧ ajEv d mi p2 ps2 st2 h Q)) : ajEv d mi pc ps st h Q := by
  have e2 := ajE_b0 (d := d) hk e
  by_cases hc : c
  · rw [if_pos hc] at e2 hw; exact ajEv_eq e2 hw
  · rw [if_neg hc] at e2 hw; rw [if_pos hw.1] at e2; exact ajEv_eq e2 hw.2
theorem ajIfM {c A B A' B' : Prop} [Decidable c] (f : A → A') (g : B → B') (h : if c then A else B) : if c then A' else B' := by
  by_cases hc : c
  · rw [if_pos hc] at h ⊢; exact f h
  · rw [if_neg hc] at h ⊢; exact g h
/-- a division -/
theorem ajW_d {d mi pc pc' : Nat} {ps st ps' st' : List Value} {h : ajH} {Q : Option Value → ajH → Prop} {c : Prop} [Decidable c] (hk : (ajCode mi pc).map (fun en => ajKd en.1) = some 0) (e : ajNext mi pc ps st h = if c then none else some (pc', ps', st', h)) (p : ¬ c) (hw : ajEv d mi pc' ps' st' h Q) : ajEv d mi pc ps st h Q := ajEv_eq ((ajE_d hk e).trans (if_neg p)) hw
/-- an end -/
theorem ajW_e {d mi pc : Nat} {ps st : List Value} {h : ajH} {r : Option Value} {Q : Option Value → ajH → Prop} (e : ∀ n, ajRun (n + 1) d mi pc ps st h = some (r, h)) (q : Q r h) : ajEv d mi pc ps st h Q := ⟨r, h, ajE_end e, q⟩
theorem ajW_eb {d mi pc : Nat} {ps st : List Value} {h : ajH} {r : Option Value} {Q : Option Value → ajH → Prop} {P : Prop} [Decidable P] (e : ∀ n, ajRun (n + 1) d mi pc ps st h = if decide P = true then some (r, h) else none) (p : P) (q : Q r h) : ajEv d mi pc ps st h Q := ⟨r, h, (ajE_end e).trans (if_pos (decide_eq_true p)), q⟩
/-- a call that is no call of the tables -/
theorem ajW_inl {d mi pc pc' : Nat} {en : ajE} {ps st ps' st' : List Value} {h h2 : ajH} {Q : Option Value → ajH → Prop} {P : Prop} [Decidable P] (hen : ajCode mi pc = some en) (hk : ajKd en.1 = 1) (e : ∀ n, ajInv n d mi pc en (ajKill mi pc ps) st h = if P then ajRun n d mi pc' ps' st' h2 else none) (p : P) (hw : ∀ h1, h1 = h2 → ajEv d mi pc' ps' st' h1 Q) : ajEv d mi pc ps st h Q := ajEv_eq ((ajE_inl hen hk e).trans (if_pos p)) (hw h2 rfl)
theorem ajW_mth {d mi pc pc' : Nat} {en : ajE} {ps st ps' st' : List Value} {h : ajH} {Q : Option Value → ajH → Prop} (hen : ajCode mi pc = some en) (hk : ajKd en.1 = 1) (e : ∀ n, ajInv n d mi pc en (ajKill mi pc ps) st h = if True then ajRun n d mi pc' ps' st' h else none) (hw : ajEv d mi pc' ps' st' h Q) : ajEv d mi pc ps st h Q := ajEv_eq ((ajE_inl hen hk e).trans (if_pos trivial)) hw
theorem ajIn_of {h : ajH} {a n : Nat} {i : Int32} (e : ajLen h a = n) (hi : ajIn i n) : ajIn i (ajLen h a) := by rw [e]; exact hi
theorem ajLe_of {h : ajH} {a n m : Nat} (e : ajLen h a = n) (hi : m ≤ n) : m ≤ ajLen h a := by rw [e]; exact hi
theorem ajLtN {h : ajH} {a : Nat} (s : ajShp h) (ha : a < 343) : a < ajN h := by rw [s.1]; exact ha
theorem ajAl_k {h : ajH} {a k : Nat} (s : ajShp h) (q : ajKi a k) (h1 : 100 ≤ k) (h2 : k < 106) : (a < ajN h ∨ 1000 ≤ a) ∧ 100 ≤ (ajSh a).1 ∧ (ajSh a).1 < 106 := ⟨by rw [s.1]; exact q.1, by rw [q.2]; exact h1, by rw [q.2]; exact h2⟩
theorem ajOfN {x : Nat} {n : Nat} (e : x = n) : Int32.ofNat x = Int32.ofNat n := by rw [e]
/-- a length read, where one knows what it is -/
theorem ajW_i {d mi pc pc' : Nat} {u w : Int32} {ps st ps' st' : List Value} {h : ajH} {Q : Option Value → ajH → Prop} {P : Prop} [Decidable P] (hk : (ajCode mi pc).map (fun en => ajKd en.1) = some 0) (e : ajNext mi pc ps st h = if P then some (pc', ps', .int u :: st', h) else none) (p : P) (er : u = w) (hw : ajEv d mi pc' ps' (.int w :: st') h Q) : ajEv d mi pc ps st h Q := by
  subst er
  exact ajW_g hk e p hw
theorem ajW_sw {d mi pc t0 : Nat} {ts : List Nat} {lo hi : Int} {x : Int32} {ps st ps' st' : List Value} {h : ajH} {Q : Option Value → ajH → Prop} (hk : (ajCode mi pc).map (fun en => ajKd en.1) = some 0) (e : ajNext mi pc ps st h = some (ajSw (t0 :: ts) lo hi x, ps', st', h)) (h1 : -2147483648 ≤ lo) (h2 : hi < 2147483648) (h3 : (ts.length : Int) = hi - lo + 1) (H : ajSc x (fun t => ajEv d mi t ps' st' h Q) (ajEv d mi t0 ps' st' h Q) lo ts) : ajEv d mi pc ps st h Q := by
  have e1 := ajE_sw (d := d) hk e h1 h2 h3
  unfold ajEv at H ⊢
  rw [e1]
  clear e e1 h1 h2 h3 hk
  generalize (ajLim d mi t0 ps' st' h) = y at H ⊢
  induction ts generalizing lo with
  | nil => exact H
  | cons t r ih =>
    unfold ajSc at H ⊢
    by_cases hx : x = Int32.ofInt lo
    · rw [if_pos hx] at H ⊢; exact H
    · rw [if_neg hx] at H ⊢; exact ih H

theorem ajStep_keep {pc : Nat} {ps st : List Value} {h : ajH} {en : ajE} {q : Nat × List Value × List Value × ajH} (hq : ajQuE en = true) (hs : ajStep en pc ps st h = some q) : ajKp h q.2.2.2 := by
  obtain ⟨ins, len, a, b, t, z, ts⟩ := en
  unfold ajStep at hs
  dsimp only at hs
  cases ins with
  | aconst_null => (cases hs) <;> exact ⟨rfl, fun _ _ _ => rfl⟩
  | aload i => (obtain ⟨x, hv, rfl⟩ := ajAld_some hs) <;> exact ⟨rfl, fun _ _ _ => rfl⟩
  | aload_n i => (obtain ⟨x, hv, rfl⟩ := ajAld_some hs) <;> exact ⟨rfl, fun _ _ _ => rfl⟩
  | iload i => (obtain ⟨x, hv, rfl⟩ := ajIld_some hs) <;> exact ⟨rfl, fun _ _ _ => rfl⟩
  | iload_n i => (obtain ⟨x, hv, rfl⟩ := ajIld_some hs) <;> exact ⟨rfl, fun _ _ _ => rfl⟩
  | lload i => (obtain ⟨x, hv, rfl⟩ := ajLld_some hs) <;> exact ⟨rfl, fun _ _ _ => rfl⟩
  | lload_n i => (obtain ⟨x, hv, rfl⟩ := ajLld_some hs) <;> exact ⟨rfl, fun _ _ _ => rfl⟩
  | istore i => (obtain ⟨x, r, rfl, rfl⟩ := ajIst_some hs) <;> exact ⟨rfl, fun _ _ _ => rfl⟩
  | istore_n i => (obtain ⟨x, r, rfl, rfl⟩ := ajIst_some hs) <;> exact ⟨rfl, fun _ _ _ => rfl⟩
  | lstore i => (obtain ⟨x, r, rfl, rfl⟩ := ajLst_some hs) <;> exact ⟨rfl, fun _ _ _ => rfl⟩
  | lstore_n i => (obtain ⟨x, r, rfl, rfl⟩ := ajLst_some hs) <;> exact ⟨rfl, fun _ _ _ => rfl⟩
  | astore i => (obtain ⟨x, r, rfl, rfl⟩ := ajAst_some hs) <;> exact ⟨rfl, fun _ _ _ => rfl⟩
  | astore_n i => (obtain ⟨x, r, rfl, rfl⟩ := ajAst_some hs) <;> exact ⟨rfl, fun _ _ _ => rfl⟩
  | iinc i n => (obtain ⟨x, hv, rfl⟩ := ajInc_some hs) <;> exact ⟨rfl, fun _ _ _ => rfl⟩
  | iconst n => (cases hs) <;> exact ⟨rfl, fun _ _ _ => rfl⟩
  | bipush n => (cases hs) <;> exact ⟨rfl, fun _ _ _ => rfl⟩
  | sipush n => (cases hs) <;> exact ⟨rfl, fun _ _ _ => rfl⟩
  | lconst n => (cases hs) <;> exact ⟨rfl, fun _ _ _ => rfl⟩
  | ldc n => (cases hs) <;> exact ⟨rfl, fun _ _ _ => rfl⟩
  | ldc_w n => (cases hs) <;> exact ⟨rfl, fun _ _ _ => rfl⟩
  | ldc2_w n => (cases hs) <;> exact ⟨rfl, fun _ _ _ => rfl⟩
  | getstatic n => (cases hs) <;> exact ⟨rfl, fun _ _ _ => rfl⟩
  | goto n => (cases hs) <;> exact ⟨rfl, fun _ _ _ => rfl⟩
  | iadd => (obtain ⟨x, y, r, rfl, rfl⟩ := ajII_some hs) <;> exact ⟨rfl, fun _ _ _ => rfl⟩
  | isub => (obtain ⟨x, y, r, rfl, rfl⟩ := ajII_some hs) <;> exact ⟨rfl, fun _ _ _ => rfl⟩
  | imul => (obtain ⟨x, y, r, rfl, rfl⟩ := ajII_some hs) <;> exact ⟨rfl, fun _ _ _ => rfl⟩
  | iand => (obtain ⟨x, y, r, rfl, rfl⟩ := ajII_some hs) <;> exact ⟨rfl, fun _ _ _ => rfl⟩
  | ior => (obtain ⟨x, y, r, rfl, rfl⟩ := ajII_some hs) <;> exact ⟨rfl, fun _ _ _ => rfl⟩
  | ixor => (obtain ⟨x, y, r, rfl, rfl⟩ := ajII_some hs) <;> exact ⟨rfl, fun _ _ _ => rfl⟩
  | ishl => (obtain ⟨x, y, r, rfl, rfl⟩ := ajII_some hs) <;> exact ⟨rfl, fun _ _ _ => rfl⟩
  | ishr => (obtain ⟨x, y, r, rfl, rfl⟩ := ajII_some hs) <;> exact ⟨rfl, fun _ _ _ => rfl⟩
  | iushr => (obtain ⟨x, y, r, rfl, rfl⟩ := ajII_some hs) <;> exact ⟨rfl, fun _ _ _ => rfl⟩
  | idiv => (obtain ⟨x, y, r, rfl, rfl, hy⟩ := ajDD_some hs) <;> exact ⟨rfl, fun _ _ _ => rfl⟩
  | irem => (obtain ⟨x, y, r, rfl, rfl, hy⟩ := ajDD_some hs) <;> exact ⟨rfl, fun _ _ _ => rfl⟩
  | ladd => (obtain ⟨x, y, r, rfl, rfl⟩ := ajLL_some hs) <;> exact ⟨rfl, fun _ _ _ => rfl⟩
  | lsub => (obtain ⟨x, y, r, rfl, rfl⟩ := ajLL_some hs) <;> exact ⟨rfl, fun _ _ _ => rfl⟩
  | lmul => (obtain ⟨x, y, r, rfl, rfl⟩ := ajLL_some hs) <;> exact ⟨rfl, fun _ _ _ => rfl⟩
  | land => (obtain ⟨x, y, r, rfl, rfl⟩ := ajLL_some hs) <;> exact ⟨rfl, fun _ _ _ => rfl⟩
  | lor => (obtain ⟨x, y, r, rfl, rfl⟩ := ajLL_some hs) <;> exact ⟨rfl, fun _ _ _ => rfl⟩
  | ldiv => (obtain ⟨x, y, r, rfl, rfl, hy⟩ := ajLD_some hs) <;> exact ⟨rfl, fun _ _ _ => rfl⟩
  | lrem => (obtain ⟨x, y, r, rfl, rfl, hy⟩ := ajLD_some hs) <;> exact ⟨rfl, fun _ _ _ => rfl⟩
  | lshl => (obtain ⟨x, y, r, rfl, rfl⟩ := ajLS_some hs) <;> exact ⟨rfl, fun _ _ _ => rfl⟩
  | lushr => (obtain ⟨x, y, r, rfl, rfl⟩ := ajLS_some hs) <;> exact ⟨rfl, fun _ _ _ => rfl⟩
  | ineg => (obtain ⟨x, r, rfl, rfl⟩ := ajUU_some hs) <;> exact ⟨rfl, fun _ _ _ => rfl⟩
  | i2l => (obtain ⟨x, r, rfl, rfl⟩ := ajUU_some hs) <;> exact ⟨rfl, fun _ _ _ => rfl⟩
  | i2b => (obtain ⟨x, r, rfl, rfl⟩ := ajUU_some hs) <;> exact ⟨rfl, fun _ _ _ => rfl⟩
  | i2c => (obtain ⟨x, r, rfl, rfl⟩ := ajUU_some hs) <;> exact ⟨rfl, fun _ _ _ => rfl⟩
  | l2i => (obtain ⟨x, r, rfl, rfl⟩ := ajL2I_some hs) <;> exact ⟨rfl, fun _ _ _ => rfl⟩
  | lcmp => (obtain ⟨x, y, r, rfl, rfl⟩ := ajCmpL_some hs) <;> exact ⟨rfl, fun _ _ _ => rfl⟩
  | dup => (obtain ⟨v, r, rfl, hc1, rfl⟩ := ajDup_some hs) <;> exact ⟨rfl, fun _ _ _ => rfl⟩
  | dup2 => (obtain ⟨v, w, r, rfl, hc1, hc2, rfl⟩ := ajDup2_some hs) <;> exact ⟨rfl, fun _ _ _ => rfl⟩
  | pop => (obtain ⟨v, r, rfl, hc1, rfl⟩ := ajPop_some hs) <;> exact ⟨rfl, fun _ _ _ => rfl⟩
  | ifCond cc off => (obtain ⟨x, r, rfl, h1⟩ := ajBr_some hs; rcases h1 with ⟨h1, rfl⟩ | ⟨h1, rfl⟩) <;> exact ⟨rfl, fun _ _ _ => rfl⟩
  | if_icmp cc off => (obtain ⟨x, y, r, rfl, h1⟩ := ajBr2_some hs; rcases h1 with ⟨h1, rfl⟩ | ⟨h1, rfl⟩) <;> exact ⟨rfl, fun _ _ _ => rfl⟩
  | ifnull off => (obtain ⟨x, r, rfl, h1⟩ := ajNul_some hs; rcases h1 with ⟨h1, rfl⟩ | ⟨h1, rfl⟩) <;> exact ⟨rfl, fun _ _ _ => rfl⟩
  | tableswitch df lo hi offs => (obtain ⟨x, r, rfl, rfl⟩ := ajTsw_some hs) <;> exact ⟨rfl, fun _ _ _ => rfl⟩
  | getfield idx => (obtain ⟨x, r, rfl, rfl, ho⟩ := ajGet_some hs) <;> exact ⟨rfl, fun _ _ _ => rfl⟩
  | putfield idx =>
    obtain ⟨v, o, r, rfl, ho, h1⟩ := ajSet_some hs
    rcases h1 with ⟨_, x, rfl, rfl⟩ | ⟨_, x, hx01, rfl, rfl⟩ | ⟨_, x, rfl, rfl⟩ | ⟨ht, x, rfl, rfl⟩
    · exact ⟨rfl, fun _ _ _ => rfl⟩
    · exact ⟨rfl, fun _ _ _ => rfl⟩
    · exact ⟨rfl, fun _ _ _ => rfl⟩
    · subst ht
      refine ⟨rfl, fun o1 f1 hz => ?_⟩
      show (if o1 = o ∧ f1 = b then x else ajR h o1 f1) = ajR h o1 f1
      by_cases hc : o1 = o ∧ f1 = b
      · exfalso
        obtain ⟨rfl, rfl⟩ := hc
        apply hz
        unfold ajRf
        rw [ho.2]
        unfold ajQuE at hq
        dsimp only at hq
        rw [Bool.or_eq_true, Bool.or_eq_true, Bool.and_eq_true, Bool.and_eq_true, Nat.beq_eq, Nat.beq_eq, Nat.beq_eq, Nat.beq_eq] at hq
        rcases hq with (hq | ⟨rfl, rfl⟩) | ⟨rfl, rfl⟩
        · cases hq
        · rfl
        · rfl
      · rw [if_neg hc]
  | iaload => (obtain ⟨i, x, r, rfl, rfl, ho, hi⟩ := ajAL_some hs) <;> exact ⟨rfl, fun _ _ _ => rfl⟩
  | baload => (obtain ⟨i, x, r, rfl, rfl, ho, hi⟩ := ajAL_some hs) <;> exact ⟨rfl, fun _ _ _ => rfl⟩
  | laload => (obtain ⟨i, x, r, rfl, rfl, ho, hi⟩ := ajAL_some hs) <;> exact ⟨rfl, fun _ _ _ => rfl⟩
  | aaload => (obtain ⟨i, x, r, rfl, rfl, ho, hi⟩ := ajALq_some hs) <;> exact ⟨rfl, fun _ _ _ => rfl⟩
  | iastore => (obtain ⟨y, i, x, r, rfl, rfl, ho, hi⟩ := ajAS_some hs) <;> exact ⟨rfl, fun _ _ _ => rfl⟩
  | bastore => (obtain ⟨y, i, x, r, rfl, rfl, ho, hi⟩ := ajAS_some hs) <;> exact ⟨rfl, fun _ _ _ => rfl⟩
  | lastore => (obtain ⟨y, i, x, r, rfl, rfl, ho, hi⟩ := ajASl_some hs) <;> exact ⟨rfl, fun _ _ _ => rfl⟩
  | aastore => cases hq
  | arraylength => (obtain ⟨x, r, rfl, rfl, ho⟩ := ajALen_some hs) <;> exact ⟨rfl, fun _ _ _ => rfl⟩
  | new idx => cases hq
  | newarray ty => cases hq
  | anewarray idx => cases hq
  | _ => cases hs
theorem ajRun_keep : ∀ (n d mi pc : Nat) (ps st : List Value) (h : ajH) (q : Option Value × ajH), ajQuM mi = true → ajRun n d mi pc ps st h = some q → ajKp h q.2 := by
  intro n
  induction n with
  | zero => intro d mi pc ps st h q hm hs; cases hs
  | succ n ih =>
    intro d mi pc ps st h q hm hs
    obtain ⟨en, hen, h1⟩ := ajRun_some hs
    have hqe := ajQu_all hen hm
    rcases h1 with ⟨-, x, -, -, rfl⟩ | ⟨-, x, -, -, rfl⟩ | ⟨-, x, -, -, rfl⟩ | ⟨-, -, -, rfl⟩ | ⟨hin, h1⟩ | ⟨u, h1, h2⟩
    · exact ajKp_refl _
    · exact ajKp_refl _
    · exact ajKp_refl _
    · exact ajKp_refl _
    · have hqa : (!(Nat.beq en.2.2.1 501) && (Nat.ble 500 en.2.2.1 || ajQuM en.2.2.1)) = true := by
        obtain ⟨idx, hi | hi | hi⟩ := hin <;> (unfold ajQuE at hqe; rw [hi] at hqe; exact hqe)
      obtain ⟨b, -, -, h1⟩ := ajInv_some h1
      rcases h1 with ⟨-, -, h1⟩ | ⟨-, h2, h3, h1⟩ | ⟨h5, -⟩ | ⟨d1, r, h2, rfl, -, -, h3, z1, z2, z3, z4, h1⟩ | ⟨-, v, -, h1⟩
      · exact ih _ _ _ _ _ _ _ hm h1
      · obtain ⟨s0, d0, sp, dp, n, -, -, -, -, -, -, -, -, rfl⟩ := ajCopy_some h3
        have a2 := ih _ _ _ _ _ _ _ hm h1
        exact ajKp_trans ⟨rfl, fun _ _ _ => rfl⟩ a2
      · rw [h5] at hqa; cases hqa
      · have hqm : ajQuM en.2.2.1 = true := by
          rw [Bool.and_eq_true, Bool.or_eq_true, Nat.ble_eq] at hqa
          rcases hqa.2 with hx | hx
          · exfalso
            cases hct : ajCode en.2.2.1 0 with
            | none =>
              cases n with
              | zero => cases h3
              | succ n => obtain ⟨en2, he2, -⟩ := ajRun_some h3; rw [hct] at he2; cases he2
            | some e2 =>
              unfold ajCode at hct
              have hl : ajTs.length ≤ 264 := by decide +kernel
              have hz : ajTs[en.2.2.1]? = none := List.getElem?_eq_none (by omega)
              rw [List.getD_eq_getElem?_getD, List.getD_eq_getElem?_getD, hz] at hct
              first | cases hct | simp [ajFind] at hct
          · exact hx
        exact ajKp_trans (ih _ _ _ _ _ _ _ hqm h3) (ih _ _ _ _ _ _ _ hm h1)
      · exact ih _ _ _ _ _ _ _ hm h1
    · have a1 := ajStep_keep hqe h1
      have a2 := ih _ _ _ _ _ _ _ hm h2
      exact ajKp_trans a1 a2
theorem ajLim_keep {d mi pc : Nat} {ps st : List Value} {h : ajH} {r : Option Value} {h' : ajH} (hm : ajQuM mi = true) (s : ajShp h) (hs : ajLim d mi pc ps st h = some (r, h')) : ajShp h' := by
  obtain ⟨n, hn⟩ := ajLim_iff.mp hs
  exact ajShpK s (ajRun_keep _ _ _ _ _ _ _ _ hm hn)
theorem ajW_cI {d mi pc a b cq : Nat} {en : ajE} {ps st ps' rest as ps0 : List Value} {h : ajH} {Q : Option Value → ajH → Prop} {V : Int32 → ajH → Prop} (hen : ajCode mi pc = some en) (hk : ajKd en.1 = 1) (ha : en.2.2.1 = a) (hA : Nat.blt a 500 = true) (hb : (if en.2.2.2.2.1 = 0 then en.2.2.2.1 else en.2.2.2.1 + 1) = b) (hcq : en.2.2.2.2.1 = cq) (hs : ajStk b st = true) (has : (st.take b).reverse = as) (hrest : st.drop b = rest) (harg : ajArg a as = true) (hps : ajKill mi pc ps = ps') (hent : ajEnt (ajMx a) as = ps0) (hrt : Nat.blt (ajRt a) 4 = true) (g : ajRcv h cq as = true) (hqm : ajQuM a = true) (s : ajShp h)
    (hw : ajEv d a 0 ps0 [] h (fun r h' => ajShp h' → ∃ x, r = some (.int x) ∧ V x h')) (kk : ∀ x h', ajShp h' → V x h' → ajEv (d + 1) mi (pc + 3) ps' (.int x :: rest) h' Q) : ajEv (d + 1) mi pc ps st h Q := by
  obtain ⟨r, h', e, q⟩ := hw
  have s' := ajLim_keep hqm s e
  obtain ⟨x, rfl, v⟩ := q s'
  have e1 := (ajE_cI (d := d) hen hk ha hA hb hcq hs has hrest harg hps hent hrt).trans (if_pos g)
  rw [e] at e1
  exact ajEv_eq e1 (kk x h' s' v)
theorem ajW_cL {d mi pc a b cq : Nat} {en : ajE} {ps st ps' rest as ps0 : List Value} {h : ajH} {Q : Option Value → ajH → Prop} {V : Int64 → ajH → Prop} (hen : ajCode mi pc = some en) (hk : ajKd en.1 = 1) (ha : en.2.2.1 = a) (hA : Nat.blt a 500 = true) (hb : (if en.2.2.2.2.1 = 0 then en.2.2.2.1 else en.2.2.2.1 + 1) = b) (hcq : en.2.2.2.2.1 = cq) (hs : ajStk b st = true) (has : (st.take b).reverse = as) (hrest : st.drop b = rest) (harg : ajArg a as = true) (hps : ajKill mi pc ps = ps') (hent : ajEnt (ajMx a) as = ps0) (hrt : ajRt a = 4) (g : ajRcv h cq as = true) (hqm : ajQuM a = true) (s : ajShp h)
    (hw : ajEv d a 0 ps0 [] h (fun r h' => ajShp h' → ∃ x, r = some (.long x) ∧ V x h')) (kk : ∀ x h', ajShp h' → V x h' → ajEv (d + 1) mi (pc + 3) ps' (.long x :: rest) h' Q) : ajEv (d + 1) mi pc ps st h Q := by
  obtain ⟨r, h', e, q⟩ := hw
  have s' := ajLim_keep hqm s e
  obtain ⟨x, rfl, v⟩ := q s'
  have e1 := (ajE_cL (d := d) hen hk ha hA hb hcq hs has hrest harg hps hent hrt).trans (if_pos g)
  rw [e] at e1
  exact ajEv_eq e1 (kk x h' s' v)
theorem ajW_cR {d mi pc a b cq : Nat} {en : ajE} {ps st ps' rest as ps0 : List Value} {h : ajH} {Q : Option Value → ajH → Prop} {V : Nat → ajH → Prop} (hen : ajCode mi pc = some en) (hk : ajKd en.1 = 1) (ha : en.2.2.1 = a) (hA : Nat.blt a 500 = true) (hb : (if en.2.2.2.2.1 = 0 then en.2.2.2.1 else en.2.2.2.1 + 1) = b) (hcq : en.2.2.2.2.1 = cq) (hs : ajStk b st = true) (has : (st.take b).reverse = as) (hrest : st.drop b = rest) (harg : ajArg a as = true) (hps : ajKill mi pc ps = ps') (hent : ajEnt (ajMx a) as = ps0) (hrt : ajRt a = 5) (g : ajRcv h cq as = true) (hqm : ajQuM a = true) (s : ajShp h)
    (hw : ajEv d a 0 ps0 [] h (fun r h' => ajShp h' → ∃ x, r = some (.ref x) ∧ V x h')) (kk : ∀ x h', ajShp h' → V x h' → ajEv (d + 1) mi (pc + 3) ps' (.ref x :: rest) h' Q) : ajEv (d + 1) mi pc ps st h Q := by
  obtain ⟨r, h', e, q⟩ := hw
  have s' := ajLim_keep hqm s e
  obtain ⟨x, rfl, v⟩ := q s'
  have e1 := (ajE_cR (d := d) hen hk ha hA hb hcq hs has hrest harg hps hent hrt).trans (if_pos g)
  rw [e] at e1
  exact ajEv_eq e1 (kk x h' s' v)
theorem ajW_cV {d mi pc a b cq : Nat} {en : ajE} {ps st ps' rest as ps0 : List Value} {h : ajH} {Q : Option Value → ajH → Prop} {V : ajH → Prop} (hen : ajCode mi pc = some en) (hk : ajKd en.1 = 1) (ha : en.2.2.1 = a) (hA : Nat.blt a 500 = true) (hb : (if en.2.2.2.2.1 = 0 then en.2.2.2.1 else en.2.2.2.1 + 1) = b) (hcq : en.2.2.2.2.1 = cq) (hs : ajStk b st = true) (has : (st.take b).reverse = as) (hrest : st.drop b = rest) (harg : ajArg a as = true) (hps : ajKill mi pc ps = ps') (hent : ajEnt (ajMx a) as = ps0) (hrt : ajRt a = 6) (g : ajRcv h cq as = true) (hqm : ajQuM a = true) (s : ajShp h)
    (hw : ajEv d a 0 ps0 [] h (fun r h' => ajShp h' → r = none ∧ V h')) (kk : ∀ h', ajShp h' → V h' → ajEv (d + 1) mi (pc + 3) ps' rest h' Q) : ajEv (d + 1) mi pc ps st h Q := by
  obtain ⟨r, h', e, q⟩ := hw
  have s' := ajLim_keep hqm s e
  obtain ⟨rfl, v⟩ := q s'
  have e1 := (ajE_cV (d := d) hen hk ha hA hb hcq hs has hrest harg hps hent hrt).trans (if_pos g)
  rw [e] at e1
  exact ajEv_eq e1 (kk h' s' v)

