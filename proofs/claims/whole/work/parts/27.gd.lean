/-! What a text that goes on has read: places grow, orders are no more than bytes. -/
theorem tNum_all (B : Nat → Nat) (L : Nat) : ∀ k a v, a ≤ L → a ≤ (tNum B L k a v).1 ∧ (tNum B L k a v).1 ≤ L ∧ (tNum B L k a v).1 ≤ a + k ∧ (tNum B L k a v).2 + 1 ≤ (v + 1) * 10 ^ k := by
  intro k
  induction k with
  | zero => intro a v h; exact ⟨Nat.le_refl _, h, Nat.le_refl _, by simp [tNum]⟩
  | succ k ih =>
    intro a v h
    unfold tNum
    split
    · rename_i hc
      have h1 := ih (a + 1) (v * 10 + (B a - 48)) (by omega)
      refine ⟨by omega, h1.2.1, by omega, Nat.le_trans h1.2.2.2 ?_⟩
      rw [Nat.pow_succ, Nat.mul_comm (10 ^ k) 10, ← Nat.mul_assoc]
      exact Nat.mul_le_mul_right _ (by omega)
    · refine ⟨Nat.le_refl _, h, by omega, ?_⟩
      have h1 : 1 ≤ 10 ^ (k + 1) := Nat.pos_of_ne_zero (fun z => by simp at z)
      calc v + 1 = (v + 1) * 1 := (Nat.mul_one _).symm
        _ ≤ (v + 1) * 10 ^ (k + 1) := Nat.mul_le_mul_left _ h1
theorem tNum_gt {B : Nat → Nat} {L m a v : Nat} (h : a < L) (h1 : 48 ≤ B a) (h2 : B a ≤ 57) (hm : 0 < m) : a < (tNum B L m a v).1 := by
  obtain ⟨k, rfl⟩ : ∃ k, m = k + 1 := ⟨m - 1, by omega⟩
  unfold tNum
  rw [if_pos ⟨h, h1, h2⟩]
  have := (tNum_all B L k (a + 1) (v * 10 + (B a - 48)) (by omega)).1
  omega
def pGd (L a : Nat) (r : PR) : Prop := pAt r ≤ L ∧ (pOk r = true → a < pAt r ∧ a + (pCo r).length ≤ pAt r)
theorem pGd_F {L a b : Nat} (h : b ≤ L) : pGd L a (pF b) := ⟨h, fun z => by (cases z)⟩
theorem pGd_mono {L a b : Nat} {r : PR} (h : a ≤ b) (g : pGd L b r) : pGd L a r := ⟨g.1, fun z => by have := g.2 z; omega⟩
theorem lix_m1 : lix (-1) = -1 := by decide
theorem lix_lt {B : Nat → Nat} {L a : Nat} (h : ¬ lix (tCh B L a) = -1) : a < L := by
  by_cases z : a < L
  · exact z
  · rw [tCh_end (by omega)] at h
    exact absurd lix_m1 h
theorem pAtom_gd {B : Nat → Nat} {L : Nat} {inner : Option (Nat → PR)} (hin : ∀ f, inner = some f → ∀ x, x ≤ L → pGd L x (f x)) {a : Nat} (ha : a ≤ L) : pGd L a (pAtom B L inner a) := by
  have h1 := tSk_ge B L a
  have h2 := tSk_le B ha
  unfold pAtom
  split
  · rename_i hc
    have h3 := tNum_all B L 4 (tSk B L a) 0 h2
    split
    · exact pGd_F h3.2.1
    · have h4 := tNum_gt (m := 4) (v := 0) hc.1 hc.2.1 hc.2.2 (by omega)
      exact ⟨h3.2.1, fun _ => ⟨by show a < (tNum B L 4 (tSk B L a) 0).1; omega, by show a + 1 ≤ (tNum B L 4 (tSk B L a) 0).1; omega⟩⟩
  · split
    · rename_i hl
      have h3 := lix_lt hl
      exact ⟨by show tSk B L a + 1 ≤ L; omega, fun _ => ⟨by show a < tSk B L a + 1; omega, by show a + 1 ≤ tSk B L a + 1; omega⟩⟩
    · split
      · rename_i h91
        have h3 := tCh_lt h91 (by decide)
        split
        · exact pGd_F h2
        · rename_i f
          have h4 := hin f rfl (tSk B L a + 1) (by omega)
          generalize f (tSk B L a + 1) = r at h4 ⊢
          split
          · rename_i hok
            have h5 := h4.2 hok
            have h6 := tSk_ge B L (pAt r)
            have h7 := tSk_le B h4.1
            split
            · rename_i h93
              have h8 := tCh_lt h93 (by decide)
              exact ⟨by show tSk B L (pAt r) + 1 ≤ L; omega, fun _ => ⟨by show a < tSk B L (pAt r) + 1; omega, by show a + (pCo r).length ≤ tSk B L (pAt r) + 1; omega⟩⟩
            · exact pGd_F h7
          · exact pGd_F h4.1
      · exact pGd_F h2
theorem pRow_gd {B : Nat → Nat} {L : Nat} {s : Int32 → Bool} (hsn : s (-1) = false) {f : Nat → PR} (hf : ∀ x, x ≤ L → pGd L x (f x)) : ∀ F a r, pOk r = true → pGd L a r → pGd L a (pRow B L s f F r) := by
  intro F
  induction F with
  | zero => intro a r _ g; exact g
  | succ F ih =>
    intro a r hok g
    have g2 := g.2 hok
    have h6 := tSk_ge B L (pAt r)
    have h7 := tSk_le B g.1
    unfold pRow
    split
    · rename_i hs
      have h8 : tSk B L (pAt r) < L := by
        by_cases z : tSk B L (pAt r) < L
        · exact z
        · rw [tCh_end (by omega), hsn] at hs
          cases hs
      have h9 := hf (tSk B L (pAt r) + 1) (by omega)
      generalize f (tSk B L (pAt r) + 1) = q at h9 ⊢
      split
      · rename_i hq
        have h10 := h9.2 hq
        refine ih a _ rfl ⟨h9.1, fun _ => ⟨?_, ?_⟩⟩
        · show a < pAt q
          omega
        · show a + (pCo r ++ pCo q ++ [131072 ||| tCh B L (tSk B L (pAt r))]).length ≤ pAt q
          rw [List.length_append, List.length_append, List.length_singleton]
          omega
      · exact pGd_F h9.1
    · exact ⟨h7, fun _ => ⟨by show a < tSk B L (pAt r); omega, by show a + (pCo r).length ≤ tSk B L (pAt r); omega⟩⟩
theorem pGo_gd {B : Nat → Nat} {L : Nat} {s : Int32 → Bool} (hsn : s (-1) = false) {f : Nat → PR} (hf : ∀ x, x ≤ L → pGd L x (f x)) {a : Nat} {r : PR} (g : pGd L a r) : pGd L a (pGo B L s f r) := by
  unfold pGo
  split
  · rename_i h; exact pRow_gd hsn hf 240 a r h g
  · exact g
theorem pTerm_gd {B : Nat → Nat} {L : Nat} {inner : Option (Nat → PR)} (hin : ∀ f, inner = some f → ∀ x, x ≤ L → pGd L x (f x)) {a : Nat} (ha : a ≤ L) : pGd L a (pTerm B L inner a) :=
  pGo_gd (by decide) (fun _ hx => pAtom_gd hin hx) (pAtom_gd hin ha)
theorem pSumO_gd {B : Nat → Nat} {L : Nat} {inner : Option (Nat → PR)} (hin : ∀ f, inner = some f → ∀ x, x ≤ L → pGd L x (f x)) {a : Nat} (ha : a ≤ L) : pGd L a (pSumO B L inner a) :=
  pGo_gd (by decide) (fun _ hx => pTerm_gd hin hx) (pTerm_gd hin ha)
theorem pSum_gd {B : Nat → Nat} {L : Nat} : ∀ D a, a ≤ L → pGd L a (pSum B L D a)
  | 0, _, ha => pSumO_gd (fun _ e => by cases e) ha
  | D + 1, _, ha => pSumO_gd (fun f e => by cases e; exact fun x hx => pSum_gd D x hx) ha
def pInn (B : Nat → Nat) (L : Nat) : Nat → Option (Nat → PR)
  | 0 => none
  | D + 1 => some (pSum B L D)
theorem pSum_eq (B : Nat → Nat) (L D a : Nat) : pSum B L D a = pSumO B L (pInn B L D) a := by cases D <;> rfl
theorem pInn_gd {B : Nat → Nat} {L D : Nat} : ∀ f, pInn B L D = some f → ∀ x, x ≤ L → pGd L x (f x) := by
  intro f e x hx
  cases D with
  | zero => cases e
  | succ D => cases e; exact pSum_gd D x hx
theorem pRel_gd {B : Nat → Nat} {L D a : Nat} {r : PR} (g : pGd L a r) : pGd L a (pRel B L D r) := by
  unfold pRel
  split
  · rename_i hok
    have g2 := g.2 hok
    have h6 := tSk_ge B L (pAt r)
    have h7 := tSk_le B g.1
    split
    · rename_i hs
      have h8 : tSk B L (pAt r) < L := by
        by_cases z : tSk B L (pAt r) < L
        · exact z
        · rw [tCh_end (by omega)] at hs
          cases hs
      have h9 := pSum_gd (B := B) (L := L) D (tSk B L (pAt r) + 1) (by omega)
      generalize pSum B L D (tSk B L (pAt r) + 1) = q at h9 ⊢
      split
      · rename_i hq
        have h10 := h9.2 hq
        refine ⟨h9.1, fun _ => ⟨?_, ?_⟩⟩
        · show a < pAt q
          omega
        · show a + (pCo r ++ pCo q ++ [131072 ||| tCh B L (tSk B L (pAt r))]).length ≤ pAt q
          rw [List.length_append, List.length_append, List.length_singleton]
          omega
      · exact pGd_F h9.1
    · exact pGd_F h7
  · exact g
theorem pTru_gd {B : Nat → Nat} {L : Nat} {u : Nat → PR} (hu : ∀ x, x ≤ L → pGd L x (u x)) {a : Nat} {r : PR} (g : pGd L a r) : pGd L a (pTru B L u r) := pGo_gd (by decide) hu g
theorem pCon_gd {B : Nat → Nat} {L : Nat} {u : Nat → PR} (hu : ∀ x, x ≤ L → pGd L x (u x)) {a : Nat} {r : PR} (g : pGd L a r) : pGd L a (pCon B L u r) :=
  pGo_gd (by decide) (fun x hx => pTru_gd hu (hu x hx)) (pTru_gd hu g)
theorem pUnit_gd {B : Nat → Nat} {L : Nat} : ∀ D a, a ≤ L → pGd L a (pUnit B L D a) := by
  intro D
  induction D with
  | zero =>
    intro a ha
    have h6 := tSk_ge B L a
    have h7 := tSk_le B ha
    unfold pUnit
    split
    · exact pGd_F h7
    · exact pRel_gd (pGd_mono h6 (pSum_gd 0 _ h7))
  | succ D ih =>
    intro a ha
    have h6 := tSk_ge B L a
    have h7 := tSk_le B ha
    unfold pUnit
    split
    · rename_i hx
      have h8 := tCh_lt hx (by decide)
      have h9 := ih (tSk B L a + 1) (by omega)
      generalize pUnit B L D (tSk B L a + 1) = q at h9 ⊢
      split
      · rename_i hq
        have h10 := h9.2 hq
        refine ⟨h9.1, fun _ => ⟨?_, ?_⟩⟩
        · show a < pAt q
          omega
        · show a + (pCo q ++ [131105]).length ≤ pAt q
          rw [List.length_append, List.length_singleton]
          omega
      · exact pGd_F h9.1
    · split
      · rename_i hx
        have h8 := tCh_lt hx (by decide)
        have h9 := pCon_gd (B := B) (L := L) (u := pUnit B L D) ih (ih (tSk B L a + 1) (by omega))
        generalize pCon B L (pUnit B L D) (pUnit B L D (tSk B L a + 1)) = r at h9 ⊢
        split
        · rename_i hok
          have h5 := h9.2 hok
          have h10 := tSk_ge B L (pAt r)
          have h11 := tSk_le B h9.1
          split
          · rename_i h41
            have h12 := tCh_lt h41 (by decide)
            exact ⟨by show tSk B L (pAt r) + 1 ≤ L; omega, fun _ => ⟨by show a < tSk B L (pAt r) + 1; omega, by show a + (pCo r).length ≤ tSk B L (pAt r) + 1; omega⟩⟩
          · exact pGd_F h11
        · exact pGd_F h9.1
      · exact pRel_gd (pGd_mono h6 (pSum_gd _ _ h7))
