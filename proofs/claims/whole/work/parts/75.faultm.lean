/-! Where a text goes wrong, the reference. -/
def PFm (o j : Nat) : Prop := PM o j ∨ Pg o j ∨ PL o j ∨ o = 320 ∧ j = 0
/-- what stands behind a text that the reference read -/
def fmPost (T : TP) (o : Nat) (h' : ajH) : Prop := (txOK T o = true → ajI h' 320 11 = -1 ∧ (o = 0 → MW h' (rWh T.1 T.2).2.2.1 (rWh T.1 T.2).2.2.2.1 (rWh T.1 T.2).2.2.2.2) ∧ (o = 2 → ajI h' 330 4 = nI (rJ T.1 T.2).2.2.1 ∧ MJ h' (rJ T.1 T.2).2.2.1 (rJ T.1 T.2).2.2.2.1 (rJ T.1 T.2).2.2.2.2)) ∧ (txOK T o = false → ajI h' 320 11 = nI (txAt T o))
theorem S144 {S : GS} {d : Nat} {v : Int32} {h : ajH} {Q : Option Value → ajH → Prop} (hs : ajShp h) (c : MI S h)
    (H : ∀ h', FR h h' PFm → MI S h' → (∀ o, o < 3 → v = nI o → fmPost (gT S) o h') → Q (some (.int (aFault S v))) h') : ajEv (d + 40) 144 0 [.ref 320, .int v] [] h Q := by
  refine W144_0 hs ?_
  rintro _ rfl
  have c0 := MI_0 (x := 0) c
  have f0 : FR h (ajSI h 320 0 0) PFm := FR_SI h (by unfold PFm; omega)
  have s0 : ajShp (ajSI h 320 0 0) := hs
  generalize ajSI h 320 0 0 = h0 at c0 f0 s0
  have tm := c0.1.1
  have sc := c0.1.2
  refine S145 (lo := 0) (hi := 2) s0 ?_
  intro s1
  refine ⟨_, rfl, ?_⟩
  have q2 := in_isp (n := 3) (v := v) (by omega)
  rw [show nI 3 - 1 = (2 : Int32) from rfl] at q2
  rw [q2]
  unfold aFault at H
  cases e : isp 3 v with
  | false =>
    rw [if_neg (show ¬ ¬ flg false = 0 from fun z => z rfl)]
    rw [e, if_neg (by decide)] at H
    exact H h0 f0 c0 (fun o ho z => by
      rw [z] at e; unfold isp at e
      rw [if_neg (by rw [sr_lt0 (by omega)]; exact fun z => z), if_neg (by rw [sr_le (by omega) (by omega)]; omega)] at e
      cases e)
  | true =>
    rw [if_pos (by decide)]
    obtain ⟨o, ho, rfl⟩ := isp_K (by omega) e
    rw [e, if_pos rfl, sr_N (by omega)] at H
    have fin : ∀ h1, FR h0 h1 PFm → fmPost (gT S) o h1 → Q (some (.int (ajI h1 320 11))) h1 := by
      intro h1 f1 p
      have c1 : MI S h1 := MI_FR8 c0 f1 (fun o j z => by unfold PFm PM Pg PL at z; unfold d1 d2 d3 d4 d5 d6 d7; omega)
      have H2 := H h1 (FR_trans f0 f1) c1 (fun o' ho' z => by
        rw [sr_eq (by omega) (by omega)] at z
        rw [← z]; exact p)
      cases e2 : txOK (gT S) o with
      | true => rw [(p.1 e2).1]; rw [e2, if_pos rfl] at H2; exact H2
      | false => rw [p.2 e2]; rw [e2, if_neg (by decide)] at H2; exact H2
    have : o = 0 ∨ o = 1 ∨ o = 2 := by omega
    rcases this with rfl | rfl | rfl
    · rw [if_neg (show ¬ ¬ nI 0 = 0 from fun z => z rfl)]
      refine S146 (d := d + 32) (T := gT S) s1 tm sc ?_
      intro h1 f1 p s2
      refine ⟨rfl, ?_⟩
      refine W144_28 s2 ?_
      rw [if_pos (by decide)]
      refine W144_46 s2 ?_
      rw [if_pos (by decide)]
      refine fin h1 (FR_mono f1 (fun o j z => Or.inl z)) ⟨fun z => ?_, fun z => ?_⟩
      · unfold txOK at z; rw [if_pos rfl] at z
        exact ⟨(p.1 z).1, fun _ => (p.1 z).2, fun y => by omega⟩
      · unfold txOK at z; rw [if_pos rfl] at z
        unfold txAt; rw [if_pos rfl]
        exact p.2 z
    · rw [if_pos (by decide)]
      refine W144_28 s1 ?_
      rw [if_neg (show ¬ ¬ nI 1 = 1 from fun z => z rfl), tm.1]
      refine S160 (d := d + 39) (B := (gT S).1) (L := (gT S).2) (t := 321) (b := 0) (l := vx6 (ajI h0 324 118) (ajI h0 324 100) (ajI h0 324 111) (ajI h0 324 104) (ajI h0 324 119) (ajI h0 324 116)) (by omega) s1 tm.2.1 (Or.inl ⟨rfl, rfl⟩) tm.2.2.1 (fun k hk => by rw [Nat.zero_add]; exact tm.2.2.2 k hk) sc ?_ ?_
      · exact ⟨rfl, rfl, rfl, rfl, rfl, rfl⟩
      · intro h1 f1 p1 p2 s2
        refine ⟨rfl, ?_⟩
        refine W144_46 s2 ?_
        rw [if_pos (by decide)]
        refine fin h1 (FR_mono f1 (fun o j z => Or.inr (Or.inl z))) ⟨fun z => ?_, fun z => ?_⟩
        · unfold txOK at z; rw [if_neg (by decide), if_pos rfl] at z
          exact ⟨(p1 z).1, fun y => by omega, fun y => by omega⟩
        · unfold txOK at z; rw [if_neg (by decide), if_pos rfl] at z
          unfold txAt; rw [if_neg (by decide), if_pos rfl]
          exact p2 z
    · rw [if_pos (by decide)]
      refine W144_28 s1 ?_
      rw [if_pos (by decide)]
      refine W144_46 s1 ?_
      rw [if_neg (show ¬ ¬ nI 2 = 2 from fun z => z rfl)]
      refine S174 (d := d + 33) (T := gT S) s1 tm sc ?_
      intro h1 f1 p1 p2 s2
      refine ⟨rfl, ?_⟩
      refine fin h1 (FR_mono f1 (fun o j z => Or.inr (Or.inr (Or.inl z)))) ⟨fun z => ?_, fun z => ?_⟩
      · unfold txOK at z; rw [if_neg (by decide), if_neg (by decide)] at z
        exact ⟨(p1 z).1, fun y => by omega, fun _ => (p1 z).2⟩
      · unfold txOK at z; rw [if_neg (by decide), if_neg (by decide)] at z
        unfold txAt; rw [if_neg (by decide), if_neg (by decide)]
        exact p2 z
