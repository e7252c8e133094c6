/-! What both sides hold, as one ideal state. -/
abbrev XT : Type := (Nat → Int32) × Nat × (Nat → Nat → Int32)
abbrev GS : Type := TP × (Nat × (Nat → Nat) × (Nat → Nat → Nat)) × (Nat × (Nat → Nat → Nat) × (Nat → Nat) × Int32 × Int32) × (Nat × (Nat → Nat) × (Nat → Nat → Nat) × (Nat → Nat → Int32)) × XT × (Nat × (Nat → XT)) × (Bool × XT) × (Nat × (Nat → Nat) × (Nat → Bool))
def gT (S : GS) : TP := S.1
def gz (S : GS) : Nat := S.2.1.1
def gRU (S : GS) : Nat → Nat := S.2.1.2.1
def gFO (S : GS) : Nat → Nat → Nat := S.2.1.2.2
def gm (S : GS) : Nat := S.2.2.1.1
def gTB (S : GS) : Nat → Nat → Nat := S.2.2.1.2.1
def gTL (S : GS) : Nat → Nat := S.2.2.1.2.2.1
def gh (S : GS) : Int32 := S.2.2.1.2.2.2.1
def gs (S : GS) : Int32 := S.2.2.1.2.2.2.2
def gmj (S : GS) : Nat := S.2.2.2.1.1
def gJn (S : GS) : Nat → Nat := S.2.2.2.1.2.1
def gJK (S : GS) : Nat → Nat → Nat := S.2.2.2.1.2.2.1
def gJD (S : GS) : Nat → Nat → Int32 := S.2.2.2.1.2.2.2
def gX (S : GS) : XT := S.2.2.2.2.1
def gna (S : GS) : Nat := S.2.2.2.2.2.1.1
def gAX (S : GS) : Nat → XT := S.2.2.2.2.2.1.2
def gio (S : GS) : Bool := S.2.2.2.2.2.2.1.1
def gIX (S : GS) : XT := S.2.2.2.2.2.2.1.2
def gns (S : GS) : Nat := S.2.2.2.2.2.2.2.1
def gst (S : GS) : Nat → Nat := S.2.2.2.2.2.2.2.2.1
def gsb (S : GS) : Nat → Bool := S.2.2.2.2.2.2.2.2.2
/-- the wheel with the law that holds -/
noncomputable def gE (S : GS) : EV := (gz S, nI (gRU S 0), (fun k => nI (gFO S k 0)), (fun k => nI (gFO S k 2)), if gh S = -1 then (fun v d o _ _ _ => dfl v d o) else lw (gTB S) (gTL S) (gh S).toNatClampNeg)
def gV (S : GS) : Nat := if gh S = -1 then 0 else 18 + 7 * (gh S).toNatClampNeg
/-- a state with its log -/
def LO (L : Nat × (Nat → Nat → Int32)) : Prop := ∀ e, e < L.1 → (L.2 e 0 = 0 ∨ L.2 e 0 = 1) ∧ (∃ b, b < 8 ∧ L.2 e 1 = nI b) ∧ ∃ m, m < 256 ∧ L.2 e 2 = nI m
def XV (n : Nat) (X : XT) : Prop := RV n 1000 X.1 ∧ X.2.1 ≤ tN X.1 ∧ LO X.2
def GVd (S : GS) : Prop := (gz S ≤ 8) ∧ (∀ k, k < gz S → gFO S k 1 < 10 ∧ gFO S k 2 < 10 ∧ gFO S k 0 < 100) ∧ (gRU S 1 < 10 ∧ gRU S 3 < 2) ∧ (gz S = 0 → gRU S 0 = 0) ∧ (gm S ≤ 4) ∧ (gh S = -1 ∨ ∃ i, i < gm S ∧ gh S = nI i) ∧ (∃ s, s < 10 ∧ gs S = nI s) ∧ (gmj S ≤ 4) ∧ (∀ i, i < gmj S → gJn S i ≤ 16 ∧ ∀ k, k < gJn S i → gJK S i k < 4) ∧ (0 < gz S → XV (gz S) (gX S)) ∧ (gna S ≤ 40) ∧ (gz S = 0 → gna S = 0 ∧ gio S = false ∧ gns S = 0) ∧ (∀ i, i < gna S → XV (gz S) (gAX S i)) ∧ (gio S = true → XV (gz S) (gIX S)) ∧ (gns S ≤ 10) ∧ (∀ i, i < gns S → 1 ≤ gst S i ∧ gst S i ≤ 20) ∧ (gz S = 0 → (gX S).2.1 = 0 ∧ (gX S).1 18 = 0)
theorem GVd.z8 {S : GS} (c : GVd S) : gz S ≤ 8 := c.1
theorem GVd.fo {S : GS} (c : GVd S) : ∀ k, k < gz S → gFO S k 1 < 10 ∧ gFO S k 2 < 10 ∧ gFO S k 0 < 100 := c.2.1
theorem GVd.ru {S : GS} (c : GVd S) : gRU S 1 < 10 ∧ gRU S 3 < 2 := c.2.2.1
theorem GVd.r0 {S : GS} (c : GVd S) : gz S = 0 → gRU S 0 = 0 := c.2.2.2.1
theorem GVd.m4 {S : GS} (c : GVd S) : gm S ≤ 4 := c.2.2.2.2.1
theorem GVd.hl {S : GS} (c : GVd S) : gh S = -1 ∨ ∃ i, i < gm S ∧ gh S = nI i := c.2.2.2.2.2.1
theorem GVd.sl {S : GS} (c : GVd S) : ∃ s, s < 10 ∧ gs S = nI s := c.2.2.2.2.2.2.1
theorem GVd.j4 {S : GS} (c : GVd S) : gmj S ≤ 4 := c.2.2.2.2.2.2.2.1
theorem GVd.jn {S : GS} (c : GVd S) : ∀ i, i < gmj S → gJn S i ≤ 16 ∧ ∀ k, k < gJn S i → gJK S i k < 4 := c.2.2.2.2.2.2.2.2.1
theorem GVd.xv {S : GS} (c : GVd S) : 0 < gz S → XV (gz S) (gX S) := c.2.2.2.2.2.2.2.2.2.1
theorem GVd.a4 {S : GS} (c : GVd S) : gna S ≤ 40 := c.2.2.2.2.2.2.2.2.2.2.1
theorem GVd.az {S : GS} (c : GVd S) : gz S = 0 → gna S = 0 ∧ gio S = false ∧ gns S = 0 := c.2.2.2.2.2.2.2.2.2.2.2.1
theorem GVd.ax {S : GS} (c : GVd S) : ∀ i, i < gna S → XV (gz S) (gAX S i) := c.2.2.2.2.2.2.2.2.2.2.2.2.1
theorem GVd.ix {S : GS} (c : GVd S) : gio S = true → XV (gz S) (gIX S) := c.2.2.2.2.2.2.2.2.2.2.2.2.2.1
theorem GVd.ns {S : GS} (c : GVd S) : gns S ≤ 10 := c.2.2.2.2.2.2.2.2.2.2.2.2.2.2.1
theorem GVd.st {S : GS} (c : GVd S) : ∀ i, i < gns S → 1 ≤ gst S i ∧ gst S i ≤ 20 := c.2.2.2.2.2.2.2.2.2.2.2.2.2.2.2.1
theorem GVd.x0 {S : GS} (c : GVd S) : gz S = 0 → (gX S).2.1 = 0 ∧ (gX S).1 18 = 0 := c.2.2.2.2.2.2.2.2.2.2.2.2.2.2.2.2
/-- an entry of the log, packed -/
def pkL (f : Nat → Int32) : Int32 := ((f 2 <<< (4 &&& 31)) ||| (f 1 <<< (1 &&& 31))) ||| f 0
def cX (h : ajH) (q n : Nat) (X : XT) : Prop := CS h q n X.1 ∧ ajI h q 10 = nI X.2.1 ∧ ∀ e, e < X.2.1 → X.2.1 ≤ e + 60 → ajI h (q + 2) (e % 60) = pkL (X.2.2 e)
def lgc (X : XT) : Nat := if X.2.1 < 60 then X.2.1 else 60
def mX (h : ajH) (r b : Nat) (X : XT) : Prop := (∀ k, k < 22 → ajI h r (b + k) = X.1 k) ∧ ajI h r (b + 22) = nI (lgc X) ∧ ∀ i, i < 3 * lgc X → ajI h r (b + (23 + i)) = X.2.2 (X.2.1 - lgc X + i / 3) (i % 3)
def b1 (o j : Nat) : Prop := o = 2 ∧ j = 1 ∨ o = 3 ∨ 1000 ≤ o
def b2 (o _j : Nat) : Prop := o = 4 ∨ o = 5 ∨ o = 7 ∨ o = 8 ∨ o = 9
def b3 (o _j : Nat) : Prop := o = 1 ∨ 18 ≤ o ∧ o < 46 ∧ ¬ PLw o
def b4 (o j : Nat) : Prop := o = 54 ∧ (j < 8 ∨ j = 10) ∨ o = 55 ∨ o = 56
def b5 (o _j : Nat) : Prop := o = 69 ∨ 71 ≤ o ∧ o < 271
def b6 (o _j : Nat) : Prop := o = 64 ∨ o = 65 ∨ o = 66
def b7 (o j : Nat) : Prop := o = 271 ∧ j < 4
def c1 (S : GS) (h : ajH) : Prop := TC (gT S) h ∧ SC h ∧ SA h
def c2 (S : GS) (h : ajH) : Prop := CW h 4 (gz S) (gRU S) (gFO S)
def c3 (S : GS) (h : ajH) : Prop := (ajI h 1 5 = nI (gm S) ∧ ajI h 1 6 = gh S ∧ ajI h 1 10 = gs S ∧ ajI h 1 9 = nI (gmj S) ∧ ajI h 1 14 = flg (gio S)) ∧ gm S ≤ 4 ∧ gmj S ≤ 4 ∧ LawsC h (gm S) (gTB S) (gTL S) ∧ ∀ i, i < gmj S → CJ h (22 + 7 * i) (gJn S i) (gJK S i) (gJD S i)
def c4 (S : GS) (h : ajH) : Prop := cX h 54 (gz S) (gX S)
/-- where the i-th act lies, were the newest of n at p -/
def aSl (p n i : Nat) : Nat := 71 + 5 * ((p + 41 + i - n) % 40)
def c5 (S : GS) (h : ajH) : Prop := ajI h 69 2 = nI (gna S) ∧ gna S ≤ 40 ∧ ∃ p, p < 40 ∧ ajI h 69 1 = nI p ∧ ∀ i, i < gna S → cX h (aSl p (gna S) i) (gz S) (gAX S i)
def c6 (S : GS) (h : ajH) : Prop := gio S = true → cX h 64 (gz S) (gIX S)
/-- the sights as masks -/
def sgM (st : Nat → Nat) (sb : Nat → Bool) (b : Bool) : Nat → Int32
  | 0 => 0
  | i + 1 => if sb i = b then sgM st sb b i ||| bt (st i - 1) else sgM st sb b i
def sgX (st : Nat → Nat) : Nat → Nat
  | 0 => 0
  | i + 1 => if sgX st i < st i then st i else sgX st i
def c7 (S : GS) (h : ajH) : Prop := ajI h 271 0 = nI (gns S) ∧ ajI h 271 1 = sgM (gst S) (gsb S) true (gns S) ∧ ajI h 271 2 = sgM (gst S) (gsb S) false (gns S) ∧ ajI h 271 3 = nI (sgX (gst S) (gns S))
def CI (S : GS) (h : ajH) : Prop := c1 S h ∧ c2 S h ∧ c3 S h ∧ c4 S h ∧ c5 S h ∧ c6 S h ∧ c7 S h
theorem cX_FR {h h' : ajH} {P : Nat → Nat → Prop} {q n : Nat} {X : XT} (c : cX h q n X) (f : FR h h' P) (p : ∀ o j, P o j → ¬ (o = q ∧ (j < 8 ∨ j = 10) ∨ o = q + 1 ∨ o = q + 2)) : cX h' q n X :=
  ⟨CS_FR c.1 f (fun j hj z => p _ _ z (by omega)) (fun j z => p _ _ z (by omega)), (FR_I f (fun z => p _ _ z (by omega))).trans c.2.1, fun e h1 h2 => (FR_I f (fun z => p _ _ z (by omega))).trans (c.2.2 e h1 h2)⟩
theorem TC_FR {h h' : ajH} {P : Nat → Nat → Prop} {T : TP} (c : TC T h) (f : FR h h' P) (p : ¬ P 2 1) (p3 : ∀ j, ¬ P 3 j) : TC T h' := ⟨(FR_I f p).trans c.1, c.2.1, c.2.2.1, fun k hk => (FR_I f (p3 k)).trans (c.2.2.2 k hk)⟩
theorem c1_FR {h h' : ajH} {P : Nat → Nat → Prop} {S : GS} (c : c1 S h) (f : FR h h' P) (p : ∀ o j, P o j → ¬ b1 o j) : c1 S h' :=
  ⟨TC_FR c.1 f (fun z => p _ _ z (by unfold b1; omega)) (fun j z => p _ _ z (by unfold b1; omega)), SC_FR c.2.1 f (fun o j ho z => p _ _ z (by unfold b1; omega)), SA_FR c.2.2 f (fun o j ho z => p _ _ z (by unfold b1; omega))⟩
theorem c2_FR {h h' : ajH} {P : Nat → Nat → Prop} {S : GS} (c : c2 S h) (f : FR h h' P) (p : ∀ o j, P o j → ¬ b2 o j) : c2 S h' :=
  CW_FR c f (fun z => p _ _ z (by unfold b2; omega)) (fun j => ⟨fun z => p _ _ z (by unfold b2; omega), fun z => p _ _ z (by unfold b2; omega), fun z => p _ _ z (by unfold b2; omega), fun z => p _ _ z (by unfold b2; omega)⟩)
theorem CJ_FR' {h h' : ajH} {P : Nat → Nat → Prop} {q n : Nat} {K : Nat → Nat} {D : Nat → Int32} (c : CJ h q n K D) (f : FR h h' P) (p0 : ¬ P q 0) (p : ∀ j, ¬ P (q + 1) j ∧ ¬ P (q + 2) j) : CJ h' q n K D :=
  ⟨(FR_I f p0).trans c.1, fun k hk => ⟨(FR_I f (p k).1).trans (c.2 k hk).1, (FR_I f (p k).2).trans (c.2 k hk).2⟩⟩
theorem LawsC_FR {h h' : ajH} {P : Nat → Nat → Prop} {m : Nat} {TB : Nat → Nat → Nat} {TL : Nat → Nat} (c : LawsC h m TB TL) (f : FR h h' P) (p : ∀ i, i < m → ¬ P (18 + 7 * i) 3 ∧ ∀ j, ¬ P (18 + 7 * i + 1) j) : LawsC h' m TB TL := fun i hi => LawC_FR (c i hi) f (p i hi).1 (p i hi).2
theorem c3_FR {h h' : ajH} {P : Nat → Nat → Prop} {S : GS} (c : c3 S h) (f : FR h h' P) (p : ∀ o j, P o j → ¬ b3 o j) : c3 S h' := by
  obtain ⟨⟨e1, e2, e3, e4, e5⟩, m4, j4, lc, cj⟩ := c
  refine ⟨⟨(FR_I f (fun z => p _ _ z (by unfold b3; omega))).trans e1, (FR_I f (fun z => p _ _ z (by unfold b3; omega))).trans e2, (FR_I f (fun z => p _ _ z (by unfold b3; omega))).trans e3, (FR_I f (fun z => p _ _ z (by unfold b3; omega))).trans e4, (FR_I f (fun z => p _ _ z (by unfold b3; omega))).trans e5⟩, m4, j4, LawsC_FR lc f (fun i hi => ⟨fun z => p _ _ z (by unfold b3 PLw; omega), fun j z => p _ _ z (by unfold b3 PLw; omega)⟩), fun i hi => ?_⟩
  exact CJ_FR' (cj i hi) f (fun z => p _ _ z (by unfold b3 PLw; omega)) (fun j => ⟨fun z => p _ _ z (by unfold b3 PLw; omega), fun z => p _ _ z (by unfold b3 PLw; omega)⟩)
theorem c4_FR {h h' : ajH} {P : Nat → Nat → Prop} {S : GS} (c : c4 S h) (f : FR h h' P) (p : ∀ o j, P o j → ¬ b4 o j) : c4 S h' := cX_FR c f (fun o j z => by have y := p _ _ z; unfold b4 at y; omega)
theorem c5_FR {h h' : ajH} {P : Nat → Nat → Prop} {S : GS} (c : c5 S h) (f : FR h h' P) (p : ∀ o j, P o j → ¬ b5 o j) : c5 S h' := by
  obtain ⟨e1, n4, q, hq, e2, ax⟩ := c
  refine ⟨(FR_I f (fun z => p _ _ z (by unfold b5; omega))).trans e1, n4, q, hq, (FR_I f (fun z => p _ _ z (by unfold b5; omega))).trans e2, fun i hi => cX_FR (ax i hi) f (fun o j z => ?_)⟩
  have y := p _ _ z
  have l := Nat.mod_lt (q + 41 + i - gna S) (show 0 < 40 by omega)
  unfold b5 at y
  unfold aSl
  omega
theorem c6_FR {h h' : ajH} {P : Nat → Nat → Prop} {S : GS} (c : c6 S h) (f : FR h h' P) (p : ∀ o j, P o j → ¬ b6 o j) : c6 S h' := fun e => cX_FR (c e) f (fun o j z => by have y := p _ _ z; unfold b6 at y; omega)
theorem c7_FR {h h' : ajH} {P : Nat → Nat → Prop} {S : GS} (c : c7 S h) (f : FR h h' P) (p : ∀ o j, P o j → ¬ b7 o j) : c7 S h' :=
  ⟨(FR_I f (fun z => p _ _ z (by unfold b7; omega))).trans c.1, (FR_I f (fun z => p _ _ z (by unfold b7; omega))).trans c.2.1, (FR_I f (fun z => p _ _ z (by unfold b7; omega))).trans c.2.2.1, (FR_I f (fun z => p _ _ z (by unfold b7; omega))).trans c.2.2.2⟩
theorem CI_FR {h h' : ajH} {P : Nat → Nat → Prop} {S : GS} (c : CI S h) (f : FR h h' P) (p : ∀ o j, P o j → ¬ b1 o j ∧ ¬ b2 o j ∧ ¬ b3 o j ∧ ¬ b4 o j ∧ ¬ b5 o j ∧ ¬ b6 o j ∧ ¬ b7 o j) : CI S h' :=
  ⟨c1_FR c.1 f (fun o j z => (p o j z).1), c2_FR c.2.1 f (fun o j z => (p o j z).2.1), c3_FR c.2.2.1 f (fun o j z => (p o j z).2.2.1), c4_FR c.2.2.2.1 f (fun o j z => (p o j z).2.2.2.1), c5_FR c.2.2.2.2.1 f (fun o j z => (p o j z).2.2.2.2.1), c6_FR c.2.2.2.2.2.1 f (fun o j z => (p o j z).2.2.2.2.2.1), c7_FR c.2.2.2.2.2.2 f (fun o j z => (p o j z).2.2.2.2.2.2)⟩
