/-! Which locals are forgotten where (printed by wip/gen/emit.py). -/
def ajKs : List (List (Nat × List Nat)) := [[], [], [], [], [], [], [], [], [], [(20, [1])], [], [], [(3, [3])], [], [], [], [(15, [5]), (71, [3]), (128, [3, 5]), (141, [2, 3, 4, 5]), (157, [1, 2, 3, 4, 5])], [], [], [], [], [(6, [7, 8, 9]), (38, [7, 8, 9]), (119, [1, 2, 3, 4, 5, 6, 7, 8, 9])], [], [(91, [1, 5]), (124, [1, 5]), (136, [1, 2, 3, 4, 5])], [], [], [], [], [(55, [1, 2])], [(24, [1, 2, 3]), (57, [1, 2, 3]), (96, [1, 3])], [], [], [(60, [3]), (97, [1, 2, 3])], [], [], [(27, [2])], [(13, [2])], [(5, [5]), (43, [4, 5]), (76, [1, 2, 3, 4, 5]), (84, [5]), (135, [4, 5]), (147, [2, 4, 5]), (160, [1, 2, 4])], [], [], [(13, [4, 5, 6]), (47, [2, 4, 5, 6]), (78, [2, 4, 6]), (95, [2, 4]), (133, [1, 2, 3, 4, 5, 6])], [], [(49, [1])], [], [], [], [], [], [], [], [], [], [], [], [], [], [], [], [], [], [], [], [], [], [], [(16, [1]), (55, [1, 3])], [], [(13, [3])], [(3, [5, 6])], [(6, [3]), (49, [3])], [], [], [], [(13, [5, 6, 7]), (179, [2, 3, 5, 6, 7]), (225, [2, 3, 5, 6, 7])], [], [(51, [1, 2, 3, 4, 5, 6, 9, 10, 11, 12, 13]), (101, [1, 2, 3, 4, 5, 6, 9, 12, 13]), (189, [1, 2, 3, 4, 5, 6, 9, 13]), (215, [1, 2, 3, 4, 5, 6, 9, 11, 13]), (276, [1, 2, 3, 4, 5, 6, 7, 9, 10, 11, 12, 13])], [], [(219, [0, 1, 2, 3, 4])], [], [], [], [], [], [], [], [], [], [], [], [(41, [2, 3, 7]), (100, [2, 3, 7]), (151, [2, 3, 7])], [], [], [], [(39, [1])], [], [], [], [], [], [(52, [1]), (117, [1, 5])], [(29, [1])], [], [(6, [4])], [], [], [], [(14, [1, 3, 4, 5])], [], [(127, [5])], [(7, [5, 6]), (63, [6])], [], [(35, [2])], [], [(35, [1, 2])], [], [(19, [3])], [], [], [(6, [4]), (48, [1, 2])], [(52, [0, 1, 6])], [], [], [], [], [], [(44, [2, 3, 4, 5, 6])], [(22, [6])], [], [(17, [9, 10])], [], [(72, [1]), (85, [1]), (98, [1]), (111, [1]), (124, [1]), (132, [1]), (164, [1]), (172, [1]), (187, [1]), (225, [1]), (240, [1]), (245, [1]), (278, [0, 1])], [], [(60, [0, 1, 4])], [(31, [4])], [], [], [(80, [1]), (88, [1]), (109, [1]), (114, [1]), (119, [1]), (127, [1]), (132, [1]), (140, [1]), (148, [1]), (156, [1]), (167, [1]), (175, [1]), (180, [1]), (188, [1]), (196, [1]), (204, [1]), (212, [0, 1])], [], [], [], [], [], [], [], [], [], [(88, [1]), (106, [1]), (130, [1])], [], [], [(18, [2]), (38, [2])], [], [], [(3, [6])], [], [], [], [], [(67, [3])], [], [], [(32, [1, 2, 3]), (66, [1, 2, 3])], [(64, [2, 3, 4]), (134, [4])], [], [], [(7, [1, 2, 4])], [(18, [1, 2, 4])], [(12, [1, 2, 3, 4, 5])], [(5, [2, 3, 4]), (31, [2, 3, 4]), (45, [2, 3, 4]), (77, [1, 2, 3, 4])], [(5, [2, 3, 4]), (31, [2, 3, 4]), (45, [2, 3, 4]), (87, [1, 2, 3, 4])], [(90, [1])], [], [], [], [], [(57, [2])], [], [(30, [2, 3]), (43, [2, 3]), (71, [1]), (137, [1, 2]), (215, [1, 2]), (240, [1, 2])], [], [], [], [], [], [(2, [4])], [(3, [5])], [], [], [], [], [(19, [2]), (57, [2, 4])], [(19, [2])], [(20, [3, 4]), (73, [4]), (111, [4]), (127, [4]), (164, [4]), (186, [3, 4]), (246, [0, 2, 3, 4]), (277, [0, 2, 3])], [(11, [2])], [], [], [], [], [], [], [], [], [], [], [], [], [], [], [], [], [(49, [2, 3, 5, 6]), (96, [2, 3, 5, 6]), (132, [2, 3, 5, 6])], [], [], [], [], [], [], [], [], [], [(24, [3])], [], [], [], [], [(32, [6]), (67, [6]), (124, [6])], [(49, [5]), (91, [5])], [(7, [5, 6])], [(68, [1, 2])], [(30, [1])], [(2, [3])], [], [(27, [1, 5, 6, 7]), (43, [1])], [(55, [1, 6])], [(43, [5])], [(42, [3])], [], [], [(26, [3, 7]), (52, [1, 2, 3, 4, 5, 7])], [(27, [6, 7]), (36, [7]), (101, [7])], [], [], [], [], [], [], [], [], [], [], [], [(84, [1]), (89, [1]), (96, [1]), (101, [1]), (106, [1]), (111, [1]), (116, [1]), (124, [1]), (132, [1]), (140, [1]), (148, [1]), (156, [1]), (161, [1]), (166, [1]), (174, [1]), (179, [1]), (187, [0, 1])], [], [], [], [], [], [], [], [(7, [1, 2])], [], [], [], [], [], [(23, [5, 6]), (208, [5, 6]), (281, [5, 6]), (306, [5, 6]), (331, [5, 6]), (356, [5, 6]), (424, [5, 6]), (449, [5, 6]), (474, [5, 6]), (487, [5, 6]), (500, [5, 6]), (525, [5, 6]), (550, [5, 6]), (565, [5, 6]), (583, [5, 6]), (591, [5, 6]), (616, [5, 6]), (641, [5, 6]), (710, [5, 6]), (723, [5, 6]), (760, [5, 6]), (809, [5, 6]), (846, [5, 6]), (871, [5, 6]), (908, [5, 6]), (921, [5, 6]), (970, [5, 6]), (995, [5, 6]), (1016, [5, 6]), (1040, [5, 6]), (1048, [5, 6]), (1085, [5, 6]), (1110, [5, 6]), (1135, [5, 6]), (1172, [5, 6]), (1197, [5, 6]), (1270, [5, 6]), (1319, [5, 6]), (1368, [5, 6]), (1405, [5, 6]), (1430, [5, 6]), (1443, [5, 6]), (1456, [5, 6]), (1481, [5, 6])]]
/-! The abstract machine: ids for addresses, one heap of ints, longs and references by id and place; it runs the resolved instructions of the tables. -/
abbrev ajH : Type := (Nat × Nat × Nat × Nat) × (Nat → Nat → Int32) × (Nat → Nat → Int64) × (Nat → Nat → Nat)
def ajN (h : ajH) : Nat := h.1.1
def ajX (h : ajH) : Nat := h.1.2.1
def ajW (h : ajH) : Nat := h.1.2.2.1
def ajQ (h : ajH) : Nat := h.1.2.2.2
def ajI (h : ajH) (a k : Nat) : Int32 := h.2.1 a k
def ajL (h : ajH) (a k : Nat) : Int64 := h.2.2.1 a k
def ajR (h : ajH) (a k : Nat) : Nat := h.2.2.2 a k
def ajSI (h : ajH) (a k : Nat) (v : Int32) : ajH := (h.1, fun b j => if b = a ∧ j = k then v else h.2.1 b j, h.2.2)
def ajSL (h : ajH) (a k : Nat) (v : Int64) : ajH := (h.1, h.2.1, fun b j => if b = a ∧ j = k then v else h.2.2.1 b j, h.2.2.2)
def ajSR (h : ajH) (a k : Nat) (v : Nat) : ajH := (h.1, h.2.1, h.2.2.1, fun b j => if b = a ∧ j = k then v else h.2.2.2 b j)
def ajCp (h : ajH) (d s sp dp n : Nat) : ajH := (h.1, fun b j => if b = d ∧ dp ≤ j ∧ j < dp + n then h.2.1 s (sp + (j - dp)) else h.2.1 b j, h.2.2)
def ajAl (h : ajH) (n : Nat) : ajH := ((ajN h + 1, ajX h, ajW h + n, ajQ h), fun b j => if b = ajN h then 0 else h.2.1 b j, fun b j => if b = ajN h then 0 else h.2.2.1 b j, fun b j => if b = ajN h then 0 else h.2.2.2 b j)
def ajTh (h : ajH) : ajH := ((ajN h, ajX h + ajXc, ajW h + ajXs, ajQ h), h.2)
def ajLen (h : ajH) (a : Nat) : Nat := if a = 1100 then ajQ h else (ajSh a).2
abbrev ajOK (h : ajH) (a c : Nat) : Prop := (a < ajN h ∨ 1000 ≤ a) ∧ (ajSh a).1 = c
abbrev ajOW (h : ajH) (a c : Nat) : Prop := a < ajN h ∧ (ajSh a).1 = c
abbrev ajIn (i : Int32) (n : Nat) : Prop := ¬ (i < 0 ∨ n ≤ i.toNatClampNeg)
abbrev ajU : Value := .retAddr 0
def ajPut (ps : List Value) (i : Nat) (v : Value) : List Value := match ps.getD (i - 1) ajU with
  | .long _ => (ps.set (i - 1) ajU).set i v
  | _ => ps.set i v
def ajPut2 (ps : List Value) (i : Nat) (v : Value) : List Value := (ajPut ps i v).set (i + 1) ajU
abbrev ajO : Type := Option (Nat × List Value × List Value × ajH)
def ajIld (pc i : Nat) (ps st : List Value) (h : ajH) : ajO := match ps.getD i ajU with
  | .int x => some (pc, ps, .int x :: st, h)
  | _ => none
def ajLld (pc i : Nat) (ps st : List Value) (h : ajH) : ajO := match ps.getD i ajU with
  | .long x => some (pc, ps, .long x :: st, h)
  | _ => none
def ajAld (pc i : Nat) (ps st : List Value) (h : ajH) : ajO := match ps.getD i ajU with
  | .ref x => some (pc, ps, .ref x :: st, h)
  | _ => none
def ajIst (pc i : Nat) (ps st : List Value) (h : ajH) : ajO := match st with
  | .int x :: r => some (pc, ajPut ps i (.int x), r, h)
  | _ => none
def ajLst (pc i : Nat) (ps st : List Value) (h : ajH) : ajO := match st with
  | .long x :: r => some (pc, ajPut2 ps i (.long x), r, h)
  | _ => none
def ajAst (pc i : Nat) (ps st : List Value) (h : ajH) : ajO := match st with
  | .ref x :: r => some (pc, ajPut ps i (.ref x), r, h)
  | _ => none
def ajII (pc : Nat) (ps st : List Value) (h : ajH) (f : Int32 → Int32 → Int32) : ajO := match st with
  | .int y :: .int x :: r => some (pc, ps, .int (f x y) :: r, h)
  | _ => none
def ajDD (pc : Nat) (ps st : List Value) (h : ajH) (f : Int32 → Int32 → Int32) : ajO := match st with
  | .int y :: .int x :: r => if y = 0 then none else some (pc, ps, .int (f x y) :: r, h)
  | _ => none
def ajLL (pc : Nat) (ps st : List Value) (h : ajH) (f : Int64 → Int64 → Int64) : ajO := match st with
  | .long y :: .long x :: r => some (pc, ps, .long (f x y) :: r, h)
  | _ => none
def ajLD (pc : Nat) (ps st : List Value) (h : ajH) (f : Int64 → Int64 → Int64) : ajO := match st with
  | .long y :: .long x :: r => if y = 0 then none else some (pc, ps, .long (f x y) :: r, h)
  | _ => none
def ajLS (pc : Nat) (ps st : List Value) (h : ajH) (f : Int64 → Int32 → Int64) : ajO := match st with
  | .int y :: .long x :: r => some (pc, ps, .long (f x y) :: r, h)
  | _ => none
def ajUU (pc : Nat) (ps st : List Value) (h : ajH) (f : Int32 → Value) : ajO := match st with
  | .int x :: r => some (pc, ps, f x :: r, h)
  | _ => none
def ajBr (pc tgt : Nat) (ps st : List Value) (h : ajH) (f : Int32 → Bool) : ajO := match st with
  | .int x :: r => if f x = true then some (tgt, ps, r, h) else some (pc, ps, r, h)
  | _ => none
def ajBr2 (pc tgt : Nat) (ps st : List Value) (h : ajH) (f : Int32 → Int32 → Bool) : ajO := match st with
  | .int y :: .int x :: r => if f x y = true then some (tgt, ps, r, h) else some (pc, ps, r, h)
  | _ => none
def ajSw (ts : List Nat) (lo hi : Int) (x : Int32) : Nat := if x.toInt < lo ∨ hi < x.toInt then ts.getD 0 0 else ts.getD ((x.toInt - lo).toNat + 1) 0
def ajCond (cc : Jvm.ClassFile.Cond) (x y : Int32) : Bool := match cc with
  | .eq => decide (x = y)
  | .ne => decide (¬ x = y)
  | .lt => decide (x < y)
  | .ge => decide (y ≤ x)
  | .gt => decide (y < x)
  | .le => decide (x ≤ y)
def ajFv (h : ajH) (o k t : Nat) : Value := match t with
  | 1 => .long (ajL h o k)
  | 2 => .ref (ajR h o k)
  | _ => .int (ajI h o k)
def ajGet (pc a k t : Nat) (ps st : List Value) (h : ajH) : ajO := match st with
  | .ref o :: r => if ajOK h o a then some (pc, ps, ajFv h o k t :: r, h) else none
  | _ => none
def ajSet (pc a k t : Nat) (ps st : List Value) (h : ajH) : ajO := match t, st with
  | 0, .int x :: .ref o :: r => if ajOW h o a then some (pc, ps, r, ajSI h o k x) else none
  | 3, .int x :: .ref o :: r => if ajOW h o a ∧ (x = 0 ∨ x = 1) then some (pc, ps, r, ajSI h o k x) else none
  | 1, .long x :: .ref o :: r => if ajOW h o a then some (pc, ps, r, ajSL h o k x) else none
  | 2, .ref x :: .ref o :: r => if ajOW h o a then some (pc, ps, r, ajSR h o k x) else none
  | _, _ => none
def ajAL (pc kd : Nat) (ps st : List Value) (h : ajH) : ajO := match st with
  | .int i :: .ref o :: r => if ajOK h o kd ∧ ajIn i (ajLen h o) then some (pc, ps, (if kd = 102 then .long (ajL h o i.toNatClampNeg) else .int (ajI h o i.toNatClampNeg)) :: r, h) else none
  | _ => none
def ajALq (pc : Nat) (ps st : List Value) (h : ajH) : ajO := match st with
  | .int i :: .ref o :: r => if (o < ajN h ∧ 103 ≤ (ajSh o).1 ∧ (ajSh o).1 < 106) ∧ ajIn i (ajLen h o) then some (pc, ps, .ref (ajR h o i.toNatClampNeg) :: r, h) else none
  | _ => none
def ajAS (pc kd : Nat) (ps st : List Value) (h : ajH) : ajO := match st with
  | .int x :: .int i :: .ref o :: r => if ajOW h o kd ∧ ajIn i (ajLen h o) then some (pc, ps, r, ajSI h o i.toNatClampNeg (if kd = 101 then vp_nar .byte x else x)) else none
  | _ => none
def ajASl (pc : Nat) (ps st : List Value) (h : ajH) : ajO := match st with
  | .long x :: .int i :: .ref o :: r => if ajOW h o 102 ∧ ajIn i (ajLen h o) then some (pc, ps, r, ajSL h o i.toNatClampNeg x) else none
  | _ => none
def ajEl (kd : Nat) : Nat := if kd = 103 then 6 else if kd = 104 then 3 else 4
def ajASq (pc : Nat) (ps st : List Value) (h : ajH) : ajO := match st with
  | .ref v :: .int i :: .ref o :: r => if (o < ajN h ∧ 103 ≤ (ajSh o).1 ∧ (ajSh o).1 < 106) ∧ ajIn i (ajLen h o) ∧ ajOW h v (ajEl (ajSh o).1) then some (pc, ps, r, ajSR h o i.toNatClampNeg v) else none
  | _ => none
def ajALen (pc : Nat) (ps st : List Value) (h : ajH) : ajO := match st with
  | .ref o :: r => if (o < ajN h ∨ 1000 ≤ o) ∧ 100 ≤ (ajSh o).1 ∧ (ajSh o).1 < 106 then some (pc, ps, .int (Int32.ofNat (ajLen h o)) :: r, h) else none
  | _ => none
def ajNew (pc a n : Nat) (ps st : List Value) (h : ajH) : ajO :=
  if ajX h = 0 ∧ ajN h < 999 ∧ ajSh (ajN h) = (a, n) then some (pc, ps, .ref (ajN h) :: st, ajAl h n) else none
def ajNewA (pc a : Nat) (ps st : List Value) (h : ajH) : ajO := match st with
  | .int x :: r => if ¬ x < 0 ∧ ajX h = 0 ∧ ajN h < 999 ∧ ajSh (ajN h) = (a, x.toNatClampNeg) ∧ x.toNatClampNeg ≤ 10000 then some (pc, ps, .ref (ajN h) :: r, ajAl h x.toNatClampNeg) else none
  | _ => none
def ajDup (pc : Nat) (ps st : List Value) (h : ajH) : ajO := match st with
  | .int x :: r => some (pc, ps, .int x :: .int x :: r, h)
  | .ref x :: r => some (pc, ps, .ref x :: .ref x :: r, h)
  | _ => none
def ajDup2 (pc : Nat) (ps st : List Value) (h : ajH) : ajO := match st with
  | .int x :: .int y :: r => some (pc, ps, .int x :: .int y :: .int x :: .int y :: r, h)
  | .int x :: .ref y :: r => some (pc, ps, .int x :: .ref y :: .int x :: .ref y :: r, h)
  | _ => none
def ajPop (pc : Nat) (ps st : List Value) (h : ajH) : ajO := match st with
  | .int _ :: r => some (pc, ps, r, h)
  | .ref _ :: r => some (pc, ps, r, h)
  | _ => none
def ajL2I (pc : Nat) (ps st : List Value) (h : ajH) : ajO := match st with
  | .long x :: r => some (pc, ps, .int x.toInt32 :: r, h)
  | _ => none
def ajCmpL (pc : Nat) (ps st : List Value) (h : ajH) : ajO := match st with
  | .long y :: .long x :: r => some (pc, ps, .int (lg_cmp x y) :: r, h)
  | _ => none
def ajNul (pc tgt : Nat) (ps st : List Value) (h : ajH) : ajO := match st with
  | .ref x :: r => if x = 0 then some (tgt, ps, r, h) else if x < 1000 then some (pc, ps, r, h) else none
  | _ => none
def ajInc (pc i : Nat) (n : Int32) (ps st : List Value) (h : ajH) : ajO := match ps.getD i ajU with
  | .int x => some (pc, ajPut ps i (.int (x + n)), st, h)
  | _ => none
def ajTsw (ts : List Nat) (lo hi : Int) (ps st : List Value) (h : ajH) : ajO := match st with
  | .int x :: r => some (ajSw ts lo hi x, ps, r, h)
  | _ => none
def ajLv0 (a b c : Nat) : Value := match a with
  | 2 => .ref b
  | _ => .int (ajCk b c)
/-- one instruction that neither calls nor returns -/
def ajStep (e : ajE) (pc : Nat) (ps st : List Value) (h : ajH) : ajO := match e.1 with
  | .aconst_null => some (pc + 1, ps, .ref 0 :: st, h)
  | .aload i => ajAld (pc + 2) i ps st h
  | .aload_n i => ajAld (pc + 1) i.val ps st h
  | .iload i => ajIld (pc + 2) i ps st h
  | .iload_n i => ajIld (pc + 1) i.val ps st h
  | .lload i => ajLld (pc + 2) i ps st h
  | .lload_n i => ajLld (pc + 1) i.val ps st h
  | .istore i => ajIst (pc + 2) i ps st h
  | .istore_n i => ajIst (pc + 1) i.val ps st h
  | .lstore i => ajLst (pc + 2) i ps st h
  | .lstore_n i => ajLst (pc + 1) i.val ps st h
  | .astore i => ajAst (pc + 2) i ps st h
  | .astore_n i => ajAst (pc + 1) i.val ps st h
  | .iinc i _ => ajInc (pc + 3) i (ajCk e.2.2.2.1 e.2.2.2.2.1) ps st h
  | .iconst _ => some (pc + 1, ps, .int (ajCk e.2.2.2.1 e.2.2.2.2.1) :: st, h)
  | .bipush _ => some (pc + 2, ps, .int (ajCk e.2.2.2.1 e.2.2.2.2.1) :: st, h)
  | .sipush _ => some (pc + 3, ps, .int (ajCk e.2.2.2.1 e.2.2.2.2.1) :: st, h)
  | .lconst n => some (pc + 1, ps, .long (Int64.ofNat n.val) :: st, h)
  | .ldc _ => some (pc + 2, ps, ajLv0 e.2.2.1 e.2.2.2.1 e.2.2.2.2.1 :: st, h)
  | .ldc_w _ => some (pc + 3, ps, ajLv0 e.2.2.1 e.2.2.2.1 e.2.2.2.2.1 :: st, h)
  | .ldc2_w _ => some (pc + 3, ps, .long (ajCd e.2.2.2.1 e.2.2.2.2.1) :: st, h)
  | .getstatic _ => some (pc + 3, ps, ajLv0 e.2.2.1 e.2.2.2.1 0 :: st, h)
  | .iadd => ajII (pc + 1) ps st h (fun x y => x + y)
  | .isub => ajII (pc + 1) ps st h (fun x y => x - y)
  | .imul => ajII (pc + 1) ps st h (fun x y => x * y)
  | .iand => ajII (pc + 1) ps st h (fun x y => x &&& y)
  | .ior => ajII (pc + 1) ps st h (fun x y => x ||| y)
  | .ixor => ajII (pc + 1) ps st h (fun x y => x ^^^ y)
  | .ishl => ajII (pc + 1) ps st h (fun x y => x <<< (y &&& 31))
  | .ishr => ajII (pc + 1) ps st h (fun x y => x >>> (y &&& 31))
  | .iushr => ajII (pc + 1) ps st h (fun x y => (x.toUInt32 >>> (y.toUInt32 &&& Int32.toUInt32 31)).toInt32)
  | .idiv => ajDD (pc + 1) ps st h (fun x y => x / y)
  | .irem => ajDD (pc + 1) ps st h (fun x y => x - x / y * y)
  | .ineg => ajUU (pc + 1) ps st h (fun x => .int (-x))
  | .ladd => ajLL (pc + 1) ps st h (fun x y => x + y)
  | .lsub => ajLL (pc + 1) ps st h (fun x y => x - y)
  | .lmul => ajLL (pc + 1) ps st h (fun x y => x * y)
  | .land => ajLL (pc + 1) ps st h (fun x y => x &&& y)
  | .lor => ajLL (pc + 1) ps st h (fun x y => x ||| y)
  | .ldiv => ajLD (pc + 1) ps st h (fun x y => x / y)
  | .lrem => ajLD (pc + 1) ps st h (fun x y => x - x / y * y)
  | .lshl => ajLS (pc + 1) ps st h (fun x y => x <<< (y.toInt64 &&& 63))
  | .lushr => ajLS (pc + 1) ps st h (fun x y => (x.toUInt64 >>> (y.toInt64.toUInt64 &&& Int64.toUInt64 63)).toInt64)
  | .i2l => ajUU (pc + 1) ps st h (fun x => .long x.toInt64)
  | .i2b => ajUU (pc + 1) ps st h (fun x => .int x.toInt8.toInt32)
  | .i2c => ajUU (pc + 1) ps st h (fun x => .int (x.toUInt32 % 65536).toInt32)
  | .l2i => ajL2I (pc + 1) ps st h
  | .lcmp => ajCmpL (pc + 1) ps st h
  | .dup => ajDup (pc + 1) ps st h
  | .dup2 => ajDup2 (pc + 1) ps st h
  | .pop => ajPop (pc + 1) ps st h
  | .goto _ => some (e.2.2.1, ps, st, h)
  | .ifCond cc _ => ajBr (pc + 3) e.2.2.1 ps st h (fun x => ajCond cc x 0)
  | .if_icmp cc _ => ajBr2 (pc + 3) e.2.2.1 ps st h (fun x y => ajCond cc x y)
  | .ifnull _ => ajNul (pc + 3) e.2.2.1 ps st h
  | .tableswitch _ lo hi _ => ajTsw e.2.2.2.2.2.2 lo hi ps st h
  | .getfield _ => ajGet (pc + 3) e.2.2.1 e.2.2.2.1 e.2.2.2.2.1 ps st h
  | .putfield _ => ajSet (pc + 3) e.2.2.1 e.2.2.2.1 e.2.2.2.2.1 ps st h
  | .iaload => ajAL (pc + 1) 100 ps st h
  | .baload => ajAL (pc + 1) 101 ps st h
  | .laload => ajAL (pc + 1) 102 ps st h
  | .aaload => ajALq (pc + 1) ps st h
  | .iastore => ajAS (pc + 1) 100 ps st h
  | .bastore => ajAS (pc + 1) 101 ps st h
  | .lastore => ajASl (pc + 1) ps st h
  | .aastore => ajASq (pc + 1) ps st h
  | .arraylength => ajALen (pc + 1) ps st h
  | .new _ => ajNew (pc + 3) e.2.2.1 e.2.2.2.1 ps st h
  | .newarray _ => ajNewA (pc + 2) e.2.2.1 ps st h
  | .anewarray _ => ajNewA (pc + 3) e.2.2.1 ps st h
  | _ => none
def ajXp : List Value → List Value
  | [] => []
  | .long x :: r => .long x :: ajU :: ajXp r
  | v :: r => v :: ajXp r
def ajEnt (n : Nat) (as : List Value) : List Value := ajXp as ++ List.replicate (n - (ajXp as).length) ajU
def ajRcv (h : ajH) (c : Nat) (as : List Value) : Bool := match c, as with
  | 0, _ => true
  | c + 1, .ref o :: _ => decide (ajOK h o c)
  | _, _ => false
/-- System.arraycopy between int arrays -/
def ajCopy (as : List Value) (h : ajH) : Option ajH := match as with
  | [.ref s, .int sp, .ref d, .int dp, .int n] => if ajOK h s 100 ∧ ajOW h d 100 ∧ ¬ sp < 0 ∧ ¬ dp < 0 ∧ ¬ n < 0 ∧ sp.toNatClampNeg + n.toNatClampNeg ≤ ajLen h s ∧ dp.toNatClampNeg + n.toNatClampNeg ≤ ajLen h d then
      some (ajCp h d s sp.toNatClampNeg dp.toNatClampNeg n.toNatClampNeg) else none
  | _ => none
/-- whether the law's call of 'spoke' returns -/
def ajSpk (h : ajH) (as : List Value) : Option Bool := match as with
  | [.ref x, .int k, .int w, .ref o] => if ajOK h x 0 ∧ ajOK h (ajR h x 1) 2 ∧ ajOW h o 102 ∧ 0 < ajLen h o then some (decide (¬ k < 0 ∧ k < ajI h (ajR h x 1) 0 ∧ ¬ w < 0 ∧ w ≤ 4)) else none
  | _ => none
def ajRet (t : Nat) (x : Int32) : Bool := match t with
  | 0 => true
  | 1 => decide (x = 0 ∨ x = 1)
  | 2 => decide (vp_nar .char x = x)
  | 3 => decide (vp_nar .byte x = x)
  | _ => false
def ajMath (a : Nat) (as : List Value) : Option Value := match a, as with
  | 510, [.int x, .int y] => some (.int (if x < y then y else x))
  | 511, [.int x, .int y] => some (.int (if y < x then y else x))
  | 512, [.int x] => some (.int (if 0 ≤ x then x else 0 - x))
  | 513, [.long x, .long y] => some (.long (if y < x then x else y))
  | 514, [.long x, .long y] => some (.long (if y < x then y else x))
  | _, _ => none
def ajOne (as : List Value) : Bool := match as with
  | [.ref o] => Nat.blt 0 o && Nat.blt o 1000
  | _ => false
def ajOut (as : List Value) (h : ajH) (r : Int32) : ajH := match as with
  | [_, _, _, .ref o] => ajSL h o 0 r.toInt64
  | _ => h
def ajRl : Value → Bool
  | .int _ => true
  | .long _ => true
  | .ref _ => true
  | _ => false
def ajStk (b : Nat) (st : List Value) : Bool := Nat.ble b st.length && Nat.ble ((st.drop b).map fun v => v.category).sum 8
def ajArg (a : Nat) (as : List Value) : Bool := as.all ajRl && Nat.ble (ajXp as).length (ajMx a)
/-- locals that nobody reads any more are forgotten where ways meet -/
def ajKf (p : Nat) : List (Nat × List Nat) → List Nat
  | [] => []
  | (q, l) :: r => match Nat.beq p q with
    | true => l
    | false => ajKf p r
def ajKl (ps : List Value) : List Nat → List Value
  | [] => ps
  | i :: r => ajKl (ps.set i ajU) r
def ajKill (mi pc : Nat) (ps : List Value) : List Value := ajKl ps (ajKf pc (ajKs.getD mi []))
/-- the machine: fuel, open calls that are left, the method, where it is, locals, stack, heap -/
def ajRun : Nat → Nat → Nat → Nat → List Value → List Value → ajH → Option (Option Value × ajH)
  | 0, _, _, _, _, _, _ => none
  | n + 1, d, mi, pc, ps0, st, h => match ajCode mi pc with
    | none => none
    | some e => match e.1 with
      | .ireturn => match st with
        | [.int x] => if ajRet (ajRt mi) x = true then some (some (.int x), h) else none
        | _ => none
      | .lreturn => match st with
        | [.long x] => if ajRt mi = 4 then some (some (.long x), h) else none
        | _ => none
      | .areturn => match st with
        | [.ref x] => if ajRt mi = 5 then some (some (.ref x), h) else none
        | _ => none
      | .return_ => match st with
        | [] => if ajRt mi = 6 then some (none, h) else none
        | _ => none
      | .invokevirtual _ | .invokestatic _ | .invokespecial _ =>
        let b := if e.2.2.2.2.1 = 0 then e.2.2.2.1 else e.2.2.2.1 + 1
        let as := (st.take b).reverse
        let rest := st.drop b
        if ajStk b st = true then
          if e.2.2.1 = 502 then (if ajOne as = true then ajRun n d mi (pc + 3) (ajKill mi pc ps0) rest h else none)
          else if e.2.2.1 = 500 then match ajCopy as h with
            | some h' => ajRun n d mi (pc + 3) (ajKill mi pc ps0) rest h'
            | none => none
          else if e.2.2.1 = 501 then match ajSpk h as with
            | some true => match d with
              | d + 2 => match ajRun n d ajSpI 0 (ajEnt (ajMx ajSpI) (as.take 3)) [] h with
                | some (some (.int r), h') => ajRun n (d + 2) mi (pc + 3) (ajKill mi pc ps0) (.int 0 :: rest) (ajOut as h' r)
                | _ => none
              | _ => none
            | some false => if 8 ≤ d then ajRun n d mi (pc + 3) (ajKill mi pc ps0) (.int 1 :: rest) (ajTh h) else none
            | none => none
          else if 510 ≤ e.2.2.1 then match ajMath e.2.2.1 as with
            | some v => ajRun n d mi (pc + 3) (ajKill mi pc ps0) (v :: rest) h
            | none => none
          else match d with
            | 0 => none
            | d + 1 => if (ajArg e.2.2.1 as && ajRcv h e.2.2.2.2.1 as) = true then
                match ajRun n d e.2.2.1 0 (ajEnt (ajMx e.2.2.1) as) [] h with
                | some (r, h') => ajRun n (d + 1) mi (pc + 3) (ajKill mi pc ps0) (r.toList ++ rest) h'
                | none => none
              else none
        else none
      | _ => match ajStep e pc (ajKill mi pc ps0) st h with
        | some (pc', ps', st', h') => ajRun n d mi pc' ps' st' h'
        | none => none
