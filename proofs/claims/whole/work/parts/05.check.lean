/-! What the tables must say of an instruction, as a program that answers true or false. -/
def ajStat : List (String × String × String × Value) := [("SpokeRing", "RULE_USUAL", "[I", .ref 1000), ("SpokeRing", "RULE_LEAST", "[I", .ref 1001), ("SpokeRing", "RULE_MOST", "[I", .ref 1002), ("SpokeRing", "SPOKE_USUAL", "[I", .ref 1003), ("SpokeRing", "SPOKE_LEAST", "[I", .ref 1004), ("SpokeRing", "SPOKE_MOST", "[I", .ref 1005), ("java/lang/String", "COMPACT_STRINGS", "Z", .int 1), ("jdk/internal/util/Preconditions", "SIOOBE_FORMATTER", "Ljava/util/function/BiFunction;", .ref 1060)]
def ajStrs : List (String × Nat × String × Nat) := [("SpokeRing$Law", 18, "vdohwt", 1010), ("SpokeRing", 178, "lwca", 1011), ("SpokeRing", 197, "svo", 1012), ("SpokeRing$LawReader", 94, "vdohwt", 1010), ("SpokeRing", 229, "thgm", 1013), ("SpokeRing", 242, "no such spoke or nothing such of it", 1014), ("SpokeRingModel", 26, "y", 1015), ("SpokeRingModel", 32, "vdohwt", 1010), ("SpokeRingModel", 248, "lwca", 1011), ("SpokeRingModel", 254, "svo", 1012), ("SpokeRingModel", 259, "thgm", 1013)]
def ajCI (xs : Nat → Int32) (a k : Nat) : Int32 := if a = 1100 then xs k else (ajCo.getD (a - 1000) []).getD k 0
def ajCR (a k : Nat) : Nat := if k = 1 ∧ (ajSh a).1 = 50 then a + 20 else 0
def ajLc (L a : Nat) : Nat := if a = 1100 then L else (ajSh a).2
def ajGw : List Cond := lw_tbl.filter goodWord
def ajHas (p : Nat) (w : Cond) : Bool := decide (lw_tbl[p]? = some w) && goodWord w
theorem ajHas_in {p : Nat} {w : Cond} (h : ajHas p w = true) : w ∈ ajGw := by
  unfold ajHas at h
  rw [Bool.and_eq_true, decide_eq_true_eq] at h
  exact List.mem_filter.mpr ⟨List.mem_of_getElem? h.1, h.2⟩
def ajNest : Cond → Bool
  | .fieldLinkNest .. => true
  | .methodLinkNest .. => true
  | _ => false
def ajNw : List Cond := lw_tbl.filter ajNest
def ajHasN (p : Nat) (w : Cond) : Bool := decide (lw_tbl[p]? = some w) && ajNest w
theorem ajHasN_in {p : Nat} {w : Cond} (h : ajHasN p w = true) : w ∈ ajNw := by
  unfold ajHasN at h
  rw [Bool.and_eq_true, decide_eq_true_eq] at h
  exact List.mem_filter.mpr ⟨List.mem_of_getElem? h.1, h.2⟩
def ajOwn (mi : Nat) : String := (ajYn mi).cls
def ajLnk (own : String) (idx : Nat) (n d1 d2 : String) (ts : List Nat) : Bool := match ts with
  | p :: 0 :: _ => ajHas p (.fieldLink own idx n d1 d2)
  | p :: 1 :: _ => ajHasN p (.fieldLinkNest own idx n d1 d2 "SpokeRing")
  | _ => false
def ajIsRef : FieldType → Bool
  | .object _ => true
  | .array _ => true
  | _ => false
def ajTagOK (t : Nat) (f : FieldType) : Bool := match t with
  | 0 => decide (f = .int)
  | 1 => decide (f = .long)
  | 2 => ajIsRef f
  | 3 => decide (f = .boolean)
  | _ => false
/-- a field of a class of ours: class, field, kind of value -/
def ajChF (own : String) (idx a b t : Nat) (ts : List Nat) : Bool := match ajCl[a]? with
  | some (_, T, N) => Nat.blt b N && (ajTagOK t (ajY a b) && ajLnk own idx (T b).1 (T b).2.1 (T b).2.2.1 ts)
  | none => false
def ajLnk0 (own : String) (idx : Nat) (n d1 d2 : String) (ts : List Nat) : Bool := match ts with
  | p :: 0 :: _ => ajHas p (.fieldLink own idx n d1 d2)
  | _ => false
def ajFinOK (mi idx a b : Nat) (ts : List Nat) : Bool := match ajCl[a]? with
  | some (_, T, _) => !(T b).2.2.2 || (decide ((ajYn mi).name = "<init>") && (decide ((T b).1 = ajOwn mi) && ajLnk0 (ajOwn mi) idx (T b).1 (T b).2.1 (T b).2.2.1 ts))
  | none => false
def ajChG (mi idx a b t : Nat) (ts : List Nat) : Bool := match Nat.beq a 50 with
  | true => (Nat.beq b 0 && (Nat.beq t 0 && ajLnk0 (ajOwn mi) idx "java/lang/String" "coder" "B" ts)) || (Nat.beq b 1 && (Nat.beq t 2 && ajLnk0 (ajOwn mi) idx "java/lang/String" "value" "[B" ts))
  | false => ajChF (ajOwn mi) idx a b t ts
def ajTgt (pc : Nat) (off : Int) (t : Nat) : Bool := decide ((pc : Int) + off = (t : Int))
def ajChN (mi idx a n : Nat) (ts : List Nat) : Bool := match ajCl[a]?, ts with
  | some (C, _, N), p :: _ => Nat.beq n N && ajHas p (.classLink (ajOwn mi) idx C)
  | _, _ => false
def ajElN (a : Nat) : String := match a with
  | 103 => "SpokeRing$State"
  | 104 => "SpokeRing$Law"
  | _ => "SpokeRing$Journey"
/-- a call of a method of the tables -/
def ajChI (mi idx a b cq : Nat) (ts : List Nat) (sp vi : Bool) : Bool := match ts with
  | [pl, ne, ps, pe, pn] =>
    (match ne with
      | 0 => ajHas pl (.methodLink (ajOwn mi) idx (ajYn a))
      | _ => ajHasN pl (.methodLinkNest (ajOwn mi) idx (ajYn a) "SpokeRing")) &&
    (ajHas (ajWp.getD a 0) (.code (ajYn a) (ajBy a) (ajMx a) (ajFt a)) &&
    (ajHas pn (.initialized (ajYn a).cls) &&
    (decide ((ajYn a).cls ≠ "java/lang/invoke/MethodHandle" ∧ (ajYn a).cls ≠ "java/lang/invoke/VarHandle" ∧ (parseMethodDescriptor (ajYn a).desc).map (fun d => d.parameters.length) = some b) &&
    (plainName (ajYn a).cls && (Nat.ble (ajMx a) 40 &&
    (match sp, vi with
      | true, _ => decide ((ajYn a).name = "<init>") && (decide (ajFt a = none) && (ajHas ps (.instanceMethod (ajYn a)) && (!(Nat.beq cq 0) && (Nat.blt cq 50 && Nat.beq ne 0))))
      | _, true => ajHas ps (.instanceMethod (ajYn a)) && (ajHas pe (.selects (ajYn a).cls (ajYn a) (ajYn a)) && (!(Nat.beq cq 0) && (Nat.beq ne 0 && (match Nat.beq cq 51 with
          | true => decide ((ajYn a).cls = "java/lang/String")
          | false => decide ((ajCl[cq - 1]?).map (fun q => q.1) = some (ajYn a).cls)))))
      | _, _ => ajHas ps (.static (ajYn a)) && Nat.beq cq 0))))))
  | _ => false
def ajChM (own : String) (idx a b cq p : Nat) : Bool := Nat.beq cq 0 && (match a with
  | 510 => Nat.beq b 2 && ajHas p (.methodLink own idx Lib.Math.max.name)
  | 511 => Nat.beq b 2 && ajHas p (.methodLink own idx Lib.Math.min.name)
  | 512 => Nat.beq b 1 && ajHas p (.methodLink own idx Lib.Math.abs.name)
  | 513 => Nat.beq b 2 && ajHas p (.methodLink own idx Lib.MathLoose.max_long.x)
  | 514 => Nat.beq b 2 && ajHas p (.methodLink own idx Lib.MathLoose.min_long.x)
  | _ => false)
def ajSpX : Nat := 38
def ajChk (mi pc : Nat) (e : ajE) : Bool :=
  decide (decode (ajBy mi) pc = .ok (e.1, e.2.1)) && (match e.1 with
  | .aload _ | .iload _ | .lload _ => Nat.beq e.2.1 2
  | .bipush n => Nat.beq e.2.1 2 && decide ((Int8.ofInt n).toInt32 = ajCk e.2.2.2.1 e.2.2.2.2.1)
  | .iconst n => Nat.beq e.2.1 1 && decide (Int32.ofInt n = ajCk e.2.2.2.1 e.2.2.2.2.1)
  | .istore i | .astore i => Nat.beq e.2.1 2 && Nat.blt i (ajMx mi)
  | .lstore i => Nat.beq e.2.1 2 && Nat.blt (i + 1) (ajMx mi)
  | .istore_n i | .astore_n i => Nat.beq e.2.1 1 && Nat.blt i.val (ajMx mi)
  | .lstore_n i => Nat.beq e.2.1 1 && Nat.blt (i.val + 1) (ajMx mi)
  | .iinc i n => Nat.beq e.2.1 3 && (Nat.blt i (ajMx mi) && decide (Int32.ofInt n = ajCk e.2.2.2.1 e.2.2.2.2.1))
  | .sipush n => Nat.beq e.2.1 3 && decide ((Int16.ofInt n).toInt32 = ajCk e.2.2.2.1 e.2.2.2.2.1)
  | .ldc idx => Nat.beq e.2.1 2 && (match e.2.2.1, e.2.2.2.2.2.2 with
    | 2, _ => ajStrs.any (fun q => decide (q.1 = ajOwn mi) && (Nat.beq q.2.1 idx && Nat.beq q.2.2.2 e.2.2.2.1))
    | 0, p :: _ => ajHas p (.constant (ajOwn mi) idx (ajCk e.2.2.2.1 e.2.2.2.2.1))
    | _, _ => false)
  | .ldc_w idx => Nat.beq e.2.1 3 && (match e.2.2.1, e.2.2.2.2.2.2 with
    | 2, _ => ajStrs.any (fun q => decide (q.1 = ajOwn mi) && (Nat.beq q.2.1 idx && Nat.beq q.2.2.2 e.2.2.2.1))
    | 0, p :: _ => ajHas p (.constant (ajOwn mi) idx (ajCk e.2.2.2.1 e.2.2.2.2.1))
    | _, _ => false)
  | .ldc2_w idx => Nat.beq e.2.1 3 && (match e.2.2.2.2.2.2 with
    | p :: _ => ajHas p (.constantLong (ajOwn mi) idx (ajCd e.2.2.2.1 e.2.2.2.2.1))
    | _ => false)
  | .getstatic idx => Nat.beq e.2.1 3 && (match ajStat[e.2.2.2.2.1]? with
    | some (C, n, d, v) => ajLnk (ajOwn mi) idx C n d e.2.2.2.2.2.2 && decide (v = match e.2.2.1 with
      | 2 => .ref e.2.2.2.1
      | _ => .int (ajCk e.2.2.2.1 0))
    | none => false)
  | .goto off | .ifCond _ off | .if_icmp _ off | .ifnull off => Nat.beq e.2.1 3 && ajTgt pc off e.2.2.1
  | .tableswitch d lo hi offs => ajTgt pc d (e.2.2.2.2.2.2.getD 0 0) && (decide (lo ≤ hi) && (decide ((offs.size : Int) = hi - lo + 1) && (List.range offs.size).all (fun i => match offs[i]? with
    | some o => ajTgt pc o (e.2.2.2.2.2.2.getD (i + 1) 0)
    | none => false)))
  | .getfield idx => Nat.beq e.2.1 3 && ajChG mi idx e.2.2.1 e.2.2.2.1 e.2.2.2.2.1 e.2.2.2.2.2.2
  | .putfield idx => Nat.beq e.2.1 3 && (ajChF (ajOwn mi) idx e.2.2.1 e.2.2.2.1 e.2.2.2.2.1 e.2.2.2.2.2.2 && ajFinOK mi idx e.2.2.1 e.2.2.2.1 e.2.2.2.2.2.2)
  | .new idx => Nat.beq e.2.1 3 && ajChN mi idx e.2.2.1 e.2.2.2.1 e.2.2.2.2.2.2
  | .newarray ty => Nat.beq e.2.1 2 && (match ty with
    | .int => Nat.beq e.2.2.1 100
    | .byte => Nat.beq e.2.2.1 101
    | .long => Nat.beq e.2.2.1 102
    | _ => false)
  | .anewarray idx => Nat.beq e.2.1 3 && (Nat.ble 103 e.2.2.1 && (Nat.blt e.2.2.1 106 && (match e.2.2.2.2.2.2 with
    | p :: _ => ajHas p (.classLink (ajOwn mi) idx (ajElN e.2.2.1))
    | _ => false)))
  | .invokestatic idx => Nat.beq e.2.1 3 && (match Nat.blt e.2.2.1 500, e.2.2.2.2.2.2 with
    | true, ts => ajChI mi idx e.2.2.1 e.2.2.2.1 e.2.2.2.2.1 ts false false
    | false, p :: _ => (Nat.beq e.2.2.1 500 && (Nat.beq e.2.2.2.1 5 && (Nat.beq e.2.2.2.2.1 0 && ajHas p (.methodLink (ajOwn mi) idx arraycopyName)))) || (Nat.beq e.2.2.1 501 && (Nat.beq mi ajLaw && (Nat.beq e.2.2.2.1 4 && (Nat.beq e.2.2.2.2.1 0 && Nat.beq idx ajSpX)))) || (Nat.ble 510 e.2.2.1 && ajChM (ajOwn mi) idx e.2.2.1 e.2.2.2.1 e.2.2.2.2.1 p)
    | _, _ => false)
  | .invokevirtual idx => Nat.beq e.2.1 3 && (Nat.blt e.2.2.1 500 && ajChI mi idx e.2.2.1 e.2.2.2.1 e.2.2.2.2.1 e.2.2.2.2.2.2 false true)
  | .invokespecial idx => Nat.beq e.2.1 3 && (match Nat.blt e.2.2.1 500, e.2.2.2.2.2.2 with
    | true, ts => ajChI mi idx e.2.2.1 e.2.2.2.1 e.2.2.2.2.1 ts true false
    | false, p :: _ => Nat.beq e.2.2.1 502 && (Nat.beq e.2.2.2.1 0 && (Nat.beq e.2.2.2.2.1 1 && ajHas p (.methodLink (ajOwn mi) idx Lib.objectInit)))
    | _, _ => false)
  | _ => Nat.beq e.2.1 1)
