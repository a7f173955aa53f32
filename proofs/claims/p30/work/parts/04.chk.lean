/-! the blocks against the bytes -/
def aTs (ci k : Nat) : String × String × String × Bool := match vwCl[ci]? with
  | some q => q.2.1 k
  | none => ("", "", "", false)
def aCn (ci : Nat) : String := match vwCl[ci]? with
  | some q => q.1
  | none => ""
/-- the word of a field: linked from own at the pool's place idx; nest tells whether as a nest mate's -/
def aWf1 (own : String) (idx : Nat) (t : String × String × String × Bool) : Option Cond → Bool
  | some (.fieldLink o j r n d) => decide (o = own) && decide (j = idx) && decide (r = t.1) && decide (n = t.2.1) && decide (d = t.2.2.1)
  | some (.fieldLinkNest o j r n d _) => decide (o = own) && decide (j = idx) && decide (r = t.1) && decide (n = t.2.1) && decide (d = t.2.2.1)
  | _ => false
def aWm1 (own : String) (idx : Nat) (y : MethodName) : Option Cond → Bool
  | some (.methodLink o j z) => decide (o = own) && decide (j = idx) && decide (z = y)
  | some (.methodLinkNest o j z _) => decide (o = own) && decide (j = idx) && decide (z = y)
  | _ => false
/-- where a block begins -/
def aTo (spc : List Nat) (t : Int) : Option Int := match spc[t.toNat]? with
  | some q => some (q : Int)
  | none => none
def aMathN : Nat → MethodName
  | 904 => ⟨"java/lang/Math", "abs", "(I)I"⟩
  | 905 => ⟨"java/lang/Math", "floorDiv", "(II)I"⟩
  | 906 => ⟨"java/lang/Math", "max", "(JJ)J"⟩
  | 907 => ⟨"java/lang/Math", "min", "(II)I"⟩
  | _ => ⟨"java/lang/Math", "min", "(JJ)J"⟩
/-- one instruction: as it was read off the bytes (real, len) and as the blocks have it -/
def aOk (own : String) (ini : Bool) (spc : List Nat) (b pc : Nat) (real : aI) (len : Nat) (i : aI) : Bool := match i with
  | .bipush v => match real with
    | .iconst n => decide (len = 1) && decide (Int32.ofInt n = Int32.ofInt v)
    | .bipush n => decide (len = 2) && decide ((Int8.ofInt n).toInt32 = Int32.ofInt v)
    | .sipush n => decide (len = 3) && decide ((Int16.ofInt n).toInt32 = Int32.ofInt v)
    | _ => false
  | .ldc_w k => match real with
    | .ldc idx => decide (len = 2) && decide (lw_tbl[k / 4294967296]? = some (.constant own idx (Int32.ofNat (k % 4294967296))))
    | .ldc_w idx => decide (len = 3) && decide (lw_tbl[k / 4294967296]? = some (.constant own idx (Int32.ofNat (k % 4294967296))))
    | _ => false
  | .ldc2_w k => match real with
    | .ldc2_w idx => decide (len = 3) && decide (lw_tbl[k / 18446744073709551616]? = some (.constantLong own idx (Int64.ofNat (k % 18446744073709551616))))
    | _ => false
  | .ldc k => match real with
    | .ldc idx => decide (len = 2) && decide (lw_tbl[k / 100]? = some (.stringRef own idx (aStr.getD (k % 100) ""))) && decide (k % 100 < aStr.length)
    | _ => false
  | .iload k => match real with
    | .iload n => decide (len = 2) && decide (n = k)
    | .iload_n n => decide (len = 1) && decide ((n : Nat) = k)
    | _ => false
  | .lload k => match real with
    | .lload n => decide (len = 2) && decide (n = k)
    | .lload_n n => decide (len = 1) && decide ((n : Nat) = k)
    | _ => false
  | .aload k => match real with
    | .aload n => decide (len = 2) && decide (n = k)
    | .aload_n n => decide (len = 1) && decide ((n : Nat) = k)
    | _ => false
  | .istore k => match real with
    | .istore n => decide (len = 2) && decide (n = k)
    | .istore_n n => decide (len = 1) && decide ((n : Nat) = k)
    | _ => false
  | .lstore k => match real with
    | .lstore n => decide (len = 2) && decide (n = k)
    | .lstore_n n => decide (len = 1) && decide ((n : Nat) = k)
    | _ => false
  | .astore k => match real with
    | .astore n => decide (len = 2) && decide (n = k)
    | .astore_n n => decide (len = 1) && decide ((n : Nat) = k)
    | _ => false
  | .iinc k v => decide (real = .iinc k v) && decide (len = 3)
  | .goto t => match real with
    | .goto off => decide (len = 3) && decide (aTo spc t = some ((pc : Int) + off))
    | _ => false
  | .ifCond c t => match real with
    | .ifCond c' off => decide (len = 3) && decide (c' = c) && decide (aTo spc t = some ((pc : Int) + off)) && decide (spc[b + 1]? = some (pc + 3))
    | _ => false
  | .if_icmp c t => match real with
    | .if_icmp c' off => decide (len = 3) && decide (c' = c) && decide (aTo spc t = some ((pc : Int) + off)) && decide (spc[b + 1]? = some (pc + 3))
    | _ => false
  | .tableswitch d lo hi os => match real with
    | .tableswitch d' lo' hi' os' => decide (lo' = lo) && decide (hi' = hi) && decide (aTo spc d = some ((pc : Int) + d')) && decide (os.toList.map (fun t => aTo spc t) = os'.toList.map (fun off => some ((pc : Int) + off)))
    | _ => false
  | .lookupswitch d ps => match real with
    | .lookupswitch d' ps' => decide (aTo spc d = some ((pc : Int) + d')) && decide (ps.toList.map (fun t => (t.1, aTo spc t.2)) = ps'.toList.map (fun t => (t.1, some ((pc : Int) + t.2)))) && (ps'.toList.zip (ps'.toList.drop 1)).all (fun (a, next) => a.1 < next.1)
    | _ => false
  | .getfield k => match real with
    | .getfield idx => decide (len = 3) && aWf1 own idx (aTs (k / 1000 % 100) (k % 1000 / 4)) lw_tbl[k / 100000]? && decide (k % 1000 / 4 < aNF (k / 1000 % 100)) && decide (k / 1000 % 100 < 13) && decide (aFt (k / 1000 % 100) (k % 1000 / 4) = k % 4)
    | _ => false
  | .putfield k => match real with
    | .putfield idx => decide (len = 3) && aWf1 own idx (aTs (k / 1000 % 100) (k % 1000 / 4)) lw_tbl[k / 100000]? && decide (k % 1000 / 4 < aNF (k / 1000 % 100)) && decide (k / 1000 % 100 < 13) && decide (aFt (k / 1000 % 100) (k % 1000 / 4) = k % 4) && (! (aTs (k / 1000 % 100) (k % 1000 / 4)).2.2.2 || ini && decide ((aTs (k / 1000 % 100) (k % 1000 / 4)).1 = own) && (match lw_tbl[k / 100000]? with
      | some (.fieldLink _ _ _ _ _) => true
      | _ => false))
    | _ => false
  | .invokestatic k => match real with
    | .invokestatic idx => decide (len = 3) && (if k % 1000 = 902 then decide (lw_tbl[k / 1000]? = some (.methodLink own idx arraycopyName)) else if 904 ≤ k % 1000 ∧ k % 1000 < 909 then decide (lw_tbl[k / 1000]? = some (.methodLink own idx (aMathN (k % 1000)))) else decide (k % 1000 + 1 < aIs.length) && aWm1 own idx (aIn (k % 1000)).1 lw_tbl[k / 1000]?)
    | _ => false
  | .invokespecial k => match real with
    | .invokespecial idx => decide (len = 3) && (if k % 1000 = 903 then decide (lw_tbl[k / 1000]? = some (.methodLink own idx Lib.objectInit)) else decide (k % 1000 + 1 < aIs.length) && aWm1 own idx (aIn (k % 1000)).1 lw_tbl[k / 1000]? && decide ((aIn (k % 1000)).1.name = "<init>") && decide (aCI (k % 1000) ≠ 100) && decide ((aIn (k % 1000)).2.2.2.1 = none))
    | _ => false
  | .invokevirtual k => match real with
    | .invokevirtual idx => decide (len = 3) && (if k % 1000 = 900 then decide (lw_tbl[k / 1000]? = some (.methodLink own idx ⟨"java/lang/String", "length", "()I"⟩)) else if k % 1000 = 901 then decide (lw_tbl[k / 1000]? = some (.methodLink own idx ⟨"java/lang/String", "charAt", "(I)C"⟩)) else decide (k % 1000 + 1 < aIs.length) && aWm1 own idx (aIn (k % 1000)).1 lw_tbl[k / 1000]? && decide (¬ (aIn (k % 1000)).1.name = "<init>") && decide (aCI (k % 1000) ≠ 100))
    | _ => false
  | .new k => match real with
    | .new idx => decide (len = 3) && decide (lw_tbl[k / 100]? = some (.classLink own idx (aCn (k % 100)))) && decide (k % 100 < 13)
    | _ => false
  | .newarray t => decide (real = .newarray t) && decide (len = 2)
  | .anewarray k => match real with
    | .anewarray idx => decide (len = 3) && decide (2 ≤ k % 100 ∧ k % 100 < 5) && (match aAT[k % 100]? with
      | some (.object C) => decide (lw_tbl[k / 100]? = some (.classLink own idx C))
      | _ => false)
    | _ => false
  | .multianewarray k n => match real with
    | .multianewarray idx n' => decide (len = 4) && decide (n = 2) && decide (n' = 2) && decide (lw_tbl[k / 100]? = some (.classLink own idx "[[I"))
    | _ => false
  | i => decide (real = i) && decide (len = 1)
def aCk (own : String) (ini : Bool) (cc : ByteArray) (spc : List Nat) (b : Nat) : Nat → List aI → Bool
  | pc, [] => decide (spc[b + 1]? = some pc)
  | pc, i :: r => match decode cc pc with
    | .ok (real, len) => aOk own ini spc b pc real len i && (if aKd i = 4 then r.isEmpty else aCk own ini cc spc b (pc + len) r)
    | .error _ => false
def aCkL (own : String) (ini : Bool) (cc : ByteArray) (spc : List Nat) : Nat → List (List aI) → Bool
  | _, [] => true
  | b, l :: r => (match spc[b]? with
    | some pc => aCk own ini cc spc b pc l
    | none => false) && aCkL own ini cc spc (b + 1) r
def aSp (y : Nat) : List Nat := aPs.getD y []
/-- a method's blocks -/
def aCkM (y : Nat) : Bool := aCkL (aIn y).1.cls (decide ((aIn y).1.name = "<init>")) (aIn y).2.1 (aSp y) 0 (aMC y) && decide ((aSp y)[0]? = some 0)
def aRtOk (c : Nat) (r : Option FieldType) : Bool := match c, r with
  | 0, none => true
  | 1, some .int => true
  | 2, some .boolean => true
  | 3, some .long => true
  | 4, some (.object _) => true
  | _, _ => false
/-- a method's words -/
def aCkW (y : Nat) : Bool := match aWs[y]? with
  | some (_, p2, p3, p4) => (if aCI y = 100 then decide (lw_tbl[p2]? = some (.static (aIn y).1)) else decide (lw_tbl[p2]? = some (.instanceMethod (aIn y).1)) && decide (aCI y < 13) && decide (aCn (aCI y) = (aIn y).1.cls) && (decide ((aIn y).1.name = "<init>") || decide (lw_tbl[p3]? = some (.selects (aIn y).1.cls (aIn y).1 (aIn y).1)))) && decide (lw_tbl[p4]? = some (.initialized (aIn y).1.cls)) && plainName (aIn y).1.cls && decide (¬ (aIn y).1.cls = "java/lang/invoke/MethodHandle" ∧ ¬ (aIn y).1.cls = "java/lang/invoke/VarHandle") && decide ((parseMethodDescriptor (aIn y).1.desc).map (fun d => d.parameters.length) = some (aNA y)) && aRtOk (aRT y) (aIn y).2.2.2.1 && decide (aML y ≤ 200)
  | none => false
/-- its code stands there too -/
def aCkC (y : Nat) : Prop := Cond.code (aIn y).1 (aIn y).2.1 (aML y) (aIn y).2.2.2.1 ∈ lw_tbl
def aCkWP (y : Nat) : Prop := aCkW y = true ∧ aCkC y
