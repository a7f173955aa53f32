/-! the abstract machine: it runs the blocks of a method over cells that have places (0, 1, ..); what it answers is a plain function -/
/-- of a cell: its kind (below 100 an object of that class, else an array: 100 + its type), its length, its references -/
abbrev aK : Type := Nat × Nat × (Nat → Option Nat)
/-- how many cells, how many slots, the kinds, the numbers -/
abbrev aH : Type := Nat × Nat × (Nat → aK) × (Nat → Nat → Int32)
/-- the script: its length, its numbers -/
abbrev aX : Type := Nat × (Nat → Int32)
/-- what a block comes to: another block, or an end -/
abbrev aR : Type := (Nat × List Value × List Value × aH) ⊕ (Option Value × aH)
def aD : Value := .retAddr 0
def aRf : Option Nat → Value
  | some r => .ref r
  | none => .null
def aSt (ls : List Value) (i : Nat) (v : Value) : List Value := match i with
  | 0 => ls.set 0 v
  | k + 1 => match ls[k]? with
    | some w => if w.category = 2 then (ls.set k aD).set (k + 1) v else ls.set (k + 1) v
    | none => ls.set (k + 1) v
def aPut (M : Nat → Nat → Int32) (a j : Nat) (x : Int32) : Nat → Nat → Int32 := fun b i => if b = a then (if i = j then x else M b i) else M b i
def aRow (M : Nat → Nat → Int32) (a : Nat) (f : Nat → Int32) : Nat → Nat → Int32 := fun b => if b = a then f else M b
def aSetR (K : Nat → aK) (a j : Nat) (r : Option Nat) : Nat → aK := fun b => if b = a then ((K b).1, (K b).2.1, va_up (K b).2.2 j r) else K b
def aCd (c : Jvm.ClassFile.Cond) (x y : Int32) : Bool := match c with
  | .eq => decide (x = y)
  | .ne => decide (¬ x = y)
  | .lt => decide (x < y)
  | .ge => decide (y ≤ x)
  | .gt => decide (y < x)
  | .le => decide (x ≤ y)
/-- locals and stack alone -/
def aP (i : aI) (ls st : List Value) : Option (List Value × List Value) := match i with
  | .bipush v => some (ls, .int (Int32.ofInt v) :: st)
  | .ldc_w k => some (ls, .int (Int32.ofNat (k % 4294967296)) :: st)
  | .ldc2_w k => some (ls, .long (Int64.ofNat (k % 18446744073709551616)) :: st)
  | .lconst n => some (ls, .long (Int64.ofNat (n : Nat)) :: st)
  | .ldc k => some (ls, .ref (90001 + k % 100) :: st)
  | .iload k => match ls[k]? with
    | some (.int x) => some (ls, .int x :: st)
    | _ => none
  | .lload k => match ls[k]? with
    | some (.long x) => some (ls, .long x :: st)
    | _ => none
  | .aload k => match ls[k]? with
    | some (.ref x) => some (ls, .ref x :: st)
    | _ => none
  | .istore k => match st with
    | .int x :: t => if k < ls.length then some (aSt ls k (.int x), t) else none
    | _ => none
  | .lstore k => match st with
    | .long x :: t => if k + 1 < ls.length then some ((aSt ls k (.long x)).set (k + 1) aD, t) else none
    | _ => none
  | .astore k => match st with
    | .ref x :: t => if k < ls.length then some (aSt ls k (.ref x), t) else none
    | _ => none
  | .iinc k n => match ls[k]? with
    | some (.int x) => if k < ls.length then some (aSt ls k (.int (x + Int32.ofInt n)), st) else none
    | _ => none
  | .dup => match st with
    | v :: t => if v.category = 1 then some (ls, v :: v :: t) else none
    | _ => none
  | .pop => match st with
    | v :: t => if v.category = 1 then some (ls, t) else none
    | _ => none
  | .dup2 => match st with
    | v :: w :: t => if v.category = 1 ∧ w.category = 1 then some (ls, v :: w :: v :: w :: t) else none
    | _ => none
  | .iadd => match st with
    | .int y :: .int x :: t => some (ls, .int (x + y) :: t)
    | _ => none
  | .isub => match st with
    | .int y :: .int x :: t => some (ls, .int (x - y) :: t)
    | _ => none
  | .imul => match st with
    | .int y :: .int x :: t => some (ls, .int (x * y) :: t)
    | _ => none
  | .iand => match st with
    | .int y :: .int x :: t => some (ls, .int (x &&& y) :: t)
    | _ => none
  | .ior => match st with
    | .int y :: .int x :: t => some (ls, .int (x ||| y) :: t)
    | _ => none
  | .ixor => match st with
    | .int y :: .int x :: t => some (ls, .int (x ^^^ y) :: t)
    | _ => none
  | .idiv => match st with
    | .int y :: .int x :: t => if y = 0 then none else some (ls, .int (x / y) :: t)
    | _ => none
  | .irem => match st with
    | .int y :: .int x :: t => if y = 0 then none else some (ls, .int (x - x / y * y) :: t)
    | _ => none
  | .ineg => match st with
    | .int x :: t => some (ls, .int (-x) :: t)
    | _ => none
  | .ishl => match st with
    | .int y :: .int x :: t => some (ls, .int (x <<< (y &&& 31)) :: t)
    | _ => none
  | .ishr => match st with
    | .int y :: .int x :: t => some (ls, .int (x >>> (y &&& 31)) :: t)
    | _ => none
  | .iushr => match st with
    | .int y :: .int x :: t => some (ls, .int (x.toUInt32 >>> (y.toUInt32 &&& Int32.toUInt32 31)).toInt32 :: t)
    | _ => none
  | .i2l => match st with
    | .int x :: t => some (ls, .long x.toInt64 :: t)
    | _ => none
  | .l2i => match st with
    | .long x :: t => some (ls, .int x.toInt32 :: t)
    | _ => none
  | .ladd => match st with
    | .long y :: .long x :: t => some (ls, .long (x + y) :: t)
    | _ => none
  | .lsub => match st with
    | .long y :: .long x :: t => some (ls, .long (x - y) :: t)
    | _ => none
  | .lmul => match st with
    | .long y :: .long x :: t => some (ls, .long (x * y) :: t)
    | _ => none
  | .ldiv => match st with
    | .long y :: .long x :: t => if y = 0 then none else some (ls, .long (x / y) :: t)
    | _ => none
  | .lshl => match st with
    | .int y :: .long x :: t => some (ls, .long (x <<< (y.toInt64 &&& 63)) :: t)
    | _ => none
  | .lcmp => match st with
    | .long y :: .long x :: t => some (ls, .int (lg_cmp x y) :: t)
    | _ => none
  | _ => none
/-- an index in its row -/
def aInR (j : Int32) (n : Nat) : Bool := decide (0 ≤ j.toInt ∧ j.toInt < (n : Int))
/-- reads and writes of cells -/
def aQ (X : aX) (i : aI) (st : List Value) (h : aH) : Option (List Value × aH) := match i with
  | .getfield k => match st with
    | .ref a :: t => if a < h.1 ∧ (h.2.2.1 a).1 = k / 1000 % 100 then some ((if k % 4 = 2 then aRf ((h.2.2.1 a).2.2 (k % 1000 / 4)) else .int (h.2.2.2 a (k % 1000 / 4))) :: t, h) else none
    | _ => none
  | .putfield k => match st with
    | .int x :: .ref a :: t => if a < h.1 ∧ (h.2.2.1 a).1 = k / 1000 % 100 ∧ (k % 4 = 0 ∨ k % 4 = 1 ∧ (x = 0 ∨ x = 1)) then some (t, (h.1, h.2.1, h.2.2.1, aPut h.2.2.2 a (k % 1000 / 4) x)) else none
    | .ref r :: .ref a :: t => if a < h.1 ∧ (h.2.2.1 a).1 = k / 1000 % 100 ∧ k % 4 = 2 ∧ r < h.1 then some (t, (h.1, h.2.1, aSetR h.2.2.1 a (k % 1000 / 4) (some r), h.2.2.2)) else none
    | _ => none
  | .iaload => match st with
    | .int j :: .ref a :: t => if a = 90000 then (if aInR j X.1 then some (.int (X.2 j.toNatClampNeg) :: t, h) else none)
      else if a < h.1 ∧ (h.2.2.1 a).1 = 100 ∧ aInR j (h.2.2.1 a).2.1 then some (.int (h.2.2.2 a j.toNatClampNeg) :: t, h) else none
    | _ => none
  | .iastore => match st with
    | .int x :: .int j :: .ref a :: t => if a < h.1 ∧ (h.2.2.1 a).1 = 100 ∧ aInR j (h.2.2.1 a).2.1 then some (t, (h.1, h.2.1, h.2.2.1, aPut h.2.2.2 a j.toNatClampNeg x)) else none
    | _ => none
  | .baload => match st with
    | .int j :: .ref a :: t => if a < h.1 ∧ (h.2.2.1 a).1 = 101 ∧ aInR j (h.2.2.1 a).2.1 then some (.int (h.2.2.2 a j.toNatClampNeg) :: t, h) else none
    | _ => none
  | .bastore => match st with
    | .int x :: .int j :: .ref a :: t => if a < h.1 ∧ (h.2.2.1 a).1 = 101 ∧ aInR j (h.2.2.1 a).2.1 ∧ (x = 0 ∨ x = 1) then some (t, (h.1, h.2.1, h.2.2.1, aPut h.2.2.2 a j.toNatClampNeg x)) else none
    | _ => none
  | .aaload => match st with
    | .int j :: .ref a :: t => if a < h.1 ∧ (102 ≤ (h.2.2.1 a).1 ∧ (h.2.2.1 a).1 < 106) ∧ aInR j (h.2.2.1 a).2.1 then some (aRf ((h.2.2.1 a).2.2 j.toNatClampNeg) :: t, h) else none
    | _ => none
  | .aastore => match st with
    | .ref r :: .int j :: .ref a :: t => if a < h.1 ∧ r < h.1 ∧ (h.2.2.1 r).1 < 100 ∧ ((h.2.2.1 r).1 < 13 ∧ aAT[(h.2.2.1 a).1 - 100]? = (vwCl[(h.2.2.1 r).1]?).map (fun c => FieldType.object c.1)) ∧ 102 ≤ (h.2.2.1 a).1 ∧ aInR j (h.2.2.1 a).2.1 then some (t, (h.1, h.2.1, aSetR h.2.2.1 a j.toNatClampNeg (some r), h.2.2.2)) else none
    | _ => none
  | .arraylength => match st with
    | .ref a :: t => if a = 90000 then some (.int (Int32.ofNat X.1) :: t, h) else if a < h.1 ∧ (100 ≤ (h.2.2.1 a).1 ∧ (h.2.2.1 a).1 < 106) then some (.int (Int32.ofNat (h.2.2.1 a).2.1) :: t, h) else none
    | _ => none
  | _ => none
/-- n new cells of kind f -/
def aNew (h : aH) (n sl : Nat) (f : Nat → aK) : aH := (h.1 + n, h.2.1 + sl, fun b => if h.1 ≤ b then f b else h.2.2.1 b, fun b i => if h.1 ≤ b then 0 else h.2.2.2 b i)
def aOkv (n : Nat) : Value → Bool
  | .ref r => decide (r < n ∨ 90000 ≤ r)
  | _ => true
/-- new cells -/
def aA (i : aI) (ls st : List Value) (h : aH) : Option (List Value × aH) := if (ls ++ st).all (aOkv h.1) && decide (h.1 < 80000) then (match i with
  | .new k => some (.ref h.1 :: st, aNew h 1 (aNF (k % 100)) (fun _ => (k % 100, 0, fun _ => none)))
  | .newarray .int => match st with
    | .int x :: t => if aInR x 100001 then some (.ref h.1 :: t, aNew h 1 x.toNatClampNeg (fun _ => (100, x.toNatClampNeg, fun _ => none))) else none
    | _ => none
  | .newarray .boolean => match st with
    | .int x :: t => if aInR x 100001 then some (.ref h.1 :: t, aNew h 1 x.toNatClampNeg (fun _ => (101, x.toNatClampNeg, fun _ => none))) else none
    | _ => none
  | .anewarray k => match st with
    | .int x :: t => if aInR x 100001 then some (.ref h.1 :: t, aNew h 1 x.toNatClampNeg (fun _ => (100 + k % 100, x.toNatClampNeg, fun _ => none))) else none
    | _ => none
  | .multianewarray k 2 => match st with
    | .int y :: .int x :: t => if aInR x 1001 && aInR y 100001 then some (.ref h.1 :: t, aNew h (1 + x.toNatClampNeg) (x.toNatClampNeg + x.toNatClampNeg * y.toNatClampNeg)
        (fun b => if b = h.1 then (105, x.toNatClampNeg, fun j => if j < x.toNatClampNeg then some (h.1 + 1 + j) else none) else (100, y.toNatClampNeg, fun _ => none))) else none
    | _ => none
  | _ => none) else none
/-- a call -/
def aGo (cal : Nat → List Value → aH → Option (Option Value × aH)) (y : Nat) (as rest ls : List Value) (h : aH) : Option (List Value × aH) :=
  if (rest.map fun v => v.category).sum ≤ 8 then (match cal y as h with
    | some (rv, h') => if h'.1 = h.1 ∨ (ls ++ rest).all (aOkv h.1) = true then some (rv.toList ++ rest, h') else none
    | none => none) else none
/-- a copy of some of a row of numbers -/
def aCopy (st : List Value) (h : aH) : Option (List Value × aH) := match st with
  | .int n :: .int dp :: .ref a :: .int sp :: .ref b :: t => if (t.map fun v => v.category).sum ≤ 8 ∧ a < h.1 ∧ b < h.1 ∧ (h.2.2.1 a).1 = 100 ∧ (h.2.2.1 b).1 = 100 ∧ 0 ≤ n.toInt ∧ 0 ≤ sp.toInt ∧ 0 ≤ dp.toInt ∧ sp.toNatClampNeg + n.toNatClampNeg ≤ (h.2.2.1 b).2.1 ∧ dp.toNatClampNeg + n.toNatClampNeg ≤ (h.2.2.1 a).2.1
      then some (t, (h.1, h.2.1, h.2.2.1, aRow h.2.2.2 a (va_cpy (h.2.2.2 b) (h.2.2.2 a) sp.toNatClampNeg dp.toNatClampNeg n.toNatClampNeg))) else none
  | _ => none
def aChr (s : String) (j : Nat) : Int32 := match s.toList[j]? with
  | some c => Int32.ofNat c.toNat
  | none => 0
/-- java.lang.Math: 904 abs, 905 floorDiv, 906 max of longs, 907 min, 908 min of longs -/
def aMath (k : Nat) (st : List Value) (h : aH) : Option (List Value × aH) := match k, st with
  | 904, .int x :: t => if (t.map fun v => v.category).sum ≤ 8 then some (.int (if 0 ≤ x then x else 0 - x) :: t, h) else none
  | 905, .int y :: .int x :: t => if y ≠ 0 ∧ (t.map fun v => v.category).sum ≤ 8 then some (.int (if (x ^^^ y) < 0 then if x / y * y = x then x / y else x / y - 1 else x / y) :: t, h) else none
  | 906, .long y :: .long x :: t => if (t.map fun v => v.category).sum ≤ 8 then some (.long (if y < x then x else y) :: t, h) else none
  | 907, .int y :: .int x :: t => if (t.map fun v => v.category).sum ≤ 8 then some (.int (if y < x then y else x) :: t, h) else none
  | 908, .long y :: .long x :: t => if (t.map fun v => v.category).sum ≤ 8 then some (.long (if y < x then y else x) :: t, h) else none
  | _, _ => none
/-- calls: of methods of the tables; of what the library has by itself -/
def aV (cal : Nat → List Value → aH → Option (Option Value × aH)) (i : aI) (ls st : List Value) (h : aH) : Option (List Value × aH) := match i with
  | .invokestatic k => if k % 1000 = 902 then aCopy st h else if 904 ≤ k % 1000 ∧ k % 1000 < 909 then aMath (k % 1000) st h else if (st.take (aNA (k % 1000))).length = aNA (k % 1000) ∧ aCI (k % 1000) = 100 then aGo cal (k % 1000) (st.take (aNA (k % 1000))).reverse (st.drop (aNA (k % 1000))) ls h else none
  | .invokespecial k => if k % 1000 = 903 then (match st with
      | .ref a :: t => if a < h.1 ∧ (t.map fun v => v.category).sum ≤ 8 then some (t, h) else none
      | _ => none)
    else (match st.drop (aNA (k % 1000)) with
      | .ref a :: t => if a < h.1 ∧ (h.2.2.1 a).1 = aCI (k % 1000) then aGo cal (k % 1000) (.ref a :: (st.take (aNA (k % 1000))).reverse) t ls h else none
      | _ => none)
  | .invokevirtual k => if k % 1000 = 900 then (match st with
      | .ref a :: t => if 90001 ≤ a ∧ a < 90001 + aStr.length ∧ (t.map fun v => v.category).sum ≤ 8 then some (.int (Int32.ofNat (aStr.getD (a - 90001) "").length) :: t, h) else none
      | _ => none)
    else if k % 1000 = 901 then (match st with
      | .int j :: .ref a :: t => if 90001 ≤ a ∧ a < 90001 + aStr.length ∧ aInR j (aStr.getD (a - 90001) "").length ∧ (t.map fun v => v.category).sum ≤ 8 then some (.int (aChr (aStr.getD (a - 90001) "") j.toNatClampNeg) :: t, h) else none
      | _ => none)
    else (match st.drop (aNA (k % 1000)) with
      | .ref a :: t => if a < h.1 ∧ (h.2.2.1 a).1 = aCI (k % 1000) then aGo cal (k % 1000) (.ref a :: (st.take (aNA (k % 1000))).reverse) t ls h else none
      | _ => none)
  | _ => none
/-- the end of a block -/
def aT (rt b : Nat) (i : aI) (ls st : List Value) (h : aH) : Option aR := match i with
  | .goto n => some (.inl (n.toNat, ls, st, h))
  | .ifCond c n => match st with
    | .int x :: t => some (.inl (if aCd c x 0 then n.toNat else b + 1, ls, t, h))
    | _ => none
  | .if_icmp c n => match st with
    | .int y :: .int x :: t => some (.inl (if aCd c x y then n.toNat else b + 1, ls, t, h))
    | _ => none
  | .tableswitch d lo hi offs => match st with
    | .int x :: t => if x.toInt < lo ∨ hi < x.toInt then some (.inl (d.toNat, ls, t, h)) else (match offs[(x.toInt - lo).toNat]? with
      | some o => some (.inl (o.toNat, ls, t, h))
      | none => none)
    | _ => none
  | .lookupswitch d ps => match st with
    | .int x :: t => some (.inl ((Op.lookupswitch.offset ps.toList d x.toInt).toNat, ls, t, h))
    | _ => none
  | .ireturn => match st with
    | [.int x] => if rt = 1 ∨ rt = 2 ∧ (x = 0 ∨ x = 1) then some (.inr (some (.int x), h)) else none
    | _ => none
  | .lreturn => match st with
    | [.long x] => if rt = 3 then some (.inr (some (.long x), h)) else none
    | _ => none
  | .areturn => match st with
    | [.ref x] => if rt = 4 then some (.inr (some (.ref x), h)) else none
    | _ => none
  | .return_ => match st with
    | [] => if rt = 0 then some (.inr (none, h)) else none
    | _ => none
  | _ => none
/-- one instruction that isn't a block's end -/
def aS (X : aX) (cal : Nat → List Value → aH → Option (Option Value × aH)) (i : aI) (ls st : List Value) (h : aH) : Option (List Value × List Value × aH) := match aKd i with
  | 0 => (aP i ls st).map fun q => (q.1, q.2, h)
  | 1 => (aQ X i st h).map fun q => (ls, q.1, q.2)
  | 2 => (aA i ls st h).map fun q => (ls, q.1, q.2)
  | _ => (aV cal i ls st h).map fun q => (ls, q.1, q.2)
/-- a block -/
def aB (X : aX) (cal : Nat → List Value → aH → Option (Option Value × aH)) (rt b : Nat) : List aI → List Value → List Value → aH → Option aR
  | [], ls, st, h => some (.inl (b + 1, ls, st, h))
  | i :: r, ls, st, h => if aKd i = 4 then aT rt b i ls st h else (match aS X cal i ls st h with
    | some (ls', st', h') => aB X cal rt b r ls' st' h'
    | none => none)
/-- blocks, f of them at most -/
def aE (X : aX) (cal : Nat → List Value → aH → Option (Option Value × aH)) (rt : Nat) (C : List (List aI)) : Nat → Nat → List Value → List Value → aH → Option (Option Value × aH)
  | 0, _, _, _, _ => none
  | f + 1, b, ls, st, h => match C[b]? with
    | none => none
    | some l => match aB X cal rt b l ls st h with
      | some (.inl (b', ls', st', h')) => aE X cal rt C f b' ls' st' h'
      | some (.inr r) => some r
      | none => none
/-- the locals at a method's entry -/
def aFl (as : List Value) : List Value := as.flatMap fun v => if v.category = 2 then [v, aD] else [v]
def aEn (as : List Value) (n : Nat) : List Value := aFl as ++ List.replicate (n - (aFl as).length) aD
/-- a method: F blocks in each, d deep -/
def aM (X : aX) (F : Nat) : Nat → Nat → List Value → aH → Option (Option Value × aH)
  | 0, _, _, _ => none
  | d + 1, y, as, h => if (aFl as).length ≤ aML y ∧ aD ∉ as then aE X (aM X F d) (aRT y) (aMC y) F 0 (aEn as (aML y)) [] h else none
