/-! what the tables say of classes and methods; which kind an instruction is -/
def aNF (ci : Nat) : Nat := (aFT.getD ci []).length
def aFt (ci k : Nat) : Nat := (aFT.getD ci []).getD k 0
def aIn (y : Nat) : MethodName × ByteArray × Nat × Option FieldType × Nat × Nat × Nat := aIs.getD y aI_0
def aML (y : Nat) : Nat := (aIn y).2.2.1
def aRT (y : Nat) : Nat := (aIn y).2.2.2.2.1
def aNA (y : Nat) : Nat := (aIn y).2.2.2.2.2.1
def aCI (y : Nat) : Nat := (aIn y).2.2.2.2.2.2
/-- which of these an instruction is: 0 locals and stack, 1 cells, 2 new cells, 3 a call, 4 an end of a block -/
def aKd : aI → Nat
  | .getfield _ | .putfield _ | .iaload | .iastore | .baload | .bastore | .aaload | .aastore | .arraylength => 1
  | .new _ | .newarray _ | .anewarray _ | .multianewarray _ _ => 2
  | .invokestatic _ | .invokespecial _ | .invokevirtual _ => 3
  | .goto _ | .ifCond _ _ | .if_icmp _ _ | .tableswitch _ _ _ _ | .lookupswitch _ _ | .ireturn | .lreturn | .areturn | .return_ => 4
  | _ => 0
