/-! the reference reads a token, by hand: printed by wip/safe/h65.py -/
theorem bk_42_0 : (aMC 42)[0]? = some [.iload 1, .iload 2, .if_icmp .lt 3] := by decide +kernel
theorem bk_42_1 : (aMC 42)[1]? = some [.iload 1, .iload 3, .if_icmp .gt 3] := by decide +kernel
theorem bk_42_2 : (aMC 42)[2]? = some [.bipush 1, .goto 4] := by decide +kernel
theorem bk_42_3 : (aMC 42)[3]? = some [.bipush 0] := by decide +kernel
theorem bk_42_4 : (aMC 42)[4]? = some [.ireturn] := by decide +kernel
theorem bk_60_0 : (aMC 60)[0]? = some [.iload 1, .aload 0, .getfield 126612096, .if_icmp .ge 2] := by decide +kernel
theorem bk_60_1 : (aMC 60)[1]? = some [.aload 0, .getfield 126512094, .iload 1, .iaload, .goto 3] := by decide +kernel
theorem bk_60_2 : (aMC 60)[2]? = some [.bipush (-1)] := by decide +kernel
theorem bk_60_3 : (aMC 60)[3]? = some [.ireturn] := by decide +kernel
theorem bk_61_0 : (aMC 61)[0]? = some [.aload 0, .iload 1, .bipush 97, .bipush 122, .invokevirtual 1492042, .ifCond .ne 2] := by decide +kernel
theorem bk_61_1 : (aMC 61)[1]? = some [.aload 0, .iload 1, .bipush 65, .bipush 90, .invokevirtual 1492042, .ifCond .eq 3] := by decide +kernel
theorem bk_61_2 : (aMC 61)[2]? = some [.bipush 1, .goto 4] := by decide +kernel
theorem bk_61_3 : (aMC 61)[3]? = some [.bipush 0] := by decide +kernel
theorem bk_61_4 : (aMC 61)[4]? = some [.ireturn] := by decide +kernel
theorem bk_62_0 : (aMC 62)[0]? = some [.aload 0, .iload 1, .bipush 48, .bipush 57, .invokevirtual 1492042, .ireturn] := by decide +kernel
theorem bk_63_0 : (aMC 63)[0]? = some [.iload 1, .bipush 59, .if_icmp .eq 10] := by decide +kernel
theorem bk_63_1 : (aMC 63)[1]? = some [.iload 1, .bipush 43, .if_icmp .eq 10] := by decide +kernel
theorem bk_63_2 : (aMC 63)[2]? = some [.iload 1, .bipush 45, .if_icmp .eq 10] := by decide +kernel
theorem bk_63_3 : (aMC 63)[3]? = some [.iload 1, .bipush 42, .if_icmp .eq 10] := by decide +kernel
theorem bk_63_4 : (aMC 63)[4]? = some [.iload 1, .bipush 47, .if_icmp .eq 10] := by decide +kernel
theorem bk_63_5 : (aMC 63)[5]? = some [.iload 1, .bipush 40, .if_icmp .eq 10] := by decide +kernel
theorem bk_63_6 : (aMC 63)[6]? = some [.iload 1, .bipush 41, .if_icmp .eq 10] := by decide +kernel
theorem bk_63_7 : (aMC 63)[7]? = some [.iload 1, .bipush 60, .if_icmp .eq 10] := by decide +kernel
theorem bk_63_8 : (aMC 63)[8]? = some [.iload 1, .bipush 61, .if_icmp .eq 10] := by decide +kernel
theorem bk_63_9 : (aMC 63)[9]? = some [.iload 1, .bipush 62, .if_icmp .ne 11] := by decide +kernel
theorem bk_63_10 : (aMC 63)[10]? = some [.bipush 1, .goto 12] := by decide +kernel
theorem bk_63_11 : (aMC 63)[11]? = some [.bipush 0] := by decide +kernel
theorem bk_63_12 : (aMC 63)[12]? = some [.ireturn] := by decide +kernel
theorem bk_64_0 : (aMC 64)[0]? = some [.bipush (-1), .istore 3, .bipush 0, .istore 4] := by decide +kernel
theorem bk_64_1 : (aMC 64)[1]? = some [.iload 4, .bipush 155, .if_icmp .ge 13] := by decide +kernel
theorem bk_64_2 : (aMC 64)[2]? = some [.bipush 0, .istore 5, .iload 3, .bipush 1, .iadd, .istore 3] := by decide +kernel
theorem bk_64_3 : (aMC 64)[3]? = some [.iload 1, .iload 5, .iadd, .iload 2, .if_icmp .ge 6] := by decide +kernel
theorem bk_64_4 : (aMC 64)[4]? = some [.aload 0, .getfield 127112118, .iload 4, .bipush 1, .iadd, .iload 5, .iadd, .iaload, .aload 0, .getfield 126512094, .iload 1, .iload 5, .iadd, .iaload, .if_icmp .ne 6] := by decide +kernel
theorem bk_64_5 : (aMC 64)[5]? = some [.iload 5, .bipush 1, .iadd, .istore 5, .goto 3] := by decide +kernel
theorem bk_64_6 : (aMC 64)[6]? = some [.iload 1, .iload 5, .iadd, .iload 2, .if_icmp .ne 9] := by decide +kernel
theorem bk_64_7 : (aMC 64)[7]? = some [.aload 0, .getfield 127112118, .iload 4, .bipush 1, .iadd, .iload 5, .iadd, .iaload, .bipush 32, .if_icmp .ne 9] := by decide +kernel
theorem bk_64_8 : (aMC 64)[8]? = some [.iload 3, .ireturn] := by decide +kernel
theorem bk_64_9 : (aMC 64)[9]? = some [.iload 4, .bipush 1, .iadd, .istore 4] := by decide +kernel
theorem bk_64_10 : (aMC 64)[10]? = some [.aload 0, .getfield 127112118, .iload 4, .iaload, .bipush 32, .if_icmp .eq 12] := by decide +kernel
theorem bk_64_11 : (aMC 64)[11]? = some [.iload 4, .bipush 1, .iadd, .istore 4, .goto 10] := by decide +kernel
theorem bk_64_12 : (aMC 64)[12]? = some [.goto 1] := by decide +kernel
theorem bk_64_13 : (aMC 64)[13]? = some [.bipush (-1), .ireturn] := by decide +kernel
theorem bk_67_0 : (aMC 67)[0]? = some [.aload 0, .getfield 126912108, .bipush 2, .if_icmp .ne 3] := by decide +kernel
theorem bk_67_1 : (aMC 67)[1]? = some [.aload 0, .getfield 127012112, .iload 1, .if_icmp .ne 3] := by decide +kernel
theorem bk_67_2 : (aMC 67)[2]? = some [.bipush 1, .goto 4] := by decide +kernel
theorem bk_67_3 : (aMC 67)[3]? = some [.bipush 0] := by decide +kernel
theorem bk_67_4 : (aMC 67)[4]? = some [.ireturn] := by decide +kernel
theorem bk_68_0 : (aMC 68)[0]? = some [.aload 0, .getfield 126912108, .bipush 4, .if_icmp .ne 3] := by decide +kernel
theorem bk_68_1 : (aMC 68)[1]? = some [.aload 0, .getfield 127012112, .iload 1, .if_icmp .ne 3] := by decide +kernel
theorem bk_68_2 : (aMC 68)[2]? = some [.bipush 1, .goto 4] := by decide +kernel
theorem bk_68_3 : (aMC 68)[3]? = some [.bipush 0] := by decide +kernel
theorem bk_68_4 : (aMC 68)[4]? = some [.ireturn] := by decide +kernel
theorem h42 {X : aX} {d : Nat} {k : Nat → aK} (hk : gKs k) {M : Nat → Nat → Int32} {v lo hi : Int} (rv : -2147483648 ≤ v ∧ v ≤ 2147483647) (rl : -2147483648 ≤ lo ∧ lo ≤ 2147483647) (rh : -2147483648 ≤ hi ∧ hi ≤ 2147483647) :
    zRn X (d + 1) 42 [.ref 188, iv v, iv lo, iv hi] (gH k M) (fun rv h' => h' = gH k M ∧ ∃ e, rv = some (iv e) ∧ ((e = 1 ∧ lo ≤ v ∧ v ≤ hi) ∨ (e = 0 ∧ (v < lo ∨ hi < v)))) := by
  refine wEnt (n := 4) (ls := [.ref 188, iv v, iv lo, iv hi]) bk_42_0 (by decide +kernel) rfl rfl rfl ?_
  refine wP (ls' := [.ref 188, iv v, iv lo, iv hi]) (st' := [iv v]) rfl rfl ?_
  refine wP (ls' := [.ref 188, iv v, iv lo, iv hi]) (st' := [iv lo, iv v]) rfl rfl ?_
  refine wIfc (n1 := 3) rfl bk_42_3 bk_42_1 (by omega) (by omega) (fun g0 => ?_) (fun g0 => ?_)
  · replace g0 : v < lo := g0
    refine wP (ls' := [.ref 188, iv v, iv lo, iv hi]) (st' := [iv 0]) rfl rfl ?_
    refine zW_fall bk_42_4 ?_
    exact wIret (Or.inr ⟨by decide +kernel, by omega⟩) ⟨rfl, _, rfl, by omega⟩
  · replace g0 : ¬ (v < lo) := g0
    refine wP (ls' := [.ref 188, iv v, iv lo, iv hi]) (st' := [iv v]) rfl rfl ?_
    refine wP (ls' := [.ref 188, iv v, iv lo, iv hi]) (st' := [iv hi, iv v]) rfl rfl ?_
    refine wIfc (n1 := 3) rfl bk_42_3 bk_42_2 (by omega) (by omega) (fun g1 => ?_) (fun g1 => ?_)
    · replace g1 : hi < v := g1
      refine wP (ls' := [.ref 188, iv v, iv lo, iv hi]) (st' := [iv 0]) rfl rfl ?_
      refine zW_fall bk_42_4 ?_
      exact wIret (Or.inr ⟨by decide +kernel, by omega⟩) ⟨rfl, _, rfl, by omega⟩
    · replace g1 : ¬ (hi < v) := g1
      refine wP (ls' := [.ref 188, iv v, iv lo, iv hi]) (st' := [iv 1]) rfl rfl ?_
      refine wGoto (n1 := 4) rfl bk_42_4 ?_
      exact wIret (Or.inr ⟨by decide +kernel, by omega⟩) ⟨rfl, _, rfl, by omega⟩
theorem h60 {X : aX} {d : Nat} {k : Nat → aK} (hk : gKs k) {M : Nat → Nat → Int32} {j : Int} (hj : 0 ≤ j ∧ j ≤ 500) (ht : (M 188 24).toInt ≤ 500) :
    zRn X (d + 1) 60 [.ref 188, iv j] (gH k M) (fun rv h' => h' = gH k M ∧ ∃ e, rv = some (iv e) ∧ ((j < (M 188 24).toInt ∧ e = (M 202 (j).toNat).toInt) ∨ (¬ j < (M 188 24).toInt ∧ e = -1))) := by
  refine wEnt (n := 2) (ls := [.ref 188, iv j]) bk_60_0 (by decide +kernel) rfl rfl rfl ?_
  refine wP (ls' := [.ref 188, iv j]) (st' := [iv j]) rfl rfl ?_
  refine wP (ls' := [.ref 188, iv j]) (st' := [.ref 188, iv j]) rfl rfl ?_
  refine wGetN hk (f := 24) (e := (M 188 24).toInt) (by decide +kernel) (iE _) ?_
  refine wIfc (n1 := 2) rfl bk_60_2 bk_60_1 (by omega) (by first | exact iG _ | omega) (fun g0 => ?_) (fun g0 => ?_)
  · replace g0 : (M 188 24).toInt ≤ j := g0
    refine wP (ls' := [.ref 188, iv j]) (st' := [iv (-1)]) rfl rfl ?_
    refine zW_fall bk_60_3 ?_
    exact wIret (Or.inl (by decide +kernel)) ⟨rfl, _, rfl, by first | exact Or.inl ⟨by omega, rfl⟩ | exact Or.inr ⟨by omega, rfl⟩⟩
  · replace g0 : ¬ ((M 188 24).toInt ≤ j) := g0
    refine wP (ls' := [.ref 188, iv j]) (st' := [.ref 188]) rfl rfl ?_
    refine wGetR hk (r := 202) (by decide +kernel) ?_
    refine wP (ls' := [.ref 188, iv j]) (st' := [iv j, .ref 202]) rfl rfl ?_
    refine wIld hk (l := 500) (e := (M 202 (j).toNat).toInt) (by decide +kernel) (by omega) (by omega) (iE _) ?_
    refine wGoto (n1 := 3) rfl bk_60_3 ?_
    exact wIret (Or.inl (by decide +kernel)) ⟨rfl, _, rfl, by first | exact Or.inl ⟨by omega, rfl⟩ | exact Or.inr ⟨by omega, rfl⟩⟩
theorem h61 {X : aX} {d : Nat} {k : Nat → aK} (hk : gKs k) {M : Nat → Nat → Int32} {c : Int} (rc : -2147483648 ≤ c ∧ c ≤ 2147483647) :
    zRn X (d + 1 + 1) 61 [.ref 188, iv c] (gH k M) (fun rv h' => h' = gH k M ∧ ∃ e, rv = some (iv e) ∧ ((e = 1 ∧ (97 ≤ c ∧ c ≤ 122 ∨ 65 ≤ c ∧ c ≤ 90)) ∨ (e = 0 ∧ ¬ (97 ≤ c ∧ c ≤ 122 ∨ 65 ≤ c ∧ c ≤ 90)))) := by
  refine wEnt (n := 2) (ls := [.ref 188, iv c]) bk_61_0 (by decide +kernel) rfl rfl rfl ?_
  refine wP (ls' := [.ref 188, iv c]) (st' := [.ref 188]) rfl rfl ?_
  refine wP (ls' := [.ref 188, iv c]) (st' := [iv c, .ref 188]) rfl rfl ?_
  refine wP (ls' := [.ref 188, iv c]) (st' := [iv 97, iv c, .ref 188]) rfl rfl ?_
  refine wP (ls' := [.ref 188, iv c]) (st' := [iv 122, iv 97, iv c, .ref 188]) rfl rfl ?_
  refine wCall hk (q := 42) (na := 3) (a := 188) (as := [iv c, iv 97, iv 122]) (t := []) rfl (by decide +kernel) (by decide) (by decide +kernel) (Nat.le_of_ble_eq_true rfl) rfl rfl (zRn.mono (h42 hk (by omega) (by omega) (by omega)) (fun rv h' hq => ?_))
  obtain ⟨rfl, e0_5, rfl, h0_5⟩ := hq
  refine ⟨rfl, ?_⟩
  show zW X _ 61 0 [.ifCond .ne 2] [.ref 188, iv c] [iv e0_5] (gH k M) _
  refine wIf0 (n1 := 2) rfl bk_61_2 bk_61_1 (by omega) (fun g0 => ?_) (fun g0 => ?_)
  · replace g0 : ¬ e0_5 = 0 := g0
    refine wP (ls' := [.ref 188, iv c]) (st' := [iv 1]) rfl rfl ?_
    refine wGoto (n1 := 4) rfl bk_61_4 ?_
    exact wIret (Or.inr ⟨by decide +kernel, by omega⟩) ⟨rfl, _, rfl, by omega⟩
  · replace g0 : ¬ (¬ e0_5 = 0) := g0
    refine wP (ls' := [.ref 188, iv c]) (st' := [.ref 188]) rfl rfl ?_
    refine wP (ls' := [.ref 188, iv c]) (st' := [iv c, .ref 188]) rfl rfl ?_
    refine wP (ls' := [.ref 188, iv c]) (st' := [iv 65, iv c, .ref 188]) rfl rfl ?_
    refine wP (ls' := [.ref 188, iv c]) (st' := [iv 90, iv 65, iv c, .ref 188]) rfl rfl ?_
    refine wCall hk (q := 42) (na := 3) (a := 188) (as := [iv c, iv 65, iv 90]) (t := []) rfl (by decide +kernel) (by decide) (by decide +kernel) (Nat.le_of_ble_eq_true rfl) rfl rfl (zRn.mono (h42 hk (by omega) (by omega) (by omega)) (fun rv h' hq => ?_))
    obtain ⟨rfl, e1_5, rfl, h1_5⟩ := hq
    refine ⟨rfl, ?_⟩
    show zW X _ 61 1 [.ifCond .eq 3] [.ref 188, iv c] [iv e1_5] (gH k M) _
    refine wIf0 (n1 := 3) rfl bk_61_3 bk_61_2 (by omega) (fun g1 => ?_) (fun g1 => ?_)
    · replace g1 : e1_5 = 0 := g1
      refine wP (ls' := [.ref 188, iv c]) (st' := [iv 0]) rfl rfl ?_
      refine zW_fall bk_61_4 ?_
      exact wIret (Or.inr ⟨by decide +kernel, by omega⟩) ⟨rfl, _, rfl, by omega⟩
    · replace g1 : ¬ (e1_5 = 0) := g1
      refine wP (ls' := [.ref 188, iv c]) (st' := [iv 1]) rfl rfl ?_
      refine wGoto (n1 := 4) rfl bk_61_4 ?_
      exact wIret (Or.inr ⟨by decide +kernel, by omega⟩) ⟨rfl, _, rfl, by omega⟩
theorem h62 {X : aX} {d : Nat} {k : Nat → aK} (hk : gKs k) {M : Nat → Nat → Int32} {c : Int} (rc : -2147483648 ≤ c ∧ c ≤ 2147483647) :
    zRn X (d + 1 + 1) 62 [.ref 188, iv c] (gH k M) (fun rv h' => h' = gH k M ∧ ∃ e, rv = some (iv e) ∧ ((e = 1 ∧ 48 ≤ c ∧ c ≤ 57) ∨ (e = 0 ∧ ¬ (48 ≤ c ∧ c ≤ 57)))) := by
  refine wEnt (n := 2) (ls := [.ref 188, iv c]) bk_62_0 (by decide +kernel) rfl rfl rfl ?_
  refine wP (ls' := [.ref 188, iv c]) (st' := [.ref 188]) rfl rfl ?_
  refine wP (ls' := [.ref 188, iv c]) (st' := [iv c, .ref 188]) rfl rfl ?_
  refine wP (ls' := [.ref 188, iv c]) (st' := [iv 48, iv c, .ref 188]) rfl rfl ?_
  refine wP (ls' := [.ref 188, iv c]) (st' := [iv 57, iv 48, iv c, .ref 188]) rfl rfl ?_
  refine wCall hk (q := 42) (na := 3) (a := 188) (as := [iv c, iv 48, iv 57]) (t := []) rfl (by decide +kernel) (by decide) (by decide +kernel) (Nat.le_of_ble_eq_true rfl) rfl rfl (zRn.mono (h42 hk (by omega) (by omega) (by omega)) (fun rv h' hq => ?_))
  obtain ⟨rfl, e0_5, rfl, h0_5⟩ := hq
  refine ⟨rfl, ?_⟩
  show zW X _ 62 0 [.ireturn] [.ref 188, iv c] [iv e0_5] (gH k M) _
  exact wIret (Or.inr ⟨by decide +kernel, by omega⟩) ⟨rfl, _, rfl, by omega⟩
theorem h63 {X : aX} {d : Nat} {k : Nat → aK} (hk : gKs k) {M : Nat → Nat → Int32} {c : Int} (rc : -2147483648 ≤ c ∧ c ≤ 2147483647) :
    zRn X (d + 1) 63 [.ref 188, iv c] (gH k M) (fun rv h' => h' = gH k M ∧ ∃ e, rv = some (iv e) ∧ ((e = 1 ∧ (c = 59 ∨ c = 43 ∨ c = 45 ∨ c = 42 ∨ c = 47 ∨ c = 40 ∨ c = 41 ∨ c = 60 ∨ c = 61 ∨ c = 62)) ∨ (e = 0 ∧ ¬ (c = 59 ∨ c = 43 ∨ c = 45 ∨ c = 42 ∨ c = 47 ∨ c = 40 ∨ c = 41 ∨ c = 60 ∨ c = 61 ∨ c = 62)))) := by
  refine wEnt (n := 2) (ls := [.ref 188, iv c]) bk_63_0 (by decide +kernel) rfl rfl rfl ?_
  refine wP (ls' := [.ref 188, iv c]) (st' := [iv c]) rfl rfl ?_
  refine wP (ls' := [.ref 188, iv c]) (st' := [iv 59, iv c]) rfl rfl ?_
  refine wIfc (n1 := 10) rfl bk_63_10 bk_63_1 (by omega) (by omega) (fun g0 => ?_) (fun g0 => ?_)
  · replace g0 : c = 59 := g0
    refine wP (ls' := [.ref 188, iv c]) (st' := [iv 1]) rfl rfl ?_
    refine wGoto (n1 := 12) rfl bk_63_12 ?_
    exact wIret (Or.inr ⟨by decide +kernel, by omega⟩) ⟨rfl, _, rfl, by omega⟩
  · replace g0 : ¬ (c = 59) := g0
    refine wP (ls' := [.ref 188, iv c]) (st' := [iv c]) rfl rfl ?_
    refine wP (ls' := [.ref 188, iv c]) (st' := [iv 43, iv c]) rfl rfl ?_
    refine wIfc (n1 := 10) rfl bk_63_10 bk_63_2 (by omega) (by omega) (fun g1 => ?_) (fun g1 => ?_)
    · replace g1 : c = 43 := g1
      refine wP (ls' := [.ref 188, iv c]) (st' := [iv 1]) rfl rfl ?_
      refine wGoto (n1 := 12) rfl bk_63_12 ?_
      exact wIret (Or.inr ⟨by decide +kernel, by omega⟩) ⟨rfl, _, rfl, by omega⟩
    · replace g1 : ¬ (c = 43) := g1
      refine wP (ls' := [.ref 188, iv c]) (st' := [iv c]) rfl rfl ?_
      refine wP (ls' := [.ref 188, iv c]) (st' := [iv 45, iv c]) rfl rfl ?_
      refine wIfc (n1 := 10) rfl bk_63_10 bk_63_3 (by omega) (by omega) (fun g2 => ?_) (fun g2 => ?_)
      · replace g2 : c = 45 := g2
        refine wP (ls' := [.ref 188, iv c]) (st' := [iv 1]) rfl rfl ?_
        refine wGoto (n1 := 12) rfl bk_63_12 ?_
        exact wIret (Or.inr ⟨by decide +kernel, by omega⟩) ⟨rfl, _, rfl, by omega⟩
      · replace g2 : ¬ (c = 45) := g2
        refine wP (ls' := [.ref 188, iv c]) (st' := [iv c]) rfl rfl ?_
        refine wP (ls' := [.ref 188, iv c]) (st' := [iv 42, iv c]) rfl rfl ?_
        refine wIfc (n1 := 10) rfl bk_63_10 bk_63_4 (by omega) (by omega) (fun g3 => ?_) (fun g3 => ?_)
        · replace g3 : c = 42 := g3
          refine wP (ls' := [.ref 188, iv c]) (st' := [iv 1]) rfl rfl ?_
          refine wGoto (n1 := 12) rfl bk_63_12 ?_
          exact wIret (Or.inr ⟨by decide +kernel, by omega⟩) ⟨rfl, _, rfl, by omega⟩
        · replace g3 : ¬ (c = 42) := g3
          refine wP (ls' := [.ref 188, iv c]) (st' := [iv c]) rfl rfl ?_
          refine wP (ls' := [.ref 188, iv c]) (st' := [iv 47, iv c]) rfl rfl ?_
          refine wIfc (n1 := 10) rfl bk_63_10 bk_63_5 (by omega) (by omega) (fun g4 => ?_) (fun g4 => ?_)
          · replace g4 : c = 47 := g4
            refine wP (ls' := [.ref 188, iv c]) (st' := [iv 1]) rfl rfl ?_
            refine wGoto (n1 := 12) rfl bk_63_12 ?_
            exact wIret (Or.inr ⟨by decide +kernel, by omega⟩) ⟨rfl, _, rfl, by omega⟩
          · replace g4 : ¬ (c = 47) := g4
            refine wP (ls' := [.ref 188, iv c]) (st' := [iv c]) rfl rfl ?_
            refine wP (ls' := [.ref 188, iv c]) (st' := [iv 40, iv c]) rfl rfl ?_
            refine wIfc (n1 := 10) rfl bk_63_10 bk_63_6 (by omega) (by omega) (fun g5 => ?_) (fun g5 => ?_)
            · replace g5 : c = 40 := g5
              refine wP (ls' := [.ref 188, iv c]) (st' := [iv 1]) rfl rfl ?_
              refine wGoto (n1 := 12) rfl bk_63_12 ?_
              exact wIret (Or.inr ⟨by decide +kernel, by omega⟩) ⟨rfl, _, rfl, by omega⟩
            · replace g5 : ¬ (c = 40) := g5
              refine wP (ls' := [.ref 188, iv c]) (st' := [iv c]) rfl rfl ?_
              refine wP (ls' := [.ref 188, iv c]) (st' := [iv 41, iv c]) rfl rfl ?_
              refine wIfc (n1 := 10) rfl bk_63_10 bk_63_7 (by omega) (by omega) (fun g6 => ?_) (fun g6 => ?_)
              · replace g6 : c = 41 := g6
                refine wP (ls' := [.ref 188, iv c]) (st' := [iv 1]) rfl rfl ?_
                refine wGoto (n1 := 12) rfl bk_63_12 ?_
                exact wIret (Or.inr ⟨by decide +kernel, by omega⟩) ⟨rfl, _, rfl, by omega⟩
              · replace g6 : ¬ (c = 41) := g6
                refine wP (ls' := [.ref 188, iv c]) (st' := [iv c]) rfl rfl ?_
                refine wP (ls' := [.ref 188, iv c]) (st' := [iv 60, iv c]) rfl rfl ?_
                refine wIfc (n1 := 10) rfl bk_63_10 bk_63_8 (by omega) (by omega) (fun g7 => ?_) (fun g7 => ?_)
                · replace g7 : c = 60 := g7
                  refine wP (ls' := [.ref 188, iv c]) (st' := [iv 1]) rfl rfl ?_
                  refine wGoto (n1 := 12) rfl bk_63_12 ?_
                  exact wIret (Or.inr ⟨by decide +kernel, by omega⟩) ⟨rfl, _, rfl, by omega⟩
                · replace g7 : ¬ (c = 60) := g7
                  refine wP (ls' := [.ref 188, iv c]) (st' := [iv c]) rfl rfl ?_
                  refine wP (ls' := [.ref 188, iv c]) (st' := [iv 61, iv c]) rfl rfl ?_
                  refine wIfc (n1 := 10) rfl bk_63_10 bk_63_9 (by omega) (by omega) (fun g8 => ?_) (fun g8 => ?_)
                  · replace g8 : c = 61 := g8
                    refine wP (ls' := [.ref 188, iv c]) (st' := [iv 1]) rfl rfl ?_
                    refine wGoto (n1 := 12) rfl bk_63_12 ?_
                    exact wIret (Or.inr ⟨by decide +kernel, by omega⟩) ⟨rfl, _, rfl, by omega⟩
                  · replace g8 : ¬ (c = 61) := g8
                    refine wP (ls' := [.ref 188, iv c]) (st' := [iv c]) rfl rfl ?_
                    refine wP (ls' := [.ref 188, iv c]) (st' := [iv 62, iv c]) rfl rfl ?_
                    refine wIfc (n1 := 11) rfl bk_63_11 bk_63_10 (by omega) (by omega) (fun g9 => ?_) (fun g9 => ?_)
                    · replace g9 : ¬ c = 62 := g9
                      refine wP (ls' := [.ref 188, iv c]) (st' := [iv 0]) rfl rfl ?_
                      refine zW_fall bk_63_12 ?_
                      exact wIret (Or.inr ⟨by decide +kernel, by omega⟩) ⟨rfl, _, rfl, by omega⟩
                    · replace g9 : ¬ (¬ c = 62) := g9
                      refine wP (ls' := [.ref 188, iv c]) (st' := [iv 1]) rfl rfl ?_
                      refine wGoto (n1 := 12) rfl bk_63_12 ?_
                      exact wIret (Or.inr ⟨by decide +kernel, by omega⟩) ⟨rfl, _, rfl, by omega⟩
theorem h67 {X : aX} {d : Nat} {k : Nat → aK} (hk : gKs k) {M : Nat → Nat → Int32} {c : Int} (rc : -2147483648 ≤ c ∧ c ≤ 2147483647) :
    zRn X (d + 1) 67 [.ref 188, iv c] (gH k M) (fun rv h' => h' = gH k M ∧ ∃ e, rv = some (iv e) ∧ ((e = 1 ∧ (M 188 27).toInt = 2 ∧ (M 188 28).toInt = c) ∨ (e = 0 ∧ ¬ ((M 188 27).toInt = 2 ∧ (M 188 28).toInt = c)))) := by
  refine wEnt (n := 2) (ls := [.ref 188, iv c]) bk_67_0 (by decide +kernel) rfl rfl rfl ?_
  refine wP (ls' := [.ref 188, iv c]) (st' := [.ref 188]) rfl rfl ?_
  refine wGetN hk (f := 27) (e := (M 188 27).toInt) (by decide +kernel) (iE _) ?_
  refine wP (ls' := [.ref 188, iv c]) (st' := [iv 2, iv (M 188 27).toInt]) rfl rfl ?_
  refine wIfc (n1 := 3) rfl bk_67_3 bk_67_1 (by first | exact iG _ | omega) (by omega) (fun g0 => ?_) (fun g0 => ?_)
  · replace g0 : ¬ (M 188 27).toInt = 2 := g0
    refine wP (ls' := [.ref 188, iv c]) (st' := [iv 0]) rfl rfl ?_
    refine zW_fall bk_67_4 ?_
    exact wIret (Or.inr ⟨by decide +kernel, by omega⟩) ⟨rfl, _, rfl, by omega⟩
  · replace g0 : ¬ (¬ (M 188 27).toInt = 2) := g0
    refine wP (ls' := [.ref 188, iv c]) (st' := [.ref 188]) rfl rfl ?_
    refine wGetN hk (f := 28) (e := (M 188 28).toInt) (by decide +kernel) (iE _) ?_
    refine wP (ls' := [.ref 188, iv c]) (st' := [iv c, iv (M 188 28).toInt]) rfl rfl ?_
    refine wIfc (n1 := 3) rfl bk_67_3 bk_67_2 (by first | exact iG _ | omega) (by omega) (fun g1 => ?_) (fun g1 => ?_)
    · replace g1 : ¬ (M 188 28).toInt = c := g1
      refine wP (ls' := [.ref 188, iv c]) (st' := [iv 0]) rfl rfl ?_
      refine zW_fall bk_67_4 ?_
      exact wIret (Or.inr ⟨by decide +kernel, by omega⟩) ⟨rfl, _, rfl, by omega⟩
    · replace g1 : ¬ (¬ (M 188 28).toInt = c) := g1
      refine wP (ls' := [.ref 188, iv c]) (st' := [iv 1]) rfl rfl ?_
      refine wGoto (n1 := 4) rfl bk_67_4 ?_
      exact wIret (Or.inr ⟨by decide +kernel, by omega⟩) ⟨rfl, _, rfl, by omega⟩
theorem h68 {X : aX} {d : Nat} {k : Nat → aK} (hk : gKs k) {M : Nat → Nat → Int32} {c : Int} (rc : -2147483648 ≤ c ∧ c ≤ 2147483647) :
    zRn X (d + 1) 68 [.ref 188, iv c] (gH k M) (fun rv h' => h' = gH k M ∧ ∃ e, rv = some (iv e) ∧ ((e = 1 ∧ (M 188 27).toInt = 4 ∧ (M 188 28).toInt = c) ∨ (e = 0 ∧ ¬ ((M 188 27).toInt = 4 ∧ (M 188 28).toInt = c)))) := by
  refine wEnt (n := 2) (ls := [.ref 188, iv c]) bk_68_0 (by decide +kernel) rfl rfl rfl ?_
  refine wP (ls' := [.ref 188, iv c]) (st' := [.ref 188]) rfl rfl ?_
  refine wGetN hk (f := 27) (e := (M 188 27).toInt) (by decide +kernel) (iE _) ?_
  refine wP (ls' := [.ref 188, iv c]) (st' := [iv 4, iv (M 188 27).toInt]) rfl rfl ?_
  refine wIfc (n1 := 3) rfl bk_68_3 bk_68_1 (by first | exact iG _ | omega) (by omega) (fun g0 => ?_) (fun g0 => ?_)
  · replace g0 : ¬ (M 188 27).toInt = 4 := g0
    refine wP (ls' := [.ref 188, iv c]) (st' := [iv 0]) rfl rfl ?_
    refine zW_fall bk_68_4 ?_
    exact wIret (Or.inr ⟨by decide +kernel, by omega⟩) ⟨rfl, _, rfl, by omega⟩
  · replace g0 : ¬ (¬ (M 188 27).toInt = 4) := g0
    refine wP (ls' := [.ref 188, iv c]) (st' := [.ref 188]) rfl rfl ?_
    refine wGetN hk (f := 28) (e := (M 188 28).toInt) (by decide +kernel) (iE _) ?_
    refine wP (ls' := [.ref 188, iv c]) (st' := [iv c, iv (M 188 28).toInt]) rfl rfl ?_
    refine wIfc (n1 := 3) rfl bk_68_3 bk_68_2 (by first | exact iG _ | omega) (by omega) (fun g1 => ?_) (fun g1 => ?_)
    · replace g1 : ¬ (M 188 28).toInt = c := g1
      refine wP (ls' := [.ref 188, iv c]) (st' := [iv 0]) rfl rfl ?_
      refine zW_fall bk_68_4 ?_
      exact wIret (Or.inr ⟨by decide +kernel, by omega⟩) ⟨rfl, _, rfl, by omega⟩
    · replace g1 : ¬ (¬ (M 188 28).toInt = c) := g1
      refine wP (ls' := [.ref 188, iv c]) (st' := [iv 1]) rfl rfl ?_
      refine wGoto (n1 := 4) rfl bk_68_4 ?_
      exact wIret (Or.inr ⟨by decide +kernel, by omega⟩) ⟨rfl, _, rfl, by omega⟩
def gSp : List Nat := [0, 4, 10, 15, 20, 24, 29, 35, 43, 50, 59, 64, 69, 72, 76, 80, 85, 91, 95, 100, 105, 109, 114, 122, 127, 132, 139, 143, 150, 155]
theorem gSp_ok : ∀ m, m < 29 → gSp.getD m 0 < gSp.getD (m + 1) 0 ∧ gSp.getD (m + 1) 0 ≤ 155 ∧ (gWd.getD (gSp.getD (m + 1) 0) 0 = 32) ∧ ∀ j, j < 156 → gSp.getD m 0 < j → j < gSp.getD (m + 1) 0 → gWd.getD j 0 ≠ 32 := by decide +kernel
theorem gSp_lt : ∀ m, m < 29 → gSp.getD m 0 < 155 := by decide +kernel
theorem gSp_up : ∀ m, m < 29 → gSp.getD m 0 < gSp.getD (m + 1) 0 := by decide +kernel
theorem h64_in {X : aX} {d : Nat} {k : Nat → aK} (hk : gKs k) {M : Nat → Nat → Int32} {a b : Int} (ha : 0 ≤ a) (hab : a < b) (hb : b ≤ 500) (hw : ∀ j, j < 156 → M 203 j = Int32.ofInt (gWd.getD j 0)) (hl : ∀ j : Nat, a ≤ j → (j : Int) < b → (M 202 j).toInt ≠ 32) {m : Nat} (hm : m < 29) {i3 i4 : Int} (h4 : i4 = gSp.getD m 0)
    (hx : ∀ i5 : Int, 0 ≤ i5 → i4 + 1 + i5 ≤ gSp.getD (m + 1) 0 → a + i5 ≤ b → zW X d 64 6 [.iload 1, .iload 5, .iadd, .iload 2, .if_icmp .ne 9] [.ref 188, iv a, iv b, iv i3, iv i4, iv i5] [] (gH k M) (fun rv h' => h' = gH k M ∧ ∃ e, rv = some (iv e) ∧ -1 ≤ e ∧ e ≤ 28)) :
    ∀ (n : Nat) (i5 : Int), 0 ≤ i5 → i4 + 1 + i5 ≤ gSp.getD (m + 1) 0 → a + i5 ≤ b → b - (a + i5) ≤ n → zW X d 64 3 [.iload 1, .iload 5, .iadd, .iload 2, .if_icmp .ge 6] [.ref 188, iv a, iv b, iv i3, iv i4, iv i5] [] (gH k M) (fun rv h' => h' = gH k M ∧ ∃ e, rv = some (iv e) ∧ -1 ≤ e ∧ e ≤ 28) := by
  obtain ⟨s1, s2, s3, s4⟩ := gSp_ok m hm
  intro n
  induction n with
  | zero =>
    intro i5 h0 h1 h2 hn
    refine wP (ls' := [.ref 188, iv a, iv b, iv i3, iv i4, iv i5]) (st' := [iv a]) rfl rfl ?_
    refine wP (ls' := [.ref 188, iv a, iv b, iv i3, iv i4, iv i5]) (st' := [iv i5, iv a]) rfl rfl ?_
    refine wAdd ?_
    refine wP (ls' := [.ref 188, iv a, iv b, iv i3, iv i4, iv i5]) (st' := [iv b, iv (a + i5)]) rfl rfl ?_
    refine wIfc (n1 := 6) rfl bk_64_6 bk_64_4 (by omega) (by omega) (fun g0 => ?_) (fun g0 => ?_)
    · replace g0 : b ≤ (a + i5) := g0
      exact hx i5 (by omega) (by omega) (by omega)
    · replace g0 : ¬ (b ≤ (a + i5)) := g0
      exact absurd g0 (by omega)
  | succ n ih =>
    intro i5 h0 h1 h2 hn
    have key : (M 203 (i4 + 1 + i5).toNat).toInt = (M 202 (a + i5).toNat).toInt → a + i5 < b → i4 + 1 + (i5 + 1) ≤ gSp.getD (m + 1) 0 := by
      intro e hlt
      by_cases q : i4 + 1 + i5 = gSp.getD (m + 1) 0
      · exfalso
        have e2 := hw (gSp.getD (m + 1) 0) (by omega)
        rw [s3] at e2
        rw [show (i4 + 1 + i5).toNat = gSp.getD (m + 1) 0 by omega, e2, iR (by omega) (by omega)] at e
        exact hl (a + i5).toNat (by omega) (by omega) e.symm
      · omega
    refine wP (ls' := [.ref 188, iv a, iv b, iv i3, iv i4, iv i5]) (st' := [iv a]) rfl rfl ?_
    refine wP (ls' := [.ref 188, iv a, iv b, iv i3, iv i4, iv i5]) (st' := [iv i5, iv a]) rfl rfl ?_
    refine wAdd ?_
    refine wP (ls' := [.ref 188, iv a, iv b, iv i3, iv i4, iv i5]) (st' := [iv b, iv (a + i5)]) rfl rfl ?_
    refine wIfc (n1 := 6) rfl bk_64_6 bk_64_4 (by omega) (by omega) (fun g0 => ?_) (fun g0 => ?_)
    · replace g0 : b ≤ (a + i5) := g0
      exact hx i5 (by omega) (by omega) (by omega)
    · replace g0 : ¬ (b ≤ (a + i5)) := g0
      refine wP (ls' := [.ref 188, iv a, iv b, iv i3, iv i4, iv i5]) (st' := [.ref 188]) rfl rfl ?_
      refine wGetR hk (r := 203) (by decide +kernel) ?_
      refine wP (ls' := [.ref 188, iv a, iv b, iv i3, iv i4, iv i5]) (st' := [iv i4, .ref 203]) rfl rfl ?_
      refine wP (ls' := [.ref 188, iv a, iv b, iv i3, iv i4, iv i5]) (st' := [iv 1, iv i4, .ref 203]) rfl rfl ?_
      refine wAdd ?_
      refine wP (ls' := [.ref 188, iv a, iv b, iv i3, iv i4, iv i5]) (st' := [iv i5, iv (i4 + 1), .ref 203]) rfl rfl ?_
      refine wAdd ?_
      refine wIld hk (l := 156) (e := (M 203 (((i4 + 1) + i5)).toNat).toInt) (by decide +kernel) (by omega) (by omega) (iE _) ?_
      refine wP (ls' := [.ref 188, iv a, iv b, iv i3, iv i4, iv i5]) (st' := [.ref 188, iv (M 203 (((i4 + 1) + i5)).toNat).toInt]) rfl rfl ?_
      refine wGetR hk (r := 202) (by decide +kernel) ?_
      refine wP (ls' := [.ref 188, iv a, iv b, iv i3, iv i4, iv i5]) (st' := [iv a, .ref 202, iv (M 203 (((i4 + 1) + i5)).toNat).toInt]) rfl rfl ?_
      refine wP (ls' := [.ref 188, iv a, iv b, iv i3, iv i4, iv i5]) (st' := [iv i5, iv a, .ref 202, iv (M 203 (((i4 + 1) + i5)).toNat).toInt]) rfl rfl ?_
      refine wAdd ?_
      refine wIld hk (l := 500) (e := (M 202 ((a + i5)).toNat).toInt) (by decide +kernel) (by omega) (by omega) (iE _) ?_
      refine wIfc (n1 := 6) rfl bk_64_6 bk_64_5 (by first | exact iG _ | omega) (by first | exact iG _ | omega) (fun g1 => ?_) (fun g1 => ?_)
      · replace g1 : ¬ (M 203 (((i4 + 1) + i5)).toNat).toInt = (M 202 ((a + i5)).toNat).toInt := g1
        exact hx i5 (by omega) (by omega) (by omega)
      · replace g1 : ¬ (¬ (M 203 (((i4 + 1) + i5)).toNat).toInt = (M 202 ((a + i5)).toNat).toInt) := g1
        refine wP (ls' := [.ref 188, iv a, iv b, iv i3, iv i4, iv i5]) (st' := [iv i5]) rfl rfl ?_
        refine wP (ls' := [.ref 188, iv a, iv b, iv i3, iv i4, iv i5]) (st' := [iv 1, iv i5]) rfl rfl ?_
        refine wAdd ?_
        refine wP (ls' := [.ref 188, iv a, iv b, iv i3, iv i4, iv (i5 + 1)]) (st' := []) rfl rfl ?_
        refine wGoto (n1 := 3) rfl bk_64_3 ?_
        have kk := key (by omega) (by omega)
        exact ih (i5 + 1) (by omega) (by omega) (by omega) (by omega)
theorem gWd_r : ∀ j, -2147483648 ≤ gWd.getD j 0 ∧ gWd.getD j 0 ≤ 2147483647 := by
  intro j
  by_cases h : j < 156
  · have : ∀ j, j < 156 → (0 ≤ gWd.getD j 0 ∧ gWd.getD j 0 ≤ 127) := by decide +kernel
    have := this j h
    omega
  · rw [List.getD_eq_getElem?_getD, List.getElem?_eq_none (by have : gWd.length = 156 := by decide +kernel
                                                              omega)]
    decide
theorem h64_sk {X : aX} {d : Nat} {k : Nat → aK} (hk : gKs k) {M : Nat → Nat → Int32} {a b : Int} (hw : ∀ j, j < 156 → M 203 j = Int32.ofInt (gWd.getD j 0)) {m : Nat} (hm : m < 29) {i3 : Int}
    (hx : ∀ i4 i5 : Int, i4 = gSp.getD (m + 1) 0 → zW X d 64 1 [.iload 4, .bipush 155, .if_icmp .ge 13] [.ref 188, iv a, iv b, iv i3, iv i4, iv i5] [] (gH k M) (fun rv h' => h' = gH k M ∧ ∃ e, rv = some (iv e) ∧ -1 ≤ e ∧ e ≤ 28)) :
    ∀ (n : Nat) (i4 i5 : Int), (gSp.getD m 0 : Int) < i4 → i4 ≤ gSp.getD (m + 1) 0 → gSp.getD (m + 1) 0 - i4 ≤ n → zW X d 64 10 [.aload 0, .getfield 127112118, .iload 4, .iaload, .bipush 32, .if_icmp .eq 12] [.ref 188, iv a, iv b, iv i3, iv i4, iv i5] [] (gH k M) (fun rv h' => h' = gH k M ∧ ∃ e, rv = some (iv e) ∧ -1 ≤ e ∧ e ≤ 28) := by
  obtain ⟨s1, s2, s3, s4⟩ := gSp_ok m hm
  have hr := gWd_r
  intro n
  induction n with
  | zero =>
    intro i4 i5 h1 h2 hn
    have e4 : i4 = gSp.getD (m + 1) 0 := by omega
    have e5 : (M 203 (i4).toNat).toInt = 32 := by
      have e2 := hw (gSp.getD (m + 1) 0) (by omega)
      rw [s3] at e2
      rw [show (i4).toNat = gSp.getD (m + 1) 0 by omega, e2, iR (by omega) (by omega)]
    refine wP (ls' := [.ref 188, iv a, iv b, iv i3, iv i4, iv i5]) (st' := [.ref 188]) rfl rfl ?_
    refine wGetR hk (r := 203) (by decide +kernel) ?_
    refine wP (ls' := [.ref 188, iv a, iv b, iv i3, iv i4, iv i5]) (st' := [iv i4, .ref 203]) rfl rfl ?_
    refine wIld hk (l := 156) (e := (M 203 (i4).toNat).toInt) (by decide +kernel) (by omega) (by omega) (iE _) ?_
    refine wP (ls' := [.ref 188, iv a, iv b, iv i3, iv i4, iv i5]) (st' := [iv 32, iv (M 203 (i4).toNat).toInt]) rfl rfl ?_
    refine wIfc (n1 := 12) rfl bk_64_12 bk_64_11 (by first | exact iG _ | omega) (by omega) (fun g0 => ?_) (fun g0 => ?_)
    · replace g0 : (M 203 (i4).toNat).toInt = 32 := g0
      refine wGoto (n1 := 1) rfl bk_64_1 ?_
      exact hx i4 i5 (by omega)
    · replace g0 : ¬ ((M 203 (i4).toNat).toInt = 32) := g0
      exact absurd g0 (by omega)
  | succ n ih =>
    intro i4 i5 h1 h2 hn
    refine wP (ls' := [.ref 188, iv a, iv b, iv i3, iv i4, iv i5]) (st' := [.ref 188]) rfl rfl ?_
    refine wGetR hk (r := 203) (by decide +kernel) ?_
    refine wP (ls' := [.ref 188, iv a, iv b, iv i3, iv i4, iv i5]) (st' := [iv i4, .ref 203]) rfl rfl ?_
    refine wIld hk (l := 156) (e := (M 203 (i4).toNat).toInt) (by decide +kernel) (by omega) (by omega) (iE _) ?_
    refine wP (ls' := [.ref 188, iv a, iv b, iv i3, iv i4, iv i5]) (st' := [iv 32, iv (M 203 (i4).toNat).toInt]) rfl rfl ?_
    refine wIfc (n1 := 12) rfl bk_64_12 bk_64_11 (by first | exact iG _ | omega) (by omega) (fun g0 => ?_) (fun g0 => ?_)
    · replace g0 : (M 203 (i4).toNat).toInt = 32 := g0
      have e4 : i4 = gSp.getD (m + 1) 0 := by
        by_cases q : i4 = gSp.getD (m + 1) 0
        · exact q
        · exfalso
          have e2 := hw (i4).toNat (by omega)
          rw [e2, iR (hr _).1 (hr _).2] at g0
          exact s4 (i4).toNat (by omega) (by omega) (by omega) g0
      refine wGoto (n1 := 1) rfl bk_64_1 ?_
      exact hx i4 i5 e4
    · replace g0 : ¬ ((M 203 (i4).toNat).toInt = 32) := g0
      refine wP (ls' := [.ref 188, iv a, iv b, iv i3, iv i4, iv i5]) (st' := [iv i4]) rfl rfl ?_
      refine wP (ls' := [.ref 188, iv a, iv b, iv i3, iv i4, iv i5]) (st' := [iv 1, iv i4]) rfl rfl ?_
      refine wAdd ?_
      refine wP (ls' := [.ref 188, iv a, iv b, iv i3, iv (i4 + 1), iv i5]) (st' := []) rfl rfl ?_
      refine wGoto (n1 := 10) rfl bk_64_10 ?_
      have hne : i4 ≠ gSp.getD (m + 1) 0 := by
        intro q
        have e2 := hw (i4).toNat (by omega)
        rw [show (i4).toNat = gSp.getD (m + 1) 0 by omega, s3] at e2
        rw [show (i4).toNat = gSp.getD (m + 1) 0 by omega, e2, iR (by omega) (by omega)] at g0
        exact g0 rfl
      exact ih (i4 + 1) i5 (by omega) (by omega) (by omega)
theorem h64_out {X : aX} {d : Nat} {k : Nat → aK} (hk : gKs k) {M : Nat → Nat → Int32} {a b : Int} (ha : 0 ≤ a) (hab : a < b) (hb : b ≤ 500) (hw : ∀ j, j < 156 → M 203 j = Int32.ofInt (gWd.getD j 0)) (hl : ∀ j : Nat, a ≤ j → (j : Int) < b → (M 202 j).toInt ≠ 32) :
    ∀ (n m : Nat) (i3 i4 : Int) (u5 : Value), m + n = 29 → i3 = (m : Int) - 1 → i4 = gSp.getD m 0 → zW X d 64 1 [.iload 4, .bipush 155, .if_icmp .ge 13] [.ref 188, iv a, iv b, iv i3, iv i4, u5] [] (gH k M) (fun rv h' => h' = gH k M ∧ ∃ e, rv = some (iv e) ∧ -1 ≤ e ∧ e ≤ 28) := by
  intro n
  induction n with
  | zero =>
    intro m i3 i4 u5 hmn h3 h4
    have e4 : i4 = 155 := by rw [h4, show m = 29 by omega]; rfl
    refine wP (ls' := [.ref 188, iv a, iv b, iv i3, iv i4, u5]) (st' := [iv i4]) rfl rfl ?_
    refine wP (ls' := [.ref 188, iv a, iv b, iv i3, iv i4, u5]) (st' := [iv 155, iv i4]) rfl rfl ?_
    refine wIfc (n1 := 13) rfl bk_64_13 bk_64_2 (by omega) (by omega) (fun g0 => ?_) (fun g0 => ?_)
    · replace g0 : 155 ≤ i4 := g0
      refine wP (ls' := [.ref 188, iv a, iv b, iv i3, iv i4, u5]) (st' := [iv (-1)]) rfl rfl ?_
      exact wIret (Or.inl (by decide +kernel)) ⟨rfl, _, rfl, by omega, by omega⟩
    · replace g0 : ¬ (155 ≤ i4) := g0
      exact absurd g0 (by omega)
  | succ n ih0 =>
    intro m i3 i4 u5 hmn h3 h4
    have hm : m < 29 := by omega
    have hlt := gSp_lt m hm
    obtain ⟨s1, s2, s3, s4⟩ := gSp_ok m hm
    have ih := fun m => ih0 m
    refine wP (ls' := [.ref 188, iv a, iv b, iv i3, iv i4, u5]) (st' := [iv i4]) rfl rfl ?_
    refine wP (ls' := [.ref 188, iv a, iv b, iv i3, iv i4, u5]) (st' := [iv 155, iv i4]) rfl rfl ?_
    refine wIfc (n1 := 13) rfl bk_64_13 bk_64_2 (by omega) (by omega) (fun g0 => ?_) (fun g0 => ?_)
    · replace g0 : 155 ≤ i4 := g0
      exact absurd g0 (by omega)
    · replace g0 : ¬ (155 ≤ i4) := g0
      refine wP (ls' := [.ref 188, iv a, iv b, iv i3, iv i4, u5]) (st' := [iv 0]) rfl rfl ?_
      refine wP (ls' := [.ref 188, iv a, iv b, iv i3, iv i4, iv 0]) (st' := []) rfl rfl ?_
      refine wP (ls' := [.ref 188, iv a, iv b, iv i3, iv i4, iv 0]) (st' := [iv i3]) rfl rfl ?_
      refine wP (ls' := [.ref 188, iv a, iv b, iv i3, iv i4, iv 0]) (st' := [iv 1, iv i3]) rfl rfl ?_
      refine wAdd ?_
      refine wP (ls' := [.ref 188, iv a, iv b, iv (i3 + 1), iv i4, iv 0]) (st' := []) rfl rfl ?_
      refine zW_fall bk_64_3 ?_
      refine h64_in hk ha hab hb hw hl hm h4 (fun i5 p0 p1 p2 => ?_) (b - (a + 0)).toNat 0 (by omega) (by omega) (by omega) (by omega)
      refine wP (ls' := [.ref 188, iv a, iv b, iv (i3 + 1), iv i4, iv i5]) (st' := [iv a]) rfl rfl ?_
      refine wP (ls' := [.ref 188, iv a, iv b, iv (i3 + 1), iv i4, iv i5]) (st' := [iv i5, iv a]) rfl rfl ?_
      refine wAdd ?_
      refine wP (ls' := [.ref 188, iv a, iv b, iv (i3 + 1), iv i4, iv i5]) (st' := [iv b, iv (a + i5)]) rfl rfl ?_
      refine wIfc (n1 := 9) rfl bk_64_9 bk_64_7 (by omega) (by omega) (fun g0 => ?_) (fun g0 => ?_)
      · replace g0 : ¬ (a + i5) = b := g0
        refine wP (ls' := [.ref 188, iv a, iv b, iv (i3 + 1), iv i4, iv i5]) (st' := [iv i4]) rfl rfl ?_
        refine wP (ls' := [.ref 188, iv a, iv b, iv (i3 + 1), iv i4, iv i5]) (st' := [iv 1, iv i4]) rfl rfl ?_
        refine wAdd ?_
        refine wP (ls' := [.ref 188, iv a, iv b, iv (i3 + 1), iv (i4 + 1), iv i5]) (st' := []) rfl rfl ?_
        refine zW_fall bk_64_10 ?_
        exact h64_sk hk hw hm (fun i4 i5 q => ih (m + 1) (i3 + 1) i4 (iv i5) (by omega) (by omega) q) (gSp.getD (m + 1) 0) (i4 + 1) i5 (by omega) (by omega) (by omega)
      · replace g0 : ¬ (¬ (a + i5) = b) := g0
        refine wP (ls' := [.ref 188, iv a, iv b, iv (i3 + 1), iv i4, iv i5]) (st' := [.ref 188]) rfl rfl ?_
        refine wGetR hk (r := 203) (by decide +kernel) ?_
        refine wP (ls' := [.ref 188, iv a, iv b, iv (i3 + 1), iv i4, iv i5]) (st' := [iv i4, .ref 203]) rfl rfl ?_
        refine wP (ls' := [.ref 188, iv a, iv b, iv (i3 + 1), iv i4, iv i5]) (st' := [iv 1, iv i4, .ref 203]) rfl rfl ?_
        refine wAdd ?_
        refine wP (ls' := [.ref 188, iv a, iv b, iv (i3 + 1), iv i4, iv i5]) (st' := [iv i5, iv (i4 + 1), .ref 203]) rfl rfl ?_
        refine wAdd ?_
        refine wIld hk (l := 156) (e := (M 203 (((i4 + 1) + i5)).toNat).toInt) (by decide +kernel) (by omega) (by omega) (iE _) ?_
        refine wP (ls' := [.ref 188, iv a, iv b, iv (i3 + 1), iv i4, iv i5]) (st' := [iv 32, iv (M 203 (((i4 + 1) + i5)).toNat).toInt]) rfl rfl ?_
        refine wIfc (n1 := 9) rfl bk_64_9 bk_64_8 (by first | exact iG _ | omega) (by omega) (fun g1 => ?_) (fun g1 => ?_)
        · replace g1 : ¬ (M 203 (((i4 + 1) + i5)).toNat).toInt = 32 := g1
          refine wP (ls' := [.ref 188, iv a, iv b, iv (i3 + 1), iv i4, iv i5]) (st' := [iv i4]) rfl rfl ?_
          refine wP (ls' := [.ref 188, iv a, iv b, iv (i3 + 1), iv i4, iv i5]) (st' := [iv 1, iv i4]) rfl rfl ?_
          refine wAdd ?_
          refine wP (ls' := [.ref 188, iv a, iv b, iv (i3 + 1), iv (i4 + 1), iv i5]) (st' := []) rfl rfl ?_
          refine zW_fall bk_64_10 ?_
          exact h64_sk hk hw hm (fun i4 i5 q => ih (m + 1) (i3 + 1) i4 (iv i5) (by omega) (by omega) q) (gSp.getD (m + 1) 0) (i4 + 1) i5 (by omega) (by omega) (by omega)
        · replace g1 : ¬ (¬ (M 203 (((i4 + 1) + i5)).toNat).toInt = 32) := g1
          refine wP (ls' := [.ref 188, iv a, iv b, iv (i3 + 1), iv i4, iv i5]) (st' := [iv (i3 + 1)]) rfl rfl ?_
          exact wIret (Or.inl (by decide +kernel)) ⟨rfl, _, rfl, by omega, by omega⟩
theorem h64 {X : aX} {d : Nat} {k : Nat → aK} (hk : gKs k) {M : Nat → Nat → Int32} {a b : Int} (ha : 0 ≤ a) (hab : a < b) (hb : b ≤ 500) (hw : ∀ j, j < 156 → M 203 j = Int32.ofInt (gWd.getD j 0)) (hl : ∀ j : Nat, a ≤ j → (j : Int) < b → (M 202 j).toInt ≠ 32) :
    zRn X (d + 1) 64 [.ref 188, iv a, iv b] (gH k M) (fun rv h' => h' = gH k M ∧ ∃ e, rv = some (iv e) ∧ -1 ≤ e ∧ e ≤ 28) := by
  refine wEnt (n := 6) (ls := [.ref 188, iv a, iv b, aD, aD, aD]) bk_64_0 (by decide +kernel) rfl rfl rfl ?_
  refine wP (ls' := [.ref 188, iv a, iv b, aD, aD, aD]) (st' := [iv (-1)]) rfl rfl ?_
  refine wP (ls' := [.ref 188, iv a, iv b, iv (-1), aD, aD]) (st' := []) rfl rfl ?_
  refine wP (ls' := [.ref 188, iv a, iv b, iv (-1), aD, aD]) (st' := [iv 0]) rfl rfl ?_
  refine wP (ls' := [.ref 188, iv a, iv b, iv (-1), iv 0, aD]) (st' := []) rfl rfl ?_
  refine zW_fall bk_64_1 ?_
  exact h64_out hk ha hab hb hw hl 29 0 _ _ _ rfl (by omega) rfl
