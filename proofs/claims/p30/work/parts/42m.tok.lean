/-! the reference reads a token, by hand: printed by wip/safe/h65.py -/
theorem bk_42_0 : (aMC 42)[0]? = some [.iload 1, .iload 2, .if_icmp .lt 3] := by decide +kernel
theorem bk_42_1 : (aMC 42)[1]? = some [.iload 1, .iload 3, .if_icmp .gt 3] := by decide +kernel
theorem bk_42_2 : (aMC 42)[2]? = some [.bipush 1, .goto 4] := by decide +kernel
theorem bk_42_3 : (aMC 42)[3]? = some [.bipush 0] := by decide +kernel
theorem bk_42_4 : (aMC 42)[4]? = some [.ireturn] := by decide +kernel
theorem bk_60_0 : (aMC 60)[0]? = some [.iload 1, .aload 0, .getfield 126612096, .if_icmp .ge 2] := by decide +kernel
theorem bk_60_1 : (aMC 60)[1]? = some [.aload 0, .getfield 126512094, .iload 1, .iaload, .goto 3] := by decide +kernel
theorem bk_60_2 : (aMC 60)[2]? = some [.bipush (-1)] := by decide +kernel
theorem bk_60_3 : (aMC 60)[3]? = some [.ireturn] := by decide +kernel
theorem bk_61_0 : (aMC 61)[0]? = some [.aload 0, .iload 1, .bipush 97, .bipush 122, .invokevirtual 1492042, .ifCond .ne 2] := by decide +kernel
theorem bk_61_1 : (aMC 61)[1]? = some [.aload 0, .iload 1, .bipush 65, .bipush 90, .invokevirtual 1492042, .ifCond .eq 3] := by decide +kernel
theorem bk_61_2 : (aMC 61)[2]? = some [.bipush 1, .goto 4] := by decide +kernel
theorem bk_61_3 : (aMC 61)[3]? = some [.bipush 0] := by decide +kernel
theorem bk_61_4 : (aMC 61)[4]? = some [.ireturn] := by decide +kernel
theorem bk_62_0 : (aMC 62)[0]? = some [.aload 0, .iload 1, .bipush 48, .bipush 57, .invokevirtual 1492042, .ireturn] := by decide +kernel
theorem bk_63_0 : (aMC 63)[0]? = some [.iload 1, .bipush 59, .if_icmp .eq 10] := by decide +kernel
theorem bk_63_1 : (aMC 63)[1]? = some [.iload 1, .bipush 43, .if_icmp .eq 10] := by decide +kernel
theorem bk_63_2 : (aMC 63)[2]? = some [.iload 1, .bipush 45, .if_icmp .eq 10] := by decide +kernel
theorem bk_63_3 : (aMC 63)[3]? = some [.iload 1, .bipush 42, .if_icmp .eq 10] := by decide +kernel
theorem bk_63_4 : (aMC 63)[4]? = some [.iload 1, .bipush 47, .if_icmp .eq 10] := by decide +kernel
theorem bk_63_5 : (aMC 63)[5]? = some [.iload 1, .bipush 40, .if_icmp .eq 10] := by decide +kernel
theorem bk_63_6 : (aMC 63)[6]? = some [.iload 1, .bipush 41, .if_icmp .eq 10] := by decide +kernel
theorem bk_63_7 : (aMC 63)[7]? = some [.iload 1, .bipush 60, .if_icmp .eq 10] := by decide +kernel
theorem bk_63_8 : (aMC 63)[8]? = some [.iload 1, .bipush 61, .if_icmp .eq 10] := by decide +kernel
theorem bk_63_9 : (aMC 63)[9]? = some [.iload 1, .bipush 62, .if_icmp .ne 11] := by decide +kernel
theorem bk_63_10 : (aMC 63)[10]? = some [.bipush 1, .goto 12] := by decide +kernel
theorem bk_63_11 : (aMC 63)[11]? = some [.bipush 0] := by decide +kernel
theorem bk_63_12 : (aMC 63)[12]? = some [.ireturn] := by decide +kernel
theorem bk_64_0 : (aMC 64)[0]? = some [.bipush (-1), .istore 3, .bipush 0, .istore 4] := by decide +kernel
theorem bk_64_1 : (aMC 64)[1]? = some [.iload 4, .bipush 155, .if_icmp .ge 13] := by decide +kernel
theorem bk_64_2 : (aMC 64)[2]? = some [.bipush 0, .istore 5, .iload 3, .bipush 1, .iadd, .istore 3] := by decide +kernel
theorem bk_64_3 : (aMC 64)[3]? = some [.iload 1, .iload 5, .iadd, .iload 2, .if_icmp .ge 6] := by decide +kernel
theorem bk_64_4 : (aMC 64)[4]? = some [.aload 0, .getfield 127112118, .iload 4, .bipush 1, .iadd, .iload 5, .iadd, .iaload, .aload 0, .getfield 126512094, .iload 1, .iload 5, .iadd, .iaload, .if_icmp .ne 6] := by decide +kernel
theorem bk_64_5 : (aMC 64)[5]? = some [.iload 5, .bipush 1, .iadd, .istore 5, .goto 3] := by decide +kernel
theorem bk_64_6 : (aMC 64)[6]? = some [.iload 1, .iload 5, .iadd, .iload 2, .if_icmp .ne 9] := by decide +kernel
theorem bk_64_7 : (aMC 64)[7]? = some [.aload 0, .getfield 127112118, .iload 4, .bipush 1, .iadd, .iload 5, .iadd, .iaload, .bipush 32, .if_icmp .ne 9] := by decide +kernel
theorem bk_64_8 : (aMC 64)[8]? = some [.iload 3, .ireturn] := by decide +kernel
theorem bk_64_9 : (aMC 64)[9]? = some [.iload 4, .bipush 1, .iadd, .istore 4] := by decide +kernel
theorem bk_64_10 : (aMC 64)[10]? = some [.aload 0, .getfield 127112118, .iload 4, .iaload, .bipush 32, .if_icmp .eq 12] := by decide +kernel
theorem bk_64_11 : (aMC 64)[11]? = some [.iload 4, .bipush 1, .iadd, .istore 4, .goto 10] := by decide +kernel
theorem bk_64_12 : (aMC 64)[12]? = some [.goto 1] := by decide +kernel
theorem bk_64_13 : (aMC 64)[13]? = some [.bipush (-1), .ireturn] := by decide +kernel
theorem bk_67_0 : (aMC 67)[0]? = some [.aload 0, .getfield 126912108, .bipush 2, .if_icmp .ne 3] := by decide +kernel
theorem bk_67_1 : (aMC 67)[1]? = some [.aload 0, .getfield 127012112, .iload 1, .if_icmp .ne 3] := by decide +kernel
theorem bk_67_2 : (aMC 67)[2]? = some [.bipush 1, .goto 4] := by decide +kernel
theorem bk_67_3 : (aMC 67)[3]? = some [.bipush 0] := by decide +kernel
theorem bk_67_4 : (aMC 67)[4]? = some [.ireturn] := by decide +kernel
theorem bk_68_0 : (aMC 68)[0]? = some [.aload 0, .getfield 126912108, .bipush 4, .if_icmp .ne 3] := by decide +kernel
theorem bk_68_1 : (aMC 68)[1]? = some [.aload 0, .getfield 127012112, .iload 1, .if_icmp .ne 3] := by decide +kernel
theorem bk_68_2 : (aMC 68)[2]? = some [.bipush 1, .goto 4] := by decide +kernel
theorem bk_68_3 : (aMC 68)[3]? = some [.bipush 0] := by decide +kernel
theorem bk_68_4 : (aMC 68)[4]? = some [.ireturn] := by decide +kernel
theorem h42 {X : aX} {d : Nat} {k : Nat → aK} (hk : gKs k) {M : Nat → Nat → Int32} {v lo hi : Int} (rv : -2147483648 ≤ v ∧ v ≤ 2147483647) (rl : -2147483648 ≤ lo ∧ lo ≤ 2147483647) (rh : -2147483648 ≤ hi ∧ hi ≤ 2147483647) :
    zRn X (d + 1) 42 [.ref 188, iv v, iv lo, iv hi] (gH k M) (fun rv h' => h' = gH k M ∧ ∃ e, rv = some (iv e) ∧ ((e = 1 ∧ lo ≤ v ∧ v ≤ hi) ∨ (e = 0 ∧ (v < lo ∨ hi < v)))) := by
  refine wEnt (n := 4) (ls := [.ref 188, iv v, iv lo, iv hi]) bk_42_0 (by decide +kernel) rfl rfl rfl ?_
  refine wP (ls' := [.ref 188, iv v, iv lo, iv hi]) (st' := [iv v]) rfl rfl ?_
  refine wP (ls' := [.ref 188, iv v, iv lo, iv hi]) (st' := [iv lo, iv v]) rfl rfl ?_
  refine wIfc (n1 := 3) rfl bk_42_3 bk_42_1 (by omega) (by omega) (fun g0 => ?_) (fun g0 => ?_)
  · replace g0 : v < lo := g0
    refine wP (ls' := [.ref 188, iv v, iv lo, iv hi]) (st' := [iv 0]) rfl rfl ?_
    refine zW_fall bk_42_4 ?_
    exact wIret (Or.inr ⟨by decide +kernel, by omega⟩) ⟨rfl, _, rfl, by omega⟩
  · replace g0 : ¬ (v < lo) := g0
    refine wP (ls' := [.ref 188, iv v, iv lo, iv hi]) (st' := [iv v]) rfl rfl ?_
    refine wP (ls' := [.ref 188, iv v, iv lo, iv hi]) (st' := [iv hi, iv v]) rfl rfl ?_
    refine wIfc (n1 := 3) rfl bk_42_3 bk_42_2 (by omega) (by omega) (fun g1 => ?_) (fun g1 => ?_)
    · replace g1 : hi < v := g1
      refine wP (ls' := [.ref 188, iv v, iv lo, iv hi]) (st' := [iv 0]) rfl rfl ?_
      refine zW_fall bk_42_4 ?_
      exact wIret (Or.inr ⟨by decide +kernel, by omega⟩) ⟨rfl, _, rfl, by omega⟩
    · replace g1 : ¬ (hi < v) := g1
      refine wP (ls' := [.ref 188, iv v, iv lo, iv hi]) (st' := [iv 1]) rfl rfl ?_
      refine wGoto (n1 := 4) rfl bk_42_4 ?_
      exact wIret (Or.inr ⟨by decide +kernel, by omega⟩) ⟨rfl, _, rfl, by omega⟩
theorem h60 {X : aX} {d : Nat} {k : Nat → aK} (hk : gKs k) {M : Nat → Nat → Int32} {j : Int} (hj : 0 ≤ j ∧ j ≤ 500) (ht : (M 188 24).toInt ≤ 500) :
    zRn X (d + 1) 60 [.ref 188, iv j] (gH k M) (fun rv h' => h' = gH k M ∧ ∃ e, rv = some (iv e) ∧ ((j < (M 188 24).toInt ∧ e = (M 202 (j).toNat).toInt) ∨ (¬ j < (M 188 24).toInt ∧ e = -1))) := by
  refine wEnt (n := 2) (ls := [.ref 188, iv j]) bk_60_0 (by decide +kernel) rfl rfl rfl ?_
  refine wP (ls' := [.ref 188, iv j]) (st' := [iv j]) rfl rfl ?_
  refine wP (ls' := [.ref 188, iv j]) (st' := [.ref 188, iv j]) rfl rfl ?_
  refine wGetN hk (f := 24) (e := (M 188 24).toInt) (by decide +kernel) (iE _) ?_
  refine wIfc (n1 := 2) rfl bk_60_2 bk_60_1 (by omega) (by first | exact iG _ | omega) (fun g0 => ?_) (fun g0 => ?_)
  · replace g0 : (M 188 24).toInt ≤ j := g0
    refine wP (ls' := [.ref 188, iv j]) (st' := [iv (-1)]) rfl rfl ?_
    refine zW_fall bk_60_3 ?_
    exact wIret (Or.inl (by decide +kernel)) ⟨rfl, _, rfl, by first | exact Or.inl ⟨by omega, rfl⟩ | exact Or.inr ⟨by omega, rfl⟩⟩
  · replace g0 : ¬ ((M 188 24).toInt ≤ j) := g0
    refine wP (ls' := [.ref 188, iv j]) (st' := [.ref 188]) rfl rfl ?_
    refine wGetR hk (r := 202) (by decide +kernel) ?_
    refine wP (ls' := [.ref 188, iv j]) (st' := [iv j, .ref 202]) rfl rfl ?_
    refine wIld hk (l := 500) (e := (M 202 (j).toNat).toInt) (by decide +kernel) (by omega) (by omega) (iE _) ?_
    refine wGoto (n1 := 3) rfl bk_60_3 ?_
    exact wIret (Or.inl (by decide +kernel)) ⟨rfl, _, rfl, by first | exact Or.inl ⟨by omega, rfl⟩ | exact Or.inr ⟨by omega, rfl⟩⟩
theorem h61 {X : aX} {d : Nat} {k : Nat → aK} (hk : gKs k) {M : Nat → Nat → Int32} {c : Int} (rc : -2147483648 ≤ c ∧ c ≤ 2147483647) :
    zRn X (d + 1 + 1) 61 [.ref 188, iv c] (gH k M) (fun rv h' => h' = gH k M ∧ ∃ e, rv = some (iv e) ∧ ((e = 1 ∧ (97 ≤ c ∧ c ≤ 122 ∨ 65 ≤ c ∧ c ≤ 90)) ∨ (e = 0 ∧ ¬ (97 ≤ c ∧ c ≤ 122 ∨ 65 ≤ c ∧ c ≤ 90)))) := by
  refine wEnt (n := 2) (ls := [.ref 188, iv c]) bk_61_0 (by decide +kernel) rfl rfl rfl ?_
  refine wP (ls' := [.ref 188, iv c]) (st' := [.ref 188]) rfl rfl ?_
  refine wP (ls' := [.ref 188, iv c]) (st' := [iv c, .ref 188]) rfl rfl ?_
  refine wP (ls' := [.ref 188, iv c]) (st' := [iv 97, iv c, .ref 188]) rfl rfl ?_
  refine wP (ls' := [.ref 188, iv c]) (st' := [iv 122, iv 97, iv c, .ref 188]) rfl rfl ?_
  refine wCall hk (q := 42) (na := 3) (a := 188) (as := [iv c, iv 97, iv 122]) (t := []) rfl (by decide +kernel) (by decide) (by decide +kernel) (Nat.le_of_ble_eq_true rfl) rfl rfl (zRn.mono (h42 hk (by omega) (by omega) (by omega)) (fun rv h' hq => ?_))
  obtain ⟨rfl, e0_5, rfl, h0_5⟩ := hq
  refine ⟨rfl, ?_⟩
  show zW X _ 61 0 [.ifCond .ne 2] [.ref 188, iv c] [iv e0_5] (gH k M) _
  refine wIf0 (n1 := 2) rfl bk_61_2 bk_61_1 (by omega) (fun g0 => ?_) (fun g0 => ?_)
  · replace g0 : ¬ e0_5 = 0 := g0
    refine wP (ls' := [.ref 188, iv c]) (st' := [iv 1]) rfl rfl ?_
    refine wGoto (n1 := 4) rfl bk_61_4 ?_
    exact wIret (Or.inr ⟨by decide +kernel, by omega⟩) ⟨rfl, _, rfl, by omega⟩
  · replace g0 : ¬ (¬ e0_5 = 0) := g0
    refine wP (ls' := [.ref 188, iv c]) (st' := [.ref 188]) rfl rfl ?_
    refine wP (ls' := [.ref 188, iv c]) (st' := [iv c, .ref 188]) rfl rfl ?_
    refine wP (ls' := [.ref 188, iv c]) (st' := [iv 65, iv c, .ref 188]) rfl rfl ?_
    refine wP (ls' := [.ref 188, iv c]) (st' := [iv 90, iv 65, iv c, .ref 188]) rfl rfl ?_
    refine wCall hk (q := 42) (na := 3) (a := 188) (as := [iv c, iv 65, iv 90]) (t := []) rfl (by decide +kernel) (by decide) (by decide +kernel) (Nat.le_of_ble_eq_true rfl) rfl rfl (zRn.mono (h42 hk (by omega) (by omega) (by omega)) (fun rv h' hq => ?_))
    obtain ⟨rfl, e1_5, rfl, h1_5⟩ := hq
    refine ⟨rfl, ?_⟩
    show zW X _ 61 1 [.ifCond .eq 3] [.ref 188, iv c] [iv e1_5] (gH k M) _
    refine wIf0 (n1 := 3) rfl bk_61_3 bk_61_2 (by omega) (fun g1 => ?_) (fun g1 => ?_)
    · replace g1 : e1_5 = 0 := g1
      refine wP (ls' := [.ref 188, iv c]) (st' := [iv 0]) rfl rfl ?_
      refine zW_fall bk_61_4 ?_
      exact wIret (Or.inr ⟨by decide +kernel, by omega⟩) ⟨rfl, _, rfl, by omega⟩
    · replace g1 : ¬ (e1_5 = 0) := g1
      refine wP (ls' := [.ref 188, iv c]) (st' := [iv 1]) rfl rfl ?_
      refine wGoto (n1 := 4) rfl bk_61_4 ?_
      exact wIret (Or.inr ⟨by decide +kernel, by omega⟩) ⟨rfl, _, rfl, by omega⟩
theorem h62 {X : aX} {d : Nat} {k : Nat → aK} (hk : gKs k) {M : Nat → Nat → Int32} {c : Int} (rc : -2147483648 ≤ c ∧ c ≤ 2147483647) :
    zRn X (d + 1 + 1) 62 [.ref 188, iv c] (gH k M) (fun rv h' => h' = gH k M ∧ ∃ e, rv = some (iv e) ∧ ((e = 1 ∧ 48 ≤ c ∧ c ≤ 57) ∨ (e = 0 ∧ ¬ (48 ≤ c ∧ c ≤ 57)))) := by
  refine wEnt (n := 2) (ls := [.ref 188, iv c]) bk_62_0 (by decide +kernel) rfl rfl rfl ?_
  refine wP (ls' := [.ref 188, iv c]) (st' := [.ref 188]) rfl rfl ?_
  refine wP (ls' := [.ref 188, iv c]) (st' := [iv c, .ref 188]) rfl rfl ?_
  refine wP (ls' := [.ref 188, iv c]) (st' := [iv 48, iv c, .ref 188]) rfl rfl ?_
  refine wP (ls' := [.ref 188, iv c]) (st' := [iv 57, iv 48, iv c, .ref 188]) rfl rfl ?_
  refine wCall hk (q := 42) (na := 3) (a := 188) (as := [iv c, iv 48, iv 57]) (t := []) rfl (by decide +kernel) (by decide) (by decide +kernel) (Nat.le_of_ble_eq_true rfl) rfl rfl (zRn.mono (h42 hk (by omega) (by omega) (by omega)) (fun rv h' hq => ?_))
  obtain ⟨rfl, e0_5, rfl, h0_5⟩ := hq
  refine ⟨rfl, ?_⟩
  show zW X _ 62 0 [.ireturn] [.ref 188, iv c] [iv e0_5] (gH k M) _
  exact wIret (Or.inr ⟨by decide +kernel, by omega⟩) ⟨rfl, _, rfl, by omega⟩
theorem h63 {X : aX} {d : Nat} {k : Nat → aK} (hk : gKs k) {M : Nat → Nat → Int32} {c : Int} (rc : -2147483648 ≤ c ∧ c ≤ 2147483647) :
    zRn X (d + 1) 63 [.ref 188, iv c] (gH k M) (fun rv h' => h' = gH k M ∧ ∃ e, rv = some (iv e) ∧ ((e = 1 ∧ (c = 59 ∨ c = 43 ∨ c = 45 ∨ c = 42 ∨ c = 47 ∨ c = 40 ∨ c = 41 ∨ c = 60 ∨ c = 61 ∨ c = 62)) ∨ (e = 0 ∧ ¬ (c = 59 ∨ c = 43 ∨ c = 45 ∨ c = 42 ∨ c = 47 ∨ c = 40 ∨ c = 41 ∨ c = 60 ∨ c = 61 ∨ c = 62)))) := by
  refine wEnt (n := 2) (ls := [.ref 188, iv c]) bk_63_0 (by decide +kernel) rfl rfl rfl ?_
  refine wP (ls' := [.ref 188, iv c]) (st' := [iv c]) rfl rfl ?_
  refine wP (ls' := [.ref 188, iv c]) (st' := [iv 59, iv c]) rfl rfl ?_
  refine wIfc (n1 := 10) rfl bk_63_10 bk_63_1 (by omega) (by omega) (fun g0 => ?_) (fun g0 => ?_)
  · replace g0 : c = 59 := g0
    refine wP (ls' := [.ref 188, iv c]) (st' := [iv 1]) rfl rfl ?_
    refine wGoto (n1 := 12) rfl bk_63_12 ?_
    exact wIret (Or.inr ⟨by decide +kernel, by omega⟩) ⟨rfl, _, rfl, by omega⟩
  · replace g0 : ¬ (c = 59) := g0
    refine wP (ls' := [.ref 188, iv c]) (st' := [iv c]) rfl rfl ?_
    refine wP (ls' := [.ref 188, iv c]) (st' := [iv 43, iv c]) rfl rfl ?_
    refine wIfc (n1 := 10) rfl bk_63_10 bk_63_2 (by omega) (by omega) (fun g1 => ?_) (fun g1 => ?_)
    · replace g1 : c = 43 := g1
      refine wP (ls' := [.ref 188, iv c]) (st' := [iv 1]) rfl rfl ?_
      refine wGoto (n1 := 12) rfl bk_63_12 ?_
      exact wIret (Or.inr ⟨by decide +kernel, by omega⟩) ⟨rfl, _, rfl, by omega⟩
    · replace g1 : ¬ (c = 43) := g1
      refine wP (ls' := [.ref 188, iv c]) (st' := [iv c]) rfl rfl ?_
      refine wP (ls' := [.ref 188, iv c]) (st' := [iv 45, iv c]) rfl rfl ?_
      refine wIfc (n1 := 10) rfl bk_63_10 bk_63_3 (by omega) (by omega) (fun g2 => ?_) (fun g2 => ?_)
      · replace g2 : c = 45 := g2
        refine wP (ls' := [.ref 188, iv c]) (st' := [iv 1]) rfl rfl ?_
        refine wGoto (n1 := 12) rfl bk_63_12 ?_
        exact wIret (Or.inr ⟨by decide +kernel, by omega⟩) ⟨rfl, _, rfl, by omega⟩
      · replace g2 : ¬ (c = 45) := g2
        refine wP (ls' := [.ref 188, iv c]) (st' := [iv c]) rfl rfl ?_
        refine wP (ls' := [.ref 188, iv c]) (st' := [iv 42, iv c]) rfl rfl ?_
        refine wIfc (n1 := 10) rfl bk_63_10 bk_63_4 (by omega) (by omega) (fun g3 => ?_) (fun g3 => ?_)
        · replace g3 : c = 42 := g3
          refine wP (ls' := [.ref 188, iv c]) (st' := [iv 1]) rfl rfl ?_
          refine wGoto (n1 := 12) rfl bk_63_12 ?_
          exact wIret (Or.inr ⟨by decide +kernel, by omega⟩) ⟨rfl, _, rfl, by omega⟩
        · replace g3 : ¬ (c = 42) := g3
          refine wP (ls' := [.ref 188, iv c]) (st' := [iv c]) rfl rfl ?_
          refine wP (ls' := [.ref 188, iv c]) (st' := [iv 47, iv c]) rfl rfl ?_
          refine wIfc (n1 := 10) rfl bk_63_10 bk_63_5 (by omega) (by omega) (fun g4 => ?_) (fun g4 => ?_)
          · replace g4 : c = 47 := g4
            refine wP (ls' := [.ref 188, iv c]) (st' := [iv 1]) rfl rfl ?_
            refine wGoto (n1 := 12) rfl bk_63_12 ?_
            exact wIret (Or.inr ⟨by decide +kernel, by omega⟩) ⟨rfl, _, rfl, by omega⟩
          · replace g4 : ¬ (c = 47) := g4
            refine wP (ls' := [.ref 188, iv c]) (st' := [iv c]) rfl rfl ?_
            refine wP (ls' := [.ref 188, iv c]) (st' := [iv 40, iv c]) rfl rfl ?_
            refine wIfc (n1 := 10) rfl bk_63_10 bk_63_6 (by omega) (by omega) (fun g5 => ?_) (fun g5 => ?_)
            · replace g5 : c = 40 := g5
              refine wP (ls' := [.ref 188, iv c]) (st' := [iv 1]) rfl rfl ?_
              refine wGoto (n1 := 12) rfl bk_63_12 ?_
              exact wIret (Or.inr ⟨by decide +kernel, by omega⟩) ⟨rfl, _, rfl, by omega⟩
            · replace g5 : ¬ (c = 40) := g5
              refine wP (ls' := [.ref 188, iv c]) (st' := [iv c]) rfl rfl ?_
              refine wP (ls' := [.ref 188, iv c]) (st' := [iv 41, iv c]) rfl rfl ?_
              refine wIfc (n1 := 10) rfl bk_63_10 bk_63_7 (by omega) (by omega) (fun g6 => ?_) (fun g6 => ?_)
              · replace g6 : c = 41 := g6
                refine wP (ls' := [.ref 188, iv c]) (st' := [iv 1]) rfl rfl ?_
                refine wGoto (n1 := 12) rfl bk_63_12 ?_
                exact wIret (Or.inr ⟨by decide +kernel, by omega⟩) ⟨rfl, _, rfl, by omega⟩
              · replace g6 : ¬ (c = 41) := g6
                refine wP (ls' := [.ref 188, iv c]) (st' := [iv c]) rfl rfl ?_
                refine wP (ls' := [.ref 188, iv c]) (st' := [iv 60, iv c]) rfl rfl ?_
                refine wIfc (n1 := 10) rfl bk_63_10 bk_63_8 (by omega) (by omega) (fun g7 => ?_) (fun g7 => ?_)
                · replace g7 : c = 60 := g7
                  refine wP (ls' := [.ref 188, iv c]) (st' := [iv 1]) rfl rfl ?_
                  refine wGoto (n1 := 12) rfl bk_63_12 ?_
                  exact wIret (Or.inr ⟨by decide +kernel, by omega⟩) ⟨rfl, _, rfl, by omega⟩
                · replace g7 : ¬ (c = 60) := g7
                  refine wP (ls' := [.ref 188, iv c]) (st' := [iv c]) rfl rfl ?_
                  refine wP (ls' := [.ref 188, iv c]) (st' := [iv 61, iv c]) rfl rfl ?_
                  refine wIfc (n1 := 10) rfl bk_63_10 bk_63_9 (by omega) (by omega) (fun g8 => ?_) (fun g8 => ?_)
                  · replace g8 : c = 61 := g8
                    refine wP (ls' := [.ref 188, iv c]) (st' := [iv 1]) rfl rfl ?_
                    refine wGoto (n1 := 12) rfl bk_63_12 ?_
                    exact wIret (Or.inr ⟨by decide +kernel, by omega⟩) ⟨rfl, _, rfl, by omega⟩
                  · replace g8 : ¬ (c = 61) := g8
                    refine wP (ls' := [.ref 188, iv c]) (st' := [iv c]) rfl rfl ?_
                    refine wP (ls' := [.ref 188, iv c]) (st' := [iv 62, iv c]) rfl rfl ?_
                    refine wIfc (n1 := 11) rfl bk_63_11 bk_63_10 (by omega) (by omega) (fun g9 => ?_) (fun g9 => ?_)
                    · replace g9 : ¬ c = 62 := g9
                      refine wP (ls' := [.ref 188, iv c]) (st' := [iv 0]) rfl rfl ?_
                      refine zW_fall bk_63_12 ?_
                      exact wIret (Or.inr ⟨by decide +kernel, by omega⟩) ⟨rfl, _, rfl, by omega⟩
                    · replace g9 : ¬ (¬ c = 62) := g9
                      refine wP (ls' := [.ref 188, iv c]) (st' := [iv 1]) rfl rfl ?_
                      refine wGoto (n1 := 12) rfl bk_63_12 ?_
                      exact wIret (Or.inr ⟨by decide +kernel, by omega⟩) ⟨rfl, _, rfl, by omega⟩
theorem h67 {X : aX} {d : Nat} {k : Nat → aK} (hk : gKs k) {M : Nat → Nat → Int32} {c : Int} (rc : -2147483648 ≤ c ∧ c ≤ 2147483647) :
    zRn X (d + 1) 67 [.ref 188, iv c] (gH k M) (fun rv h' => h' = gH k M ∧ ∃ e, rv = some (iv e) ∧ ((e = 1 ∧ (M 188 27).toInt = 2 ∧ (M 188 28).toInt = c) ∨ (e = 0 ∧ ¬ ((M 188 27).toInt = 2 ∧ (M 188 28).toInt = c)))) := by
  refine wEnt (n := 2) (ls := [.ref 188, iv c]) bk_67_0 (by decide +kernel) rfl rfl rfl ?_
  refine wP (ls' := [.ref 188, iv c]) (st' := [.ref 188]) rfl rfl ?_
  refine wGetN hk (f := 27) (e := (M 188 27).toInt) (by decide +kernel) (iE _) ?_
  refine wP (ls' := [.ref 188, iv c]) (st' := [iv 2, iv (M 188 27).toInt]) rfl rfl ?_
  refine wIfc (n1 := 3) rfl bk_67_3 bk_67_1 (by first | exact iG _ | omega) (by omega) (fun g0 => ?_) (fun g0 => ?_)
  · replace g0 : ¬ (M 188 27).toInt = 2 := g0
    refine wP (ls' := [.ref 188, iv c]) (st' := [iv 0]) rfl rfl ?_
    refine zW_fall bk_67_4 ?_
    exact wIret (Or.inr ⟨by decide +kernel, by omega⟩) ⟨rfl, _, rfl, by omega⟩
  · replace g0 : ¬ (¬ (M 188 27).toInt = 2) := g0
    refine wP (ls' := [.ref 188, iv c]) (st' := [.ref 188]) rfl rfl ?_
    refine wGetN hk (f := 28) (e := (M 188 28).toInt) (by decide +kernel) (iE _) ?_
    refine wP (ls' := [.ref 188, iv c]) (st' := [iv c, iv (M 188 28).toInt]) rfl rfl ?_
    refine wIfc (n1 := 3) rfl bk_67_3 bk_67_2 (by first | exact iG _ | omega) (by omega) (fun g1 => ?_) (fun g1 => ?_)
    · replace g1 : ¬ (M 188 28).toInt = c := g1
      refine wP (ls' := [.ref 188, iv c]) (st' := [iv 0]) rfl rfl ?_
      refine zW_fall bk_67_4 ?_
      exact wIret (Or.inr ⟨by decide +kernel, by omega⟩) ⟨rfl, _, rfl, by omega⟩
    · replace g1 : ¬ (¬ (M 188 28).toInt = c) := g1
      refine wP (ls' := [.ref 188, iv c]) (st' := [iv 1]) rfl rfl ?_
      refine wGoto (n1 := 4) rfl bk_67_4 ?_
      exact wIret (Or.inr ⟨by decide +kernel, by omega⟩) ⟨rfl, _, rfl, by omega⟩
theorem h68 {X : aX} {d : Nat} {k : Nat → aK} (hk : gKs k) {M : Nat → Nat → Int32} {c : Int} (rc : -2147483648 ≤ c ∧ c ≤ 2147483647) :
    zRn X (d + 1) 68 [.ref 188, iv c] (gH k M) (fun rv h' => h' = gH k M ∧ ∃ e, rv = some (iv e) ∧ ((e = 1 ∧ (M 188 27).toInt = 4 ∧ (M 188 28).toInt = c) ∨ (e = 0 ∧ ¬ ((M 188 27).toInt = 4 ∧ (M 188 28).toInt = c)))) := by
  refine wEnt (n := 2) (ls := [.ref 188, iv c]) bk_68_0 (by decide +kernel) rfl rfl rfl ?_
  refine wP (ls' := [.ref 188, iv c]) (st' := [.ref 188]) rfl rfl ?_
  refine wGetN hk (f := 27) (e := (M 188 27).toInt) (by decide +kernel) (iE _) ?_
  refine wP (ls' := [.ref 188, iv c]) (st' := [iv 4, iv (M 188 27).toInt]) rfl rfl ?_
  refine wIfc (n1 := 3) rfl bk_68_3 bk_68_1 (by first | exact iG _ | omega) (by omega) (fun g0 => ?_) (fun g0 => ?_)
  · replace g0 : ¬ (M 188 27).toInt = 4 := g0
    refine wP (ls' := [.ref 188, iv c]) (st' := [iv 0]) rfl rfl ?_
    refine zW_fall bk_68_4 ?_
    exact wIret (Or.inr ⟨by decide +kernel, by omega⟩) ⟨rfl, _, rfl, by omega⟩
  · replace g0 : ¬ (¬ (M 188 27).toInt = 4) := g0
    refine wP (ls' := [.ref 188, iv c]) (st' := [.ref 188]) rfl rfl ?_
    refine wGetN hk (f := 28) (e := (M 188 28).toInt) (by decide +kernel) (iE _) ?_
    refine wP (ls' := [.ref 188, iv c]) (st' := [iv c, iv (M 188 28).toInt]) rfl rfl ?_
    refine wIfc (n1 := 3) rfl bk_68_3 bk_68_2 (by first | exact iG _ | omega) (by omega) (fun g1 => ?_) (fun g1 => ?_)
    · replace g1 : ¬ (M 188 28).toInt = c := g1
      refine wP (ls' := [.ref 188, iv c]) (st' := [iv 0]) rfl rfl ?_
      refine zW_fall bk_68_4 ?_
      exact wIret (Or.inr ⟨by decide +kernel, by omega⟩) ⟨rfl, _, rfl, by omega⟩
    · replace g1 : ¬ (¬ (M 188 28).toInt = c) := g1
      refine wP (ls' := [.ref 188, iv c]) (st' := [iv 1]) rfl rfl ?_
      refine wGoto (n1 := 4) rfl bk_68_4 ?_
      exact wIret (Or.inr ⟨by decide +kernel, by omega⟩) ⟨rfl, _, rfl, by omega⟩
def gSp : List Nat := [0, 4, 10, 15, 20, 24, 29, 35, 43, 50, 59, 64, 69, 72, 76, 80, 85, 91, 95, 100, 105, 109, 114, 122, 127, 132, 139, 143, 150, 155]
theorem gSp_ok : ∀ m, m < 29 → gSp.getD m 0 < gSp.getD (m + 1) 0 ∧ gSp.getD (m + 1) 0 ≤ 155 ∧ (gWd.getD (gSp.getD (m + 1) 0) 0 = 32) ∧ ∀ j, j < 156 → gSp.getD m 0 < j → j < gSp.getD (m + 1) 0 → gWd.getD j 0 ≠ 32 := by decide +kernel
theorem gSp_lt : ∀ m, m < 29 → gSp.getD m 0 < 155 := by decide +kernel
theorem gSp_up : ∀ m, m < 29 → gSp.getD m 0 < gSp.getD (m + 1) 0 := by decide +kernel
theorem h64_in {X : aX} {d : Nat} {k : Nat → aK} (hk : gKs k) {M : Nat → Nat → Int32} {a b : Int} (ha : 0 ≤ a) (hab : a < b) (hb : b ≤ 500) (hw : ∀ j, j < 156 → M 203 j = Int32.ofInt (gWd.getD j 0)) (hl : ∀ j : Nat, a ≤ j → (j : Int) < b → (M 202 j).toInt ≠ 32) {m : Nat} (hm : m < 29) {i3 i4 : Int} (h4 : i4 = gSp.getD m 0)
    (hx : ∀ i5 : Int, 0 ≤ i5 → i4 + 1 + i5 ≤ gSp.getD (m + 1) 0 → a + i5 ≤ b → zW X d 64 6 [.iload 1, .iload 5, .iadd, .iload 2, .if_icmp .ne 9] [.ref 188, iv a, iv b, iv i3, iv i4, iv i5] [] (gH k M) (fun rv h' => h' = gH k M ∧ ∃ e, rv = some (iv e) ∧ -1 ≤ e ∧ e ≤ 28)) :
    ∀ (n : Nat) (i5 : Int), 0 ≤ i5 → i4 + 1 + i5 ≤ gSp.getD (m + 1) 0 → a + i5 ≤ b → b - (a + i5) ≤ n → zW X d 64 3 [.iload 1, .iload 5, .iadd, .iload 2, .if_icmp .ge 6] [.ref 188, iv a, iv b, iv i3, iv i4, iv i5] [] (gH k M) (fun rv h' => h' = gH k M ∧ ∃ e, rv = some (iv e) ∧ -1 ≤ e ∧ e ≤ 28) := by
  obtain ⟨s1, s2, s3, s4⟩ := gSp_ok m hm
  intro n
  induction n with
  | zero =>
    intro i5 h0 h1 h2 hn
    refine wP (ls' := [.ref 188, iv a, iv b, iv i3, iv i4, iv i5]) (st' := [iv a]) rfl rfl ?_
    refine wP (ls' := [.ref 188, iv a, iv b, iv i3, iv i4, iv i5]) (st' := [iv i5, iv a]) rfl rfl ?_
    refine wAdd ?_
    refine wP (ls' := [.ref 188, iv a, iv b, iv i3, iv i4, iv i5]) (st' := [iv b, iv (a + i5)]) rfl rfl ?_
    refine wIfc (n1 := 6) rfl bk_64_6 bk_64_4 (by omega) (by omega) (fun g0 => ?_) (fun g0 => ?_)
    · replace g0 : b ≤ (a + i5) := g0
      exact hx i5 (by omega) (by omega) (by omega)
    · replace g0 : ¬ (b ≤ (a + i5)) := g0
      exact absurd g0 (by omega)
  | succ n ih =>
    intro i5 h0 h1 h2 hn
    have key : (M 203 (i4 + 1 + i5).toNat).toInt = (M 202 (a + i5).toNat).toInt → a + i5 < b → i4 + 1 + (i5 + 1) ≤ gSp.getD (m + 1) 0 := by
      intro e hlt
      by_cases q : i4 + 1 + i5 = gSp.getD (m + 1) 0
      · exfalso
        have e2 := hw (gSp.getD (m + 1) 0) (by omega)
        rw [s3] at e2
        rw [show (i4 + 1 + i5).toNat = gSp.getD (m + 1) 0 by omega, e2, iR (by omega) (by omega)] at e
        exact hl (a + i5).toNat (by omega) (by omega) e.symm
      · omega
    refine wP (ls' := [.ref 188, iv a, iv b, iv i3, iv i4, iv i5]) (st' := [iv a]) rfl rfl ?_
    refine wP (ls' := [.ref 188, iv a, iv b, iv i3, iv i4, iv i5]) (st' := [iv i5, iv a]) rfl rfl ?_
    refine wAdd ?_
    refine wP (ls' := [.ref 188, iv a, iv b, iv i3, iv i4, iv i5]) (st' := [iv b, iv (a + i5)]) rfl rfl ?_
    refine wIfc (n1 := 6) rfl bk_64_6 bk_64_4 (by omega) (by omega) (fun g0 => ?_) (fun g0 => ?_)
    · replace g0 : b ≤ (a + i5) := g0
      exact hx i5 (by omega) (by omega) (by omega)
    · replace g0 : ¬ (b ≤ (a + i5)) := g0
      refine wP (ls' := [.ref 188, iv a, iv b, iv i3, iv i4, iv i5]) (st' := [.ref 188]) rfl rfl ?_
      refine wGetR hk (r := 203) (by decide +kernel) ?_
      refine wP (ls' := [.ref 188, iv a, iv b, iv i3, iv i4, iv i5]) (st' := [iv i4, .ref 203]) rfl rfl ?_
      refine wP (ls' := [.ref 188, iv a, iv b, iv i3, iv i4, iv i5]) (st' := [iv 1, iv i4, .ref 203]) rfl rfl ?_
      refine wAdd ?_
      refine wP (ls' := [.ref 188, iv a, iv b, iv i3, iv i4, iv i5]) (st' := [iv i5, iv (i4 + 1), .ref 203]) rfl rfl ?_
      refine wAdd ?_
      refine wIld hk (l := 156) (e := (M 203 (((i4 + 1) + i5)).toNat).toInt) (by decide +kernel) (by omega) (by omega) (iE _) ?_
      refine wP (ls' := [.ref 188, iv a, iv b, iv i3, iv i4, iv i5]) (st' := [.ref 188, iv (M 203 (((i4 + 1) + i5)).toNat).toInt]) rfl rfl ?_
      refine wGetR hk (r := 202) (by decide +kernel) ?_
      refine wP (ls' := [.ref 188, iv a, iv b, iv i3, iv i4, iv i5]) (st' := [iv a, .ref 202, iv (M 203 (((i4 + 1) + i5)).toNat).toInt]) rfl rfl ?_
      refine wP (ls' := [.ref 188, iv a, iv b, iv i3, iv i4, iv i5]) (st' := [iv i5, iv a, .ref 202, iv (M 203 (((i4 + 1) + i5)).toNat).toInt]) rfl rfl ?_
      refine wAdd ?_
      refine wIld hk (l := 500) (e := (M 202 ((a + i5)).toNat).toInt) (by decide +kernel) (by omega) (by omega) (iE _) ?_
      refine wIfc (n1 := 6) rfl bk_64_6 bk_64_5 (by first | exact iG _ | omega) (by first | exact iG _ | omega) (fun g1 => ?_) (fun g1 => ?_)
      · replace g1 : ¬ (M 203 (((i4 + 1) + i5)).toNat).toInt = (M 202 ((a + i5)).toNat).toInt := g1
        exact hx i5 (by omega) (by omega) (by omega)
      · replace g1 : ¬ (¬ (M 203 (((i4 + 1) + i5)).toNat).toInt = (M 202 ((a + i5)).toNat).toInt) := g1
        refine wP (ls' := [.ref 188, iv a, iv b, iv i3, iv i4, iv i5]) (st' := [iv i5]) rfl rfl ?_
        refine wP (ls' := [.ref 188, iv a, iv b, iv i3, iv i4, iv i5]) (st' := [iv 1, iv i5]) rfl rfl ?_
        refine wAdd ?_
        refine wP (ls' := [.ref 188, iv a, iv b, iv i3, iv i4, iv (i5 + 1)]) (st' := []) rfl rfl ?_
        refine wGoto (n1 := 3) rfl bk_64_3 ?_
        have kk := key (by omega) (by omega)
        exact ih (i5 + 1) (by omega) (by omega) (by omega) (by omega)
theorem gWd_r : ∀ j, -2147483648 ≤ gWd.getD j 0 ∧ gWd.getD j 0 ≤ 2147483647 := by
  intro j
  by_cases h : j < 156
  · have : ∀ j, j < 156 → (0 ≤ gWd.getD j 0 ∧ gWd.getD j 0 ≤ 127) := by decide +kernel
    have := this j h
    omega
  · rw [List.getD_eq_getElem?_getD, List.getElem?_eq_none (by have : gWd.length = 156 := by decide +kernel
                                                              omega)]
    decide
theorem h64_sk {X : aX} {d : Nat} {k : Nat → aK} (hk : gKs k) {M : Nat → Nat → Int32} {a b : Int} (hw : ∀ j, j < 156 → M 203 j = Int32.ofInt (gWd.getD j 0)) {m : Nat} (hm : m < 29) {i3 : Int}
    (hx : ∀ i4 i5 : Int, i4 = gSp.getD (m + 1) 0 → zW X d 64 1 [.iload 4, .bipush 155, .if_icmp .ge 13] [.ref 188, iv a, iv b, iv i3, iv i4, iv i5] [] (gH k M) (fun rv h' => h' = gH k M ∧ ∃ e, rv = some (iv e) ∧ -1 ≤ e ∧ e ≤ 28)) :
    ∀ (n : Nat) (i4 i5 : Int), (gSp.getD m 0 : Int) < i4 → i4 ≤ gSp.getD (m + 1) 0 → gSp.getD (m + 1) 0 - i4 ≤ n → zW X d 64 10 [.aload 0, .getfield 127112118, .iload 4, .iaload, .bipush 32, .if_icmp .eq 12] [.ref 188, iv a, iv b, iv i3, iv i4, iv i5] [] (gH k M) (fun rv h' => h' = gH k M ∧ ∃ e, rv = some (iv e) ∧ -1 ≤ e ∧ e ≤ 28) := by
  obtain ⟨s1, s2, s3, s4⟩ := gSp_ok m hm
  have hr := gWd_r
  intro n
  induction n with
  | zero =>
    intro i4 i5 h1 h2 hn
    have e4 : i4 = gSp.getD (m + 1) 0 := by omega
    have e5 : (M 203 (i4).toNat).toInt = 32 := by
      have e2 := hw (gSp.getD (m + 1) 0) (by omega)
      rw [s3] at e2
      rw [show (i4).toNat = gSp.getD (m + 1) 0 by omega, e2, iR (by omega) (by omega)]
    refine wP (ls' := [.ref 188, iv a, iv b, iv i3, iv i4, iv i5]) (st' := [.ref 188]) rfl rfl ?_
    refine wGetR hk (r := 203) (by decide +kernel) ?_
    refine wP (ls' := [.ref 188, iv a, iv b, iv i3, iv i4, iv i5]) (st' := [iv i4, .ref 203]) rfl rfl ?_
    refine wIld hk (l := 156) (e := (M 203 (i4).toNat).toInt) (by decide +kernel) (by omega) (by omega) (iE _) ?_
    refine wP (ls' := [.ref 188, iv a, iv b, iv i3, iv i4, iv i5]) (st' := [iv 32, iv (M 203 (i4).toNat).toInt]) rfl rfl ?_
    refine wIfc (n1 := 12) rfl bk_64_12 bk_64_11 (by first | exact iG _ | omega) (by omega) (fun g0 => ?_) (fun g0 => ?_)
    · replace g0 : (M 203 (i4).toNat).toInt = 32 := g0
      refine wGoto (n1 := 1) rfl bk_64_1 ?_
      exact hx i4 i5 (by omega)
    · replace g0 : ¬ ((M 203 (i4).toNat).toInt = 32) := g0
      exact absurd g0 (by omega)
  | succ n ih =>
    intro i4 i5 h1 h2 hn
    refine wP (ls' := [.ref 188, iv a, iv b, iv i3, iv i4, iv i5]) (st' := [.ref 188]) rfl rfl ?_
    refine wGetR hk (r := 203) (by decide +kernel) ?_
    refine wP (ls' := [.ref 188, iv a, iv b, iv i3, iv i4, iv i5]) (st' := [iv i4, .ref 203]) rfl rfl ?_
    refine wIld hk (l := 156) (e := (M 203 (i4).toNat).toInt) (by decide +kernel) (by omega) (by omega) (iE _) ?_
    refine wP (ls' := [.ref 188, iv a, iv b, iv i3, iv i4, iv i5]) (st' := [iv 32, iv (M 203 (i4).toNat).toInt]) rfl rfl ?_
    refine wIfc (n1 := 12) rfl bk_64_12 bk_64_11 (by first | exact iG _ | omega) (by omega) (fun g0 => ?_) (fun g0 => ?_)
    · replace g0 : (M 203 (i4).toNat).toInt = 32 := g0
      have e4 : i4 = gSp.getD (m + 1) 0 := by
        by_cases q : i4 = gSp.getD (m + 1) 0
        · exact q
        · exfalso
          have e2 := hw (i4).toNat (by omega)
          rw [e2, iR (hr _).1 (hr _).2] at g0
          exact s4 (i4).toNat (by omega) (by omega) (by omega) g0
      refine wGoto (n1 := 1) rfl bk_64_1 ?_
      exact hx i4 i5 e4
    · replace g0 : ¬ ((M 203 (i4).toNat).toInt = 32) := g0
      refine wP (ls' := [.ref 188, iv a, iv b, iv i3, iv i4, iv i5]) (st' := [iv i4]) rfl rfl ?_
      refine wP (ls' := [.ref 188, iv a, iv b, iv i3, iv i4, iv i5]) (st' := [iv 1, iv i4]) rfl rfl ?_
      refine wAdd ?_
      refine wP (ls' := [.ref 188, iv a, iv b, iv i3, iv (i4 + 1), iv i5]) (st' := []) rfl rfl ?_
      refine wGoto (n1 := 10) rfl bk_64_10 ?_
      have hne : i4 ≠ gSp.getD (m + 1) 0 := by
        intro q
        have e2 := hw (i4).toNat (by omega)
        rw [show (i4).toNat = gSp.getD (m + 1) 0 by omega, s3] at e2
        rw [show (i4).toNat = gSp.getD (m + 1) 0 by omega, e2, iR (by omega) (by omega)] at g0
        exact g0 rfl
      exact ih (i4 + 1) i5 (by omega) (by omega) (by omega)
theorem h64_out {X : aX} {d : Nat} {k : Nat → aK} (hk : gKs k) {M : Nat → Nat → Int32} {a b : Int} (ha : 0 ≤ a) (hab : a < b) (hb : b ≤ 500) (hw : ∀ j, j < 156 → M 203 j = Int32.ofInt (gWd.getD j 0)) (hl : ∀ j : Nat, a ≤ j → (j : Int) < b → (M 202 j).toInt ≠ 32) :
    ∀ (n m : Nat) (i3 i4 : Int) (u5 : Value), m + n = 29 → i3 = (m : Int) - 1 → i4 = gSp.getD m 0 → zW X d 64 1 [.iload 4, .bipush 155, .if_icmp .ge 13] [.ref 188, iv a, iv b, iv i3, iv i4, u5] [] (gH k M) (fun rv h' => h' = gH k M ∧ ∃ e, rv = some (iv e) ∧ -1 ≤ e ∧ e ≤ 28) := by
  intro n
  induction n with
  | zero =>
    intro m i3 i4 u5 hmn h3 h4
    have e4 : i4 = 155 := by rw [h4, show m = 29 by omega]; rfl
    refine wP (ls' := [.ref 188, iv a, iv b, iv i3, iv i4, u5]) (st' := [iv i4]) rfl rfl ?_
    refine wP (ls' := [.ref 188, iv a, iv b, iv i3, iv i4, u5]) (st' := [iv 155, iv i4]) rfl rfl ?_
    refine wIfc (n1 := 13) rfl bk_64_13 bk_64_2 (by omega) (by omega) (fun g0 => ?_) (fun g0 => ?_)
    · replace g0 : 155 ≤ i4 := g0
      refine wP (ls' := [.ref 188, iv a, iv b, iv i3, iv i4, u5]) (st' := [iv (-1)]) rfl rfl ?_
      exact wIret (Or.inl (by decide +kernel)) ⟨rfl, _, rfl, by omega, by omega⟩
    · replace g0 : ¬ (155 ≤ i4) := g0
      exact absurd g0 (by omega)
  | succ n ih0 =>
    intro m i3 i4 u5 hmn h3 h4
    have hm : m < 29 := by omega
    have hlt := gSp_lt m hm
    obtain ⟨s1, s2, s3, s4⟩ := gSp_ok m hm
    have ih := fun m => ih0 m
    refine wP (ls' := [.ref 188, iv a, iv b, iv i3, iv i4, u5]) (st' := [iv i4]) rfl rfl ?_
    refine wP (ls' := [.ref 188, iv a, iv b, iv i3, iv i4, u5]) (st' := [iv 155, iv i4]) rfl rfl ?_
    refine wIfc (n1 := 13) rfl bk_64_13 bk_64_2 (by omega) (by omega) (fun g0 => ?_) (fun g0 => ?_)
    · replace g0 : 155 ≤ i4 := g0
      exact absurd g0 (by omega)
    · replace g0 : ¬ (155 ≤ i4) := g0
      refine wP (ls' := [.ref 188, iv a, iv b, iv i3, iv i4, u5]) (st' := [iv 0]) rfl rfl ?_
      refine wP (ls' := [.ref 188, iv a, iv b, iv i3, iv i4, iv 0]) (st' := []) rfl rfl ?_
      refine wP (ls' := [.ref 188, iv a, iv b, iv i3, iv i4, iv 0]) (st' := [iv i3]) rfl rfl ?_
      refine wP (ls' := [.ref 188, iv a, iv b, iv i3, iv i4, iv 0]) (st' := [iv 1, iv i3]) rfl rfl ?_
      refine wAdd ?_
      refine wP (ls' := [.ref 188, iv a, iv b, iv (i3 + 1), iv i4, iv 0]) (st' := []) rfl rfl ?_
      refine zW_fall bk_64_3 ?_
      refine h64_in hk ha hab hb hw hl hm h4 (fun i5 p0 p1 p2 => ?_) (b - (a + 0)).toNat 0 (by omega) (by omega) (by omega) (by omega)
      refine wP (ls' := [.ref 188, iv a, iv b, iv (i3 + 1), iv i4, iv i5]) (st' := [iv a]) rfl rfl ?_
      refine wP (ls' := [.ref 188, iv a, iv b, iv (i3 + 1), iv i4, iv i5]) (st' := [iv i5, iv a]) rfl rfl ?_
      refine wAdd ?_
      refine wP (ls' := [.ref 188, iv a, iv b, iv (i3 + 1), iv i4, iv i5]) (st' := [iv b, iv (a + i5)]) rfl rfl ?_
      refine wIfc (n1 := 9) rfl bk_64_9 bk_64_7 (by omega) (by omega) (fun g0 => ?_) (fun g0 => ?_)
      · replace g0 : ¬ (a + i5) = b := g0
        refine wP (ls' := [.ref 188, iv a, iv b, iv (i3 + 1), iv i4, iv i5]) (st' := [iv i4]) rfl rfl ?_
        refine wP (ls' := [.ref 188, iv a, iv b, iv (i3 + 1), iv i4, iv i5]) (st' := [iv 1, iv i4]) rfl rfl ?_
        refine wAdd ?_
        refine wP (ls' := [.ref 188, iv a, iv b, iv (i3 + 1), iv (i4 + 1), iv i5]) (st' := []) rfl rfl ?_
        refine zW_fall bk_64_10 ?_
        exact h64_sk hk hw hm (fun i4 i5 q => ih (m + 1) (i3 + 1) i4 (iv i5) (by omega) (by omega) q) (gSp.getD (m + 1) 0) (i4 + 1) i5 (by omega) (by omega) (by omega)
      · replace g0 : ¬ (¬ (a + i5) = b) := g0
        refine wP (ls' := [.ref 188, iv a, iv b, iv (i3 + 1), iv i4, iv i5]) (st' := [.ref 188]) rfl rfl ?_
        refine wGetR hk (r := 203) (by decide +kernel) ?_
        refine wP (ls' := [.ref 188, iv a, iv b, iv (i3 + 1), iv i4, iv i5]) (st' := [iv i4, .ref 203]) rfl rfl ?_
        refine wP (ls' := [.ref 188, iv a, iv b, iv (i3 + 1), iv i4, iv i5]) (st' := [iv 1, iv i4, .ref 203]) rfl rfl ?_
        refine wAdd ?_
        refine wP (ls' := [.ref 188, iv a, iv b, iv (i3 + 1), iv i4, iv i5]) (st' := [iv i5, iv (i4 + 1), .ref 203]) rfl rfl ?_
        refine wAdd ?_
        refine wIld hk (l := 156) (e := (M 203 (((i4 + 1) + i5)).toNat).toInt) (by decide +kernel) (by omega) (by omega) (iE _) ?_
        refine wP (ls' := [.ref 188, iv a, iv b, iv (i3 + 1), iv i4, iv i5]) (st' := [iv 32, iv (M 203 (((i4 + 1) + i5)).toNat).toInt]) rfl rfl ?_
        refine wIfc (n1 := 9) rfl bk_64_9 bk_64_8 (by first | exact iG _ | omega) (by omega) (fun g1 => ?_) (fun g1 => ?_)
        · replace g1 : ¬ (M 203 (((i4 + 1) + i5)).toNat).toInt = 32 := g1
          refine wP (ls' := [.ref 188, iv a, iv b, iv (i3 + 1), iv i4, iv i5]) (st' := [iv i4]) rfl rfl ?_
          refine wP (ls' := [.ref 188, iv a, iv b, iv (i3 + 1), iv i4, iv i5]) (st' := [iv 1, iv i4]) rfl rfl ?_
          refine wAdd ?_
          refine wP (ls' := [.ref 188, iv a, iv b, iv (i3 + 1), iv (i4 + 1), iv i5]) (st' := []) rfl rfl ?_
          refine zW_fall bk_64_10 ?_
          exact h64_sk hk hw hm (fun i4 i5 q => ih (m + 1) (i3 + 1) i4 (iv i5) (by omega) (by omega) q) (gSp.getD (m + 1) 0) (i4 + 1) i5 (by omega) (by omega) (by omega)
        · replace g1 : ¬ (¬ (M 203 (((i4 + 1) + i5)).toNat).toInt = 32) := g1
          refine wP (ls' := [.ref 188, iv a, iv b, iv (i3 + 1), iv i4, iv i5]) (st' := [iv (i3 + 1)]) rfl rfl ?_
          exact wIret (Or.inl (by decide +kernel)) ⟨rfl, _, rfl, by omega, by omega⟩
theorem h64 {X : aX} {d : Nat} {k : Nat → aK} (hk : gKs k) {M : Nat → Nat → Int32} {a b : Int} (ha : 0 ≤ a) (hab : a < b) (hb : b ≤ 500) (hw : ∀ j, j < 156 → M 203 j = Int32.ofInt (gWd.getD j 0)) (hl : ∀ j : Nat, a ≤ j → (j : Int) < b → (M 202 j).toInt ≠ 32) :
    zRn X (d + 1) 64 [.ref 188, iv a, iv b] (gH k M) (fun rv h' => h' = gH k M ∧ ∃ e, rv = some (iv e) ∧ -1 ≤ e ∧ e ≤ 28) := by
  refine wEnt (n := 6) (ls := [.ref 188, iv a, iv b, aD, aD, aD]) bk_64_0 (by decide +kernel) rfl rfl rfl ?_
  refine wP (ls' := [.ref 188, iv a, iv b, aD, aD, aD]) (st' := [iv (-1)]) rfl rfl ?_
  refine wP (ls' := [.ref 188, iv a, iv b, iv (-1), aD, aD]) (st' := []) rfl rfl ?_
  refine wP (ls' := [.ref 188, iv a, iv b, iv (-1), aD, aD]) (st' := [iv 0]) rfl rfl ?_
  refine wP (ls' := [.ref 188, iv a, iv b, iv (-1), iv 0, aD]) (st' := []) rfl rfl ?_
  refine zW_fall bk_64_1 ?_
  exact h64_out hk ha hab hb hw hl 29 0 _ _ _ rfl (by omega) rfl
/-! reads, by hand -/
theorem bk_65_0 : (aMC 65)[0]? = some [.aload 0, .aload 0, .getfield 126712100, .invokevirtual 1536060, .bipush 32, .if_icmp .eq 2] := by decide +kernel
theorem bk_65_1 : (aMC 65)[1]? = some [.aload 0, .aload 0, .getfield 126712100, .invokevirtual 1536060, .bipush 10, .if_icmp .ne 3] := by decide +kernel
theorem bk_65_2 : (aMC 65)[2]? = some [.aload 0, .aload 0, .getfield 126712100, .bipush 1, .iadd, .putfield 126712100, .goto 0] := by decide +kernel
theorem bk_65_3 : (aMC 65)[3]? = some [.aload 0, .aload 0, .getfield 126712100, .putfield 126812104, .aload 0, .bipush 1, .putfield 126912108, .aload 0, .aload 0, .getfield 126712100, .invokevirtual 1536060, .istore 1, .iload 1, .bipush (-1), .if_icmp .ne 5] := by decide +kernel
theorem bk_65_4 : (aMC 65)[4]? = some [.aload 0, .bipush 0, .putfield 126912108, .return_] := by decide +kernel
theorem bk_65_5 : (aMC 65)[5]? = some [.aload 0, .aload 0, .getfield 126712100, .bipush 1, .iadd, .putfield 126712100, .aload 0, .iload 1, .putfield 127012112, .aload 0, .iload 1, .invokevirtual 1540061, .ifCond .eq 10] := by decide +kernel
theorem bk_65_6 : (aMC 65)[6]? = some [.aload 0, .aload 0, .aload 0, .getfield 126712100, .invokevirtual 1536060, .invokevirtual 1540061, .ifCond .eq 8] := by decide +kernel
theorem bk_65_7 : (aMC 65)[7]? = some [.aload 0, .aload 0, .getfield 126712100, .bipush 1, .iadd, .putfield 126712100, .goto 6] := by decide +kernel
theorem bk_65_8 : (aMC 65)[8]? = some [.aload 0, .aload 0, .aload 0, .getfield 126812104, .aload 0, .getfield 126712100, .invokevirtual 1544064, .putfield 127012112, .aload 0, .getfield 127012112, .bipush (-1), .if_icmp .eq 21] := by decide +kernel
theorem bk_65_9 : (aMC 65)[9]? = some [.aload 0, .bipush 2, .putfield 126912108, .goto 21] := by decide +kernel
theorem bk_65_10 : (aMC 65)[10]? = some [.aload 0, .iload 1, .invokevirtual 1548062, .ifCond .eq 19] := by decide +kernel
theorem bk_65_11 : (aMC 65)[11]? = some [.aload 0, .iload 1, .bipush 48, .isub, .putfield 127012112] := by decide +kernel
theorem bk_65_12 : (aMC 65)[12]? = some [.aload 0, .aload 0, .aload 0, .getfield 126712100, .invokevirtual 1536060, .invokevirtual 1548062, .ifCond .eq 17] := by decide +kernel
theorem bk_65_13 : (aMC 65)[13]? = some [.aload 0, .aload 0, .getfield 127012112, .bipush 10000, .if_icmp .ge 15] := by decide +kernel
theorem bk_65_14 : (aMC 65)[14]? = some [.bipush 10, .aload 0, .getfield 127012112, .imul, .aload 0, .aload 0, .getfield 126712100, .invokevirtual 1536060, .iadd, .bipush 48, .isub, .goto 16] := by decide +kernel
theorem bk_65_15 : (aMC 65)[15]? = some [.aload 0, .getfield 127012112] := by decide +kernel
theorem bk_65_16 : (aMC 65)[16]? = some [.putfield 127012112, .aload 0, .aload 0, .getfield 126712100, .bipush 1, .iadd, .putfield 126712100, .goto 12] := by decide +kernel
theorem bk_65_17 : (aMC 65)[17]? = some [.aload 0, .getfield 126712100, .aload 0, .getfield 126812104, .isub, .bipush 5, .if_icmp .ge 21] := by decide +kernel
theorem bk_65_18 : (aMC 65)[18]? = some [.aload 0, .bipush 3, .putfield 126912108, .goto 21] := by decide +kernel
theorem bk_65_19 : (aMC 65)[19]? = some [.aload 0, .iload 1, .invokevirtual 1552063, .ifCond .eq 21] := by decide +kernel
theorem bk_65_20 : (aMC 65)[20]? = some [.aload 0, .bipush 4, .putfield 126912108] := by decide +kernel
theorem bk_65_21 : (aMC 65)[21]? = some [.return_] := by decide +kernel
/-- a token is read -/
def gRd (M M' : Nat → Nat → Int32) : Prop := (∀ a, a ≠ 188 → M' a = M a) ∧ (∀ f, f ≠ 25 → f ≠ 26 → f ≠ 27 → f ≠ 28 → M' 188 f = M 188 f) ∧ (M 188 25).toInt ≤ (M' 188 26).toInt ∧ (M' 188 26).toInt ≤ (M' 188 25).toInt ∧ (M' 188 25).toInt ≤ (M 188 24).toInt ∧ 0 ≤ (M' 188 27).toInt ∧ (M' 188 27).toInt ≤ 4 ∧
  ((M' 188 27).toInt ≠ 0 → (M' 188 26).toInt < (M' 188 25).toInt) ∧ ((M' 188 27).toInt = 2 → 0 ≤ (M' 188 28).toInt ∧ (M' 188 28).toInt ≤ 28) ∧ ((M' 188 27).toInt = 3 → 0 ≤ (M' 188 28).toInt)
def gLet (c : Int) : Prop := 97 ≤ c ∧ c ≤ 122 ∨ 65 ≤ c ∧ c ≤ 90
theorem h65_l2 {X : aX} {d : Nat} {k : Nat → aK} (hk : gKs k) {M : Nat → Nat → Int32} (ht : 0 ≤ (M 188 24).toInt ∧ (M 188 24).toInt ≤ 500) (h0 : 0 ≤ (M 188 25).toInt) (hw : ∀ j, j < 156 → M 203 j = Int32.ofInt (gWd.getD j 0)) {f0 c : Int} (hf0 : (M 188 25).toInt ≤ f0) :
    ∀ (n : Nat) (M1 : Nat → Nat → Int32) (hA : ∀ a, a ≠ 188 → M1 a = M a) (hF : ∀ f, f ≠ 25 → f ≠ 26 → f ≠ 27 → f ≠ 28 → M1 188 f = M 188 f) (hfr : (M1 188 26).toInt = f0) (htk : (M1 188 27).toInt = 1) (hs1 : f0 < (M1 188 25).toInt) (hs2 : (M1 188 25).toInt ≤ (M 188 24).toInt) (hl : ∀ j : Nat, f0 ≤ j → (j : Int) < (M1 188 25).toInt → gLet (M 202 j).toInt), (M 188 24).toInt - (M1 188 25).toInt ≤ n → zW X (d + 1 + 1) 65 6 [.aload 0, .aload 0, .aload 0, .getfield 126712100, .invokevirtual 1536060, .invokevirtual 1540061, .ifCond .eq 8] [.ref 188, iv c] [] (gH k M1) (fun rv h' => ∃ M', rv = none ∧ h' = gH k M' ∧ gRd M M') := by
  intro n
  induction n with
  | zero =>
    intro M1 hA hF hfr htk hs1 hs2 hl hn
    have t1 : (M1 188 24).toInt = (M 188 24).toInt := by rw [hF 24 (by decide) (by decide) (by decide) (by decide)]
    have a202 : M1 202 = M 202 := hA 202 (by decide)
    have hlet : ∀ j : Nat, (M1 188 26).toInt ≤ j → (j : Int) < (M1 188 25).toInt → (M1 202 j).toInt ≠ 32 := fun j j1 j2 => by
      have := hl j (by omega) j2
      unfold gLet at this
      rw [a202]
      omega
    refine wP (ls' := [.ref 188, iv c]) (st' := [.ref 188]) rfl rfl ?_
    refine wP (ls' := [.ref 188, iv c]) (st' := [.ref 188, .ref 188]) rfl rfl ?_
    refine wP (ls' := [.ref 188, iv c]) (st' := [.ref 188, .ref 188, .ref 188]) rfl rfl ?_
    refine wGetN hk (f := 25) (e := (M1 188 25).toInt) (by decide +kernel) (iE _) ?_
    refine wCall hk (q := 60) (na := 1) (a := 188) (as := [iv (M1 188 25).toInt]) (t := [.ref 188]) rfl (by decide +kernel) (by decide) (by decide +kernel) (Nat.le_of_ble_eq_true rfl) rfl rfl (zRn.mono (h60 hk (by omega) (by omega)) (fun rv h' hq => ?_))
    obtain ⟨rfl, e1, rfl, r1⟩ := hq
    have be1 := iG (M1 202 ((M1 188 25).toInt).toNat)
    refine ⟨rfl, ?_⟩
    show zW X _ 65 6 [.invokevirtual 1540061, .ifCond .eq 8] [.ref 188, iv c] [iv e1, .ref 188] (gH k M1) _
    refine wCall hk (q := 61) (na := 1) (a := 188) (as := [iv e1]) (t := []) rfl (by decide +kernel) (by decide) (by decide +kernel) (Nat.le_of_ble_eq_true rfl) rfl rfl (zRn.mono (h61 hk (by omega)) (fun rv h' hq => ?_))
    obtain ⟨rfl, e2, rfl, r2⟩ := hq
    refine ⟨rfl, ?_⟩
    show zW X _ 65 6 [.ifCond .eq 8] [.ref 188, iv c] [iv e2] (gH k M1) _
    refine wIf0 (n1 := 8) rfl bk_65_8 bk_65_7 (by omega) (fun g0 => ?_) (fun g0 => ?_)
    · replace g0 : e2 = 0 := g0
      refine wP (ls' := [.ref 188, iv c]) (st' := [.ref 188]) rfl rfl ?_
      refine wP (ls' := [.ref 188, iv c]) (st' := [.ref 188, .ref 188]) rfl rfl ?_
      refine wP (ls' := [.ref 188, iv c]) (st' := [.ref 188, .ref 188, .ref 188]) rfl rfl ?_
      refine wGetN hk (f := 26) (e := (M1 188 26).toInt) (by decide +kernel) (iE _) ?_
      refine wP (ls' := [.ref 188, iv c]) (st' := [.ref 188, iv (M1 188 26).toInt, .ref 188, .ref 188]) rfl rfl ?_
      refine wGetN hk (f := 25) (e := (M1 188 25).toInt) (by decide +kernel) (iE _) ?_
      refine wCall hk (q := 64) (na := 2) (a := 188) (as := [iv (M1 188 26).toInt, iv (M1 188 25).toInt]) (t := [.ref 188]) rfl (by decide +kernel) (by decide) (by decide +kernel) (Nat.le_of_ble_eq_true rfl) rfl rfl (zRn.mono (h64 hk (by omega) (by omega) (by omega) (by rw [hA 203 (by decide)]; exact hw) hlet) (fun rv h' hq => ?_))
      obtain ⟨rfl, e3, rfl, r3, r3_⟩ := hq
      refine ⟨rfl, ?_⟩
      show zW X _ 65 8 [.putfield 127012112, .aload 0, .getfield 127012112, .bipush (-1), .if_icmp .eq 21] [.ref 188, iv c] [iv e3, .ref 188] (gH k M1) _
      refine wPutN hk (f := 28) (by decide +kernel) (Or.inl rfl) ?_
      refine wP (ls' := [.ref 188, iv c]) (st' := [.ref 188]) rfl rfl ?_
      refine wGetN hk (f := 28) (e := e3) (by decide +kernel) (by rw [aPut_e]) ?_
      refine wP (ls' := [.ref 188, iv c]) (st' := [iv (-1), iv e3]) rfl rfl ?_
      refine wIfc (n1 := 21) rfl bk_65_21 bk_65_9 (by omega) (by omega) (fun g1 => ?_) (fun g1 => ?_)
      · replace g1 : e3 = (-1) := g1
        refine wRet0 (by decide +kernel) ⟨_, rfl, rfl, ?_⟩
        have v25 : ((aPut M1 188 28 (Int32.ofInt e3)) 188 25).toInt = (M1 188 25).toInt := by rw [aPut_f (by decide)]
        have v26 : ((aPut M1 188 28 (Int32.ofInt e3)) 188 26).toInt = (M1 188 26).toInt := by rw [aPut_f (by decide)]
        have v27 : ((aPut M1 188 28 (Int32.ofInt e3)) 188 27).toInt = (M1 188 27).toInt := by rw [aPut_f (by decide)]
        have v28 : ((aPut M1 188 28 (Int32.ofInt e3)) 188 28).toInt = e3 := by rw [aPut_e]; first | (exact iR (by omega) (by omega)) | (exact congrArg Int32.toInt (iE _).symm)
        exact ⟨(fun a ha => by rw [aPut_r ha]; exact hA a ha), (fun f f1 f2 f3 f4 => by rw [aPut_f f4]; exact hF f f1 f2 f3 f4), by omega, by omega, by omega, by omega, by omega, fun _ => by omega, fun _ => by omega, fun _ => by omega⟩
      · replace g1 : ¬ (e3 = (-1)) := g1
        refine wP (ls' := [.ref 188, iv c]) (st' := [.ref 188]) rfl rfl ?_
        refine wP (ls' := [.ref 188, iv c]) (st' := [iv 2, .ref 188]) rfl rfl ?_
        refine wPutN hk (f := 27) (by decide +kernel) (Or.inl rfl) ?_
        refine wGoto (n1 := 21) rfl bk_65_21 ?_
        refine wRet0 (by decide +kernel) ⟨_, rfl, rfl, ?_⟩
        have v25 : ((aPut (aPut M1 188 28 (Int32.ofInt e3)) 188 27 (Int32.ofInt 2)) 188 25).toInt = (M1 188 25).toInt := by rw [aPut_f (by decide), aPut_f (by decide)]
        have v26 : ((aPut (aPut M1 188 28 (Int32.ofInt e3)) 188 27 (Int32.ofInt 2)) 188 26).toInt = (M1 188 26).toInt := by rw [aPut_f (by decide), aPut_f (by decide)]
        have v27 : ((aPut (aPut M1 188 28 (Int32.ofInt e3)) 188 27 (Int32.ofInt 2)) 188 27).toInt = 2 := by rw [aPut_e]; first | (exact iR (by omega) (by omega)) | (exact congrArg Int32.toInt (iE _).symm)
        have v28 : ((aPut (aPut M1 188 28 (Int32.ofInt e3)) 188 27 (Int32.ofInt 2)) 188 28).toInt = e3 := by rw [aPut_f (by decide), aPut_e]; first | (exact iR (by omega) (by omega)) | (exact congrArg Int32.toInt (iE _).symm)
        exact ⟨(fun a ha => by rw [aPut_r ha, aPut_r ha]; exact hA a ha), (fun f f1 f2 f3 f4 => by rw [aPut_f f3, aPut_f f4]; exact hF f f1 f2 f3 f4), by omega, by omega, by omega, by omega, by omega, fun _ => by omega, fun _ => by omega, fun _ => by omega⟩
    · replace g0 : ¬ (e2 = 0) := g0
      exact absurd g0 (by omega)
  | succ n ih =>
    intro M1 hA hF hfr htk hs1 hs2 hl hn
    have t1 : (M1 188 24).toInt = (M 188 24).toInt := by rw [hF 24 (by decide) (by decide) (by decide) (by decide)]
    have a202 : M1 202 = M 202 := hA 202 (by decide)
    have hlet : ∀ j : Nat, (M1 188 26).toInt ≤ j → (j : Int) < (M1 188 25).toInt → (M1 202 j).toInt ≠ 32 := fun j j1 j2 => by
      have := hl j (by omega) j2
      unfold gLet at this
      rw [a202]
      omega
    refine wP (ls' := [.ref 188, iv c]) (st' := [.ref 188]) rfl rfl ?_
    refine wP (ls' := [.ref 188, iv c]) (st' := [.ref 188, .ref 188]) rfl rfl ?_
    refine wP (ls' := [.ref 188, iv c]) (st' := [.ref 188, .ref 188, .ref 188]) rfl rfl ?_
    refine wGetN hk (f := 25) (e := (M1 188 25).toInt) (by decide +kernel) (iE _) ?_
    refine wCall hk (q := 60) (na := 1) (a := 188) (as := [iv (M1 188 25).toInt]) (t := [.ref 188]) rfl (by decide +kernel) (by decide) (by decide +kernel) (Nat.le_of_ble_eq_true rfl) rfl rfl (zRn.mono (h60 hk (by omega) (by omega)) (fun rv h' hq => ?_))
    obtain ⟨rfl, e1, rfl, r1⟩ := hq
    have be1 := iG (M1 202 ((M1 188 25).toInt).toNat)
    refine ⟨rfl, ?_⟩
    show zW X _ 65 6 [.invokevirtual 1540061, .ifCond .eq 8] [.ref 188, iv c] [iv e1, .ref 188] (gH k M1) _
    refine wCall hk (q := 61) (na := 1) (a := 188) (as := [iv e1]) (t := []) rfl (by decide +kernel) (by decide) (by decide +kernel) (Nat.le_of_ble_eq_true rfl) rfl rfl (zRn.mono (h61 hk (by omega)) (fun rv h' hq => ?_))
    obtain ⟨rfl, e2, rfl, r2⟩ := hq
    refine ⟨rfl, ?_⟩
    show zW X _ 65 6 [.ifCond .eq 8] [.ref 188, iv c] [iv e2] (gH k M1) _
    refine wIf0 (n1 := 8) rfl bk_65_8 bk_65_7 (by omega) (fun g0 => ?_) (fun g0 => ?_)
    · replace g0 : e2 = 0 := g0
      refine wP (ls' := [.ref 188, iv c]) (st' := [.ref 188]) rfl rfl ?_
      refine wP (ls' := [.ref 188, iv c]) (st' := [.ref 188, .ref 188]) rfl rfl ?_
      refine wP (ls' := [.ref 188, iv c]) (st' := [.ref 188, .ref 188, .ref 188]) rfl rfl ?_
      refine wGetN hk (f := 26) (e := (M1 188 26).toInt) (by decide +kernel) (iE _) ?_
      refine wP (ls' := [.ref 188, iv c]) (st' := [.ref 188, iv (M1 188 26).toInt, .ref 188, .ref 188]) rfl rfl ?_
      refine wGetN hk (f := 25) (e := (M1 188 25).toInt) (by decide +kernel) (iE _) ?_
      refine wCall hk (q := 64) (na := 2) (a := 188) (as := [iv (M1 188 26).toInt, iv (M1 188 25).toInt]) (t := [.ref 188]) rfl (by decide +kernel) (by decide) (by decide +kernel) (Nat.le_of_ble_eq_true rfl) rfl rfl (zRn.mono (h64 hk (by omega) (by omega) (by omega) (by rw [hA 203 (by decide)]; exact hw) hlet) (fun rv h' hq => ?_))
      obtain ⟨rfl, e3, rfl, r3, r3_⟩ := hq
      refine ⟨rfl, ?_⟩
      show zW X _ 65 8 [.putfield 127012112, .aload 0, .getfield 127012112, .bipush (-1), .if_icmp .eq 21] [.ref 188, iv c] [iv e3, .ref 188] (gH k M1) _
      refine wPutN hk (f := 28) (by decide +kernel) (Or.inl rfl) ?_
      refine wP (ls' := [.ref 188, iv c]) (st' := [.ref 188]) rfl rfl ?_
      refine wGetN hk (f := 28) (e := e3) (by decide +kernel) (by rw [aPut_e]) ?_
      refine wP (ls' := [.ref 188, iv c]) (st' := [iv (-1), iv e3]) rfl rfl ?_
      refine wIfc (n1 := 21) rfl bk_65_21 bk_65_9 (by omega) (by omega) (fun g1 => ?_) (fun g1 => ?_)
      · replace g1 : e3 = (-1) := g1
        refine wRet0 (by decide +kernel) ⟨_, rfl, rfl, ?_⟩
        have v25 : ((aPut M1 188 28 (Int32.ofInt e3)) 188 25).toInt = (M1 188 25).toInt := by rw [aPut_f (by decide)]
        have v26 : ((aPut M1 188 28 (Int32.ofInt e3)) 188 26).toInt = (M1 188 26).toInt := by rw [aPut_f (by decide)]
        have v27 : ((aPut M1 188 28 (Int32.ofInt e3)) 188 27).toInt = (M1 188 27).toInt := by rw [aPut_f (by decide)]
        have v28 : ((aPut M1 188 28 (Int32.ofInt e3)) 188 28).toInt = e3 := by rw [aPut_e]; first | (exact iR (by omega) (by omega)) | (exact congrArg Int32.toInt (iE _).symm)
        exact ⟨(fun a ha => by rw [aPut_r ha]; exact hA a ha), (fun f f1 f2 f3 f4 => by rw [aPut_f f4]; exact hF f f1 f2 f3 f4), by omega, by omega, by omega, by omega, by omega, fun _ => by omega, fun _ => by omega, fun _ => by omega⟩
      · replace g1 : ¬ (e3 = (-1)) := g1
        refine wP (ls' := [.ref 188, iv c]) (st' := [.ref 188]) rfl rfl ?_
        refine wP (ls' := [.ref 188, iv c]) (st' := [iv 2, .ref 188]) rfl rfl ?_
        refine wPutN hk (f := 27) (by decide +kernel) (Or.inl rfl) ?_
        refine wGoto (n1 := 21) rfl bk_65_21 ?_
        refine wRet0 (by decide +kernel) ⟨_, rfl, rfl, ?_⟩
        have v25 : ((aPut (aPut M1 188 28 (Int32.ofInt e3)) 188 27 (Int32.ofInt 2)) 188 25).toInt = (M1 188 25).toInt := by rw [aPut_f (by decide), aPut_f (by decide)]
        have v26 : ((aPut (aPut M1 188 28 (Int32.ofInt e3)) 188 27 (Int32.ofInt 2)) 188 26).toInt = (M1 188 26).toInt := by rw [aPut_f (by decide), aPut_f (by decide)]
        have v27 : ((aPut (aPut M1 188 28 (Int32.ofInt e3)) 188 27 (Int32.ofInt 2)) 188 27).toInt = 2 := by rw [aPut_e]; first | (exact iR (by omega) (by omega)) | (exact congrArg Int32.toInt (iE _).symm)
        have v28 : ((aPut (aPut M1 188 28 (Int32.ofInt e3)) 188 27 (Int32.ofInt 2)) 188 28).toInt = e3 := by rw [aPut_f (by decide), aPut_e]; first | (exact iR (by omega) (by omega)) | (exact congrArg Int32.toInt (iE _).symm)
        exact ⟨(fun a ha => by rw [aPut_r ha, aPut_r ha]; exact hA a ha), (fun f f1 f2 f3 f4 => by rw [aPut_f f3, aPut_f f4]; exact hF f f1 f2 f3 f4), by omega, by omega, by omega, by omega, by omega, fun _ => by omega, fun _ => by omega, fun _ => by omega⟩
    · replace g0 : ¬ (e2 = 0) := g0
      refine wP (ls' := [.ref 188, iv c]) (st' := [.ref 188]) rfl rfl ?_
      refine wP (ls' := [.ref 188, iv c]) (st' := [.ref 188, .ref 188]) rfl rfl ?_
      refine wGetN hk (f := 25) (e := (M1 188 25).toInt) (by decide +kernel) (iE _) ?_
      refine wP (ls' := [.ref 188, iv c]) (st' := [iv 1, iv (M1 188 25).toInt, .ref 188]) rfl rfl ?_
      refine wAdd ?_
      refine wPutN hk (f := 25) (by decide +kernel) (Or.inl rfl) ?_
      refine wGoto (n1 := 6) rfl bk_65_6 ?_
      have v25 : ((aPut M1 188 25 (Int32.ofInt ((M1 188 25).toInt + 1))) 188 25).toInt = ((M1 188 25).toInt + 1) := by rw [aPut_e]; first | (exact iR (by omega) (by omega)) | (exact congrArg Int32.toInt (iE _).symm)
      have v26 : ((aPut M1 188 25 (Int32.ofInt ((M1 188 25).toInt + 1))) 188 26).toInt = (M1 188 26).toInt := by rw [aPut_f (by decide)]
      have v27 : ((aPut M1 188 25 (Int32.ofInt ((M1 188 25).toInt + 1))) 188 27).toInt = (M1 188 27).toInt := by rw [aPut_f (by decide)]
      exact ih (aPut M1 188 25 (Int32.ofInt ((M1 188 25).toInt + 1))) (fun a ha => by rw [aPut_r ha]; exact hA a ha) (fun f f1 f2 f3 f4 => by rw [aPut_f f1]; exact hF f f1 f2 f3 f4) (by omega) (by omega) (by omega) (by omega) (fun j j1 j2 => by
              by_cases q : (j : Int) < (M1 188 25).toInt
              · exact hl j j1 q
              · have e1 : j = ((M1 188 25).toInt).toNat := by omega
                unfold gLet
                rw [e1, ← a202]
                omega) (by omega)
theorem h65_l3 {X : aX} {d : Nat} {k : Nat → aK} (hk : gKs k) {M : Nat → Nat → Int32} (ht : 0 ≤ (M 188 24).toInt ∧ (M 188 24).toInt ≤ 500) (h0 : 0 ≤ (M 188 25).toInt) (hw : ∀ j, j < 156 → M 203 j = Int32.ofInt (gWd.getD j 0)) {f0 c : Int} (hf0 : (M 188 25).toInt ≤ f0) :
    ∀ (n : Nat) (M1 : Nat → Nat → Int32) (hA : ∀ a, a ≠ 188 → M1 a = M a) (hF : ∀ f, f ≠ 25 → f ≠ 26 → f ≠ 27 → f ≠ 28 → M1 188 f = M 188 f) (hfr : (M1 188 26).toInt = f0) (htk : (M1 188 27).toInt = 1) (hs1 : f0 < (M1 188 25).toInt) (hs2 : (M1 188 25).toInt ≤ (M 188 24).toInt) (hv : 0 ≤ (M1 188 28).toInt), (M 188 24).toInt - (M1 188 25).toInt ≤ n → zW X (d + 1 + 1 + 1) 65 12 [.aload 0, .aload 0, .aload 0, .getfield 126712100, .invokevirtual 1536060, .invokevirtual 1548062, .ifCond .eq 17] [.ref 188, iv c] [] (gH k M1) (fun rv h' => ∃ M', rv = none ∧ h' = gH k M' ∧ gRd M M') := by
  intro n
  induction n with
  | zero =>
    intro M1 hA hF hfr htk hs1 hs2 hv hn
    have t1 : (M1 188 24).toInt = (M 188 24).toInt := by rw [hF 24 (by decide) (by decide) (by decide) (by decide)]
    have a202 : M1 202 = M 202 := hA 202 (by decide)
    refine wP (ls' := [.ref 188, iv c]) (st' := [.ref 188]) rfl rfl ?_
    refine wP (ls' := [.ref 188, iv c]) (st' := [.ref 188, .ref 188]) rfl rfl ?_
    refine wP (ls' := [.ref 188, iv c]) (st' := [.ref 188, .ref 188, .ref 188]) rfl rfl ?_
    refine wGetN hk (f := 25) (e := (M1 188 25).toInt) (by decide +kernel) (iE _) ?_
    refine wCall hk (q := 60) (na := 1) (a := 188) (as := [iv (M1 188 25).toInt]) (t := [.ref 188]) rfl (by decide +kernel) (by decide) (by decide +kernel) (Nat.le_of_ble_eq_true rfl) rfl rfl (zRn.mono (h60 hk (by omega) (by omega)) (fun rv h' hq => ?_))
    obtain ⟨rfl, e1, rfl, r1⟩ := hq
    have be1 := iG (M1 202 ((M1 188 25).toInt).toNat)
    refine ⟨rfl, ?_⟩
    show zW X _ 65 12 [.invokevirtual 1548062, .ifCond .eq 17] [.ref 188, iv c] [iv e1, .ref 188] (gH k M1) _
    refine wCall hk (q := 62) (na := 1) (a := 188) (as := [iv e1]) (t := []) rfl (by decide +kernel) (by decide) (by decide +kernel) (Nat.le_of_ble_eq_true rfl) rfl rfl (zRn.mono (h62 hk (by omega)) (fun rv h' hq => ?_))
    obtain ⟨rfl, e2, rfl, r2⟩ := hq
    refine ⟨rfl, ?_⟩
    show zW X _ 65 12 [.ifCond .eq 17] [.ref 188, iv c] [iv e2] (gH k M1) _
    refine wIf0 (n1 := 17) rfl bk_65_17 bk_65_13 (by omega) (fun g0 => ?_) (fun g0 => ?_)
    · replace g0 : e2 = 0 := g0
      refine wP (ls' := [.ref 188, iv c]) (st' := [.ref 188]) rfl rfl ?_
      refine wGetN hk (f := 25) (e := (M1 188 25).toInt) (by decide +kernel) (iE _) ?_
      refine wP (ls' := [.ref 188, iv c]) (st' := [.ref 188, iv (M1 188 25).toInt]) rfl rfl ?_
      refine wGetN hk (f := 26) (e := (M1 188 26).toInt) (by decide +kernel) (iE _) ?_
      refine wSub ?_
      refine wP (ls' := [.ref 188, iv c]) (st' := [iv 5, iv ((M1 188 25).toInt - (M1 188 26).toInt)]) rfl rfl ?_
      refine wIfc (n1 := 21) rfl bk_65_21 bk_65_18 (by first | exact iG _ | omega) (by omega) (fun g1 => ?_) (fun g1 => ?_)
      · replace g1 : 5 ≤ ((M1 188 25).toInt - (M1 188 26).toInt) := g1
        refine wRet0 (by decide +kernel) ⟨_, rfl, rfl, ?_⟩
        have v25 : (M1 188 25).toInt = (M1 188 25).toInt := rfl
        have v26 : (M1 188 26).toInt = (M1 188 26).toInt := rfl
        have v27 : (M1 188 27).toInt = (M1 188 27).toInt := rfl
        have v28 : (M1 188 28).toInt = (M1 188 28).toInt := rfl
        exact ⟨(fun a ha => hA a ha), (fun f f1 f2 f3 f4 => hF f f1 f2 f3 f4), by omega, by omega, by omega, by omega, by omega, fun _ => by omega, fun _ => by omega, fun _ => by omega⟩
      · replace g1 : ¬ (5 ≤ ((M1 188 25).toInt - (M1 188 26).toInt)) := g1
        refine wP (ls' := [.ref 188, iv c]) (st' := [.ref 188]) rfl rfl ?_
        refine wP (ls' := [.ref 188, iv c]) (st' := [iv 3, .ref 188]) rfl rfl ?_
        refine wPutN hk (f := 27) (by decide +kernel) (Or.inl rfl) ?_
        refine wGoto (n1 := 21) rfl bk_65_21 ?_
        refine wRet0 (by decide +kernel) ⟨_, rfl, rfl, ?_⟩
        have v25 : ((aPut M1 188 27 (Int32.ofInt 3)) 188 25).toInt = (M1 188 25).toInt := by rw [aPut_f (by decide)]
        have v26 : ((aPut M1 188 27 (Int32.ofInt 3)) 188 26).toInt = (M1 188 26).toInt := by rw [aPut_f (by decide)]
        have v27 : ((aPut M1 188 27 (Int32.ofInt 3)) 188 27).toInt = 3 := by rw [aPut_e]; first | (exact iR (by omega) (by omega)) | (exact congrArg Int32.toInt (iE _).symm)
        have v28 : ((aPut M1 188 27 (Int32.ofInt 3)) 188 28).toInt = (M1 188 28).toInt := by rw [aPut_f (by decide)]
        exact ⟨(fun a ha => by rw [aPut_r ha]; exact hA a ha), (fun f f1 f2 f3 f4 => by rw [aPut_f f3]; exact hF f f1 f2 f3 f4), by omega, by omega, by omega, by omega, by omega, fun _ => by omega, fun _ => by omega, fun _ => by omega⟩
    · replace g0 : ¬ (e2 = 0) := g0
      exact absurd g0 (by omega)
  | succ n ih =>
    intro M1 hA hF hfr htk hs1 hs2 hv hn
    have t1 : (M1 188 24).toInt = (M 188 24).toInt := by rw [hF 24 (by decide) (by decide) (by decide) (by decide)]
    have a202 : M1 202 = M 202 := hA 202 (by decide)
    refine wP (ls' := [.ref 188, iv c]) (st' := [.ref 188]) rfl rfl ?_
    refine wP (ls' := [.ref 188, iv c]) (st' := [.ref 188, .ref 188]) rfl rfl ?_
    refine wP (ls' := [.ref 188, iv c]) (st' := [.ref 188, .ref 188, .ref 188]) rfl rfl ?_
    refine wGetN hk (f := 25) (e := (M1 188 25).toInt) (by decide +kernel) (iE _) ?_
    refine wCall hk (q := 60) (na := 1) (a := 188) (as := [iv (M1 188 25).toInt]) (t := [.ref 188]) rfl (by decide +kernel) (by decide) (by decide +kernel) (Nat.le_of_ble_eq_true rfl) rfl rfl (zRn.mono (h60 hk (by omega) (by omega)) (fun rv h' hq => ?_))
    obtain ⟨rfl, e1, rfl, r1⟩ := hq
    have be1 := iG (M1 202 ((M1 188 25).toInt).toNat)
    refine ⟨rfl, ?_⟩
    show zW X _ 65 12 [.invokevirtual 1548062, .ifCond .eq 17] [.ref 188, iv c] [iv e1, .ref 188] (gH k M1) _
    refine wCall hk (q := 62) (na := 1) (a := 188) (as := [iv e1]) (t := []) rfl (by decide +kernel) (by decide) (by decide +kernel) (Nat.le_of_ble_eq_true rfl) rfl rfl (zRn.mono (h62 hk (by omega)) (fun rv h' hq => ?_))
    obtain ⟨rfl, e2, rfl, r2⟩ := hq
    refine ⟨rfl, ?_⟩
    show zW X _ 65 12 [.ifCond .eq 17] [.ref 188, iv c] [iv e2] (gH k M1) _
    refine wIf0 (n1 := 17) rfl bk_65_17 bk_65_13 (by omega) (fun g0 => ?_) (fun g0 => ?_)
    · replace g0 : e2 = 0 := g0
      refine wP (ls' := [.ref 188, iv c]) (st' := [.ref 188]) rfl rfl ?_
      refine wGetN hk (f := 25) (e := (M1 188 25).toInt) (by decide +kernel) (iE _) ?_
      refine wP (ls' := [.ref 188, iv c]) (st' := [.ref 188, iv (M1 188 25).toInt]) rfl rfl ?_
      refine wGetN hk (f := 26) (e := (M1 188 26).toInt) (by decide +kernel) (iE _) ?_
      refine wSub ?_
      refine wP (ls' := [.ref 188, iv c]) (st' := [iv 5, iv ((M1 188 25).toInt - (M1 188 26).toInt)]) rfl rfl ?_
      refine wIfc (n1 := 21) rfl bk_65_21 bk_65_18 (by first | exact iG _ | omega) (by omega) (fun g1 => ?_) (fun g1 => ?_)
      · replace g1 : 5 ≤ ((M1 188 25).toInt - (M1 188 26).toInt) := g1
        refine wRet0 (by decide +kernel) ⟨_, rfl, rfl, ?_⟩
        have v25 : (M1 188 25).toInt = (M1 188 25).toInt := rfl
        have v26 : (M1 188 26).toInt = (M1 188 26).toInt := rfl
        have v27 : (M1 188 27).toInt = (M1 188 27).toInt := rfl
        have v28 : (M1 188 28).toInt = (M1 188 28).toInt := rfl
        exact ⟨(fun a ha => hA a ha), (fun f f1 f2 f3 f4 => hF f f1 f2 f3 f4), by omega, by omega, by omega, by omega, by omega, fun _ => by omega, fun _ => by omega, fun _ => by omega⟩
      · replace g1 : ¬ (5 ≤ ((M1 188 25).toInt - (M1 188 26).toInt)) := g1
        refine wP (ls' := [.ref 188, iv c]) (st' := [.ref 188]) rfl rfl ?_
        refine wP (ls' := [.ref 188, iv c]) (st' := [iv 3, .ref 188]) rfl rfl ?_
        refine wPutN hk (f := 27) (by decide +kernel) (Or.inl rfl) ?_
        refine wGoto (n1 := 21) rfl bk_65_21 ?_
        refine wRet0 (by decide +kernel) ⟨_, rfl, rfl, ?_⟩
        have v25 : ((aPut M1 188 27 (Int32.ofInt 3)) 188 25).toInt = (M1 188 25).toInt := by rw [aPut_f (by decide)]
        have v26 : ((aPut M1 188 27 (Int32.ofInt 3)) 188 26).toInt = (M1 188 26).toInt := by rw [aPut_f (by decide)]
        have v27 : ((aPut M1 188 27 (Int32.ofInt 3)) 188 27).toInt = 3 := by rw [aPut_e]; first | (exact iR (by omega) (by omega)) | (exact congrArg Int32.toInt (iE _).symm)
        have v28 : ((aPut M1 188 27 (Int32.ofInt 3)) 188 28).toInt = (M1 188 28).toInt := by rw [aPut_f (by decide)]
        exact ⟨(fun a ha => by rw [aPut_r ha]; exact hA a ha), (fun f f1 f2 f3 f4 => by rw [aPut_f f3]; exact hF f f1 f2 f3 f4), by omega, by omega, by omega, by omega, by omega, fun _ => by omega, fun _ => by omega, fun _ => by omega⟩
    · replace g0 : ¬ (e2 = 0) := g0
      refine wP (ls' := [.ref 188, iv c]) (st' := [.ref 188]) rfl rfl ?_
      refine wP (ls' := [.ref 188, iv c]) (st' := [.ref 188, .ref 188]) rfl rfl ?_
      refine wGetN hk (f := 28) (e := (M1 188 28).toInt) (by decide +kernel) (iE _) ?_
      refine wP (ls' := [.ref 188, iv c]) (st' := [iv 10000, iv (M1 188 28).toInt, .ref 188]) rfl rfl ?_
      refine wIfc (n1 := 15) rfl bk_65_15 bk_65_14 (by first | exact iG _ | omega) (by omega) (fun g1 => ?_) (fun g1 => ?_)
      · replace g1 : 10000 ≤ (M1 188 28).toInt := g1
        refine wP (ls' := [.ref 188, iv c]) (st' := [.ref 188, .ref 188]) rfl rfl ?_
        refine wGetN hk (f := 28) (e := (M1 188 28).toInt) (by decide +kernel) (iE _) ?_
        refine zW_fall bk_65_16 ?_
        refine wPutN hk (f := 28) (by decide +kernel) (Or.inl rfl) ?_
        refine wP (ls' := [.ref 188, iv c]) (st' := [.ref 188]) rfl rfl ?_
        refine wP (ls' := [.ref 188, iv c]) (st' := [.ref 188, .ref 188]) rfl rfl ?_
        refine wGetN hk (f := 25) (e := (M1 188 25).toInt) (by decide +kernel) (by rw [aPut_f (by decide)]; exact iE _) ?_
        refine wP (ls' := [.ref 188, iv c]) (st' := [iv 1, iv (M1 188 25).toInt, .ref 188]) rfl rfl ?_
        refine wAdd ?_
        refine wPutN hk (f := 25) (by decide +kernel) (Or.inl rfl) ?_
        refine wGoto (n1 := 12) rfl bk_65_12 ?_
        have v25 : ((aPut (aPut M1 188 28 (Int32.ofInt (M1 188 28).toInt)) 188 25 (Int32.ofInt ((M1 188 25).toInt + 1))) 188 25).toInt = ((M1 188 25).toInt + 1) := by rw [aPut_e]; first | (exact iR (by omega) (by omega)) | (exact congrArg Int32.toInt (iE _).symm)
        have v26 : ((aPut (aPut M1 188 28 (Int32.ofInt (M1 188 28).toInt)) 188 25 (Int32.ofInt ((M1 188 25).toInt + 1))) 188 26).toInt = (M1 188 26).toInt := by rw [aPut_f (by decide), aPut_f (by decide)]
        have v27 : ((aPut (aPut M1 188 28 (Int32.ofInt (M1 188 28).toInt)) 188 25 (Int32.ofInt ((M1 188 25).toInt + 1))) 188 27).toInt = (M1 188 27).toInt := by rw [aPut_f (by decide), aPut_f (by decide)]
        have v28 : ((aPut (aPut M1 188 28 (Int32.ofInt (M1 188 28).toInt)) 188 25 (Int32.ofInt ((M1 188 25).toInt + 1))) 188 28).toInt = (M1 188 28).toInt := by rw [aPut_f (by decide), aPut_e]; first | (exact iR (by omega) (by omega)) | (exact congrArg Int32.toInt (iE _).symm)
        exact ih (aPut (aPut M1 188 28 (Int32.ofInt (M1 188 28).toInt)) 188 25 (Int32.ofInt ((M1 188 25).toInt + 1))) (fun a ha => by rw [aPut_r ha, aPut_r ha]; exact hA a ha) (fun f f1 f2 f3 f4 => by rw [aPut_f f1, aPut_f f4]; exact hF f f1 f2 f3 f4) (by omega) (by omega) (by omega) (by omega) (by omega) (by omega)
      · replace g1 : ¬ (10000 ≤ (M1 188 28).toInt) := g1
        refine wP (ls' := [.ref 188, iv c]) (st' := [iv 10, .ref 188]) rfl rfl ?_
        refine wP (ls' := [.ref 188, iv c]) (st' := [.ref 188, iv 10, .ref 188]) rfl rfl ?_
        refine wGetN hk (f := 28) (e := (M1 188 28).toInt) (by decide +kernel) (iE _) ?_
        refine wMul ?_
        refine wP (ls' := [.ref 188, iv c]) (st' := [.ref 188, iv (10 * (M1 188 28).toInt), .ref 188]) rfl rfl ?_
        refine wP (ls' := [.ref 188, iv c]) (st' := [.ref 188, .ref 188, iv (10 * (M1 188 28).toInt), .ref 188]) rfl rfl ?_
        refine wGetN hk (f := 25) (e := (M1 188 25).toInt) (by decide +kernel) (iE _) ?_
        refine wCall hk (q := 60) (na := 1) (a := 188) (as := [iv (M1 188 25).toInt]) (t := [iv (10 * (M1 188 28).toInt), .ref 188]) rfl (by decide +kernel) (by decide) (by decide +kernel) (Nat.le_of_ble_eq_true rfl) rfl rfl (zRn.mono (h60 hk (by omega) (by omega)) (fun rv h' hq => ?_))
        obtain ⟨rfl, e3, rfl, r3⟩ := hq
        have be3 := iG (M1 202 ((M1 188 25).toInt).toNat)
        refine ⟨rfl, ?_⟩
        show zW X _ 65 14 [.iadd, .bipush 48, .isub, .goto 16] [.ref 188, iv c] [iv e3, iv (10 * (M1 188 28).toInt), .ref 188] (gH k M1) _
        refine wAdd ?_
        refine wP (ls' := [.ref 188, iv c]) (st' := [iv 48, iv ((10 * (M1 188 28).toInt) + e3), .ref 188]) rfl rfl ?_
        refine wSub ?_
        refine wGoto (n1 := 16) rfl bk_65_16 ?_
        refine wPutN hk (f := 28) (by decide +kernel) (Or.inl rfl) ?_
        refine wP (ls' := [.ref 188, iv c]) (st' := [.ref 188]) rfl rfl ?_
        refine wP (ls' := [.ref 188, iv c]) (st' := [.ref 188, .ref 188]) rfl rfl ?_
        refine wGetN hk (f := 25) (e := (M1 188 25).toInt) (by decide +kernel) (by rw [aPut_f (by decide)]; exact iE _) ?_
        refine wP (ls' := [.ref 188, iv c]) (st' := [iv 1, iv (M1 188 25).toInt, .ref 188]) rfl rfl ?_
        refine wAdd ?_
        refine wPutN hk (f := 25) (by decide +kernel) (Or.inl rfl) ?_
        refine wGoto (n1 := 12) rfl bk_65_12 ?_
        have v25 : ((aPut (aPut M1 188 28 (Int32.ofInt (((10 * (M1 188 28).toInt) + e3) - 48))) 188 25 (Int32.ofInt ((M1 188 25).toInt + 1))) 188 25).toInt = ((M1 188 25).toInt + 1) := by rw [aPut_e]; first | (exact iR (by omega) (by omega)) | (exact congrArg Int32.toInt (iE _).symm)
        have v26 : ((aPut (aPut M1 188 28 (Int32.ofInt (((10 * (M1 188 28).toInt) + e3) - 48))) 188 25 (Int32.ofInt ((M1 188 25).toInt + 1))) 188 26).toInt = (M1 188 26).toInt := by rw [aPut_f (by decide), aPut_f (by decide)]
        have v27 : ((aPut (aPut M1 188 28 (Int32.ofInt (((10 * (M1 188 28).toInt) + e3) - 48))) 188 25 (Int32.ofInt ((M1 188 25).toInt + 1))) 188 27).toInt = (M1 188 27).toInt := by rw [aPut_f (by decide), aPut_f (by decide)]
        have v28 : ((aPut (aPut M1 188 28 (Int32.ofInt (((10 * (M1 188 28).toInt) + e3) - 48))) 188 25 (Int32.ofInt ((M1 188 25).toInt + 1))) 188 28).toInt = (((10 * (M1 188 28).toInt) + e3) - 48) := by rw [aPut_f (by decide), aPut_e]; first | (exact iR (by omega) (by omega)) | (exact congrArg Int32.toInt (iE _).symm)
        exact ih (aPut (aPut M1 188 28 (Int32.ofInt (((10 * (M1 188 28).toInt) + e3) - 48))) 188 25 (Int32.ofInt ((M1 188 25).toInt + 1))) (fun a ha => by rw [aPut_r ha, aPut_r ha]; exact hA a ha) (fun f f1 f2 f3 f4 => by rw [aPut_f f1, aPut_f f4]; exact hF f f1 f2 f3 f4) (by omega) (by omega) (by omega) (by omega) (by omega) (by omega)
theorem h65_r {X : aX} {d : Nat} {k : Nat → aK} (hk : gKs k) {M : Nat → Nat → Int32} (ht : 0 ≤ (M 188 24).toInt ∧ (M 188 24).toInt ≤ 500) (h0 : 0 ≤ (M 188 25).toInt) (hw : ∀ j, j < 156 → M 203 j = Int32.ofInt (gWd.getD j 0)) {u1 : Value} {M1 : Nat → Nat → Int32} (hA : ∀ a, a ≠ 188 → M1 a = M a) (hF : ∀ f, f ≠ 25 → f ≠ 26 → f ≠ 27 → f ≠ 28 → M1 188 f = M 188 f) (hs1 : (M 188 25).toInt ≤ (M1 188 25).toInt) (hs2 : (M1 188 25).toInt ≤ (M 188 24).toInt) : zW X (d + 1 + 1 + 1) 65 3 [.aload 0, .aload 0, .getfield 126712100, .putfield 126812104, .aload 0, .bipush 1, .putfield 126912108, .aload 0, .aload 0, .getfield 126712100, .invokevirtual 1536060, .istore 1, .iload 1, .bipush (-1), .if_icmp .ne 5] [.ref 188, u1] [] (gH k M1) (fun rv h' => ∃ M', rv = none ∧ h' = gH k M' ∧ gRd M M') := by
  have t1 : (M1 188 24).toInt = (M 188 24).toInt := by rw [hF 24 (by decide) (by decide) (by decide) (by decide)]
  have a202 : M1 202 = M 202 := hA 202 (by decide)
  refine wP (ls' := [.ref 188, u1]) (st' := [.ref 188]) rfl rfl ?_
  refine wP (ls' := [.ref 188, u1]) (st' := [.ref 188, .ref 188]) rfl rfl ?_
  refine wGetN hk (f := 25) (e := (M1 188 25).toInt) (by decide +kernel) (iE _) ?_
  refine wPutN hk (f := 26) (by decide +kernel) (Or.inl rfl) ?_
  refine wP (ls' := [.ref 188, u1]) (st' := [.ref 188]) rfl rfl ?_
  refine wP (ls' := [.ref 188, u1]) (st' := [iv 1, .ref 188]) rfl rfl ?_
  refine wPutN hk (f := 27) (by decide +kernel) (Or.inl rfl) ?_
  refine wP (ls' := [.ref 188, u1]) (st' := [.ref 188]) rfl rfl ?_
  refine wP (ls' := [.ref 188, u1]) (st' := [.ref 188, .ref 188]) rfl rfl ?_
  refine wGetN hk (f := 25) (e := (M1 188 25).toInt) (by decide +kernel) (by rw [aPut_f (by decide), aPut_f (by decide)]; exact iE _) ?_
  refine wCall hk (q := 60) (na := 1) (a := 188) (as := [iv (M1 188 25).toInt]) (t := []) rfl (by decide +kernel) (by decide) (by decide +kernel) (Nat.le_of_ble_eq_true rfl) rfl rfl (zRn.mono (h60 hk (by omega) (by rw [aPut_f (by decide), aPut_f (by decide)]; omega)) (fun rv h' hq => ?_))
  obtain ⟨rfl, e1, rfl, r1⟩ := hq
  rw [aPut_f (by decide), aPut_f (by decide)] at r1
  rw [aPut_r (by decide), aPut_r (by decide)] at r1
  have be1 := iG (M1 202 ((M1 188 25).toInt).toNat)
  refine ⟨rfl, ?_⟩
  show zW X _ 65 3 [.istore 1, .iload 1, .bipush (-1), .if_icmp .ne 5] [.ref 188, u1] [iv e1] (gH k (aPut (aPut M1 188 26 (Int32.ofInt (M1 188 25).toInt)) 188 27 (Int32.ofInt 1))) _
  refine wP (ls' := [.ref 188, iv e1]) (st' := []) rfl rfl ?_
  refine wP (ls' := [.ref 188, iv e1]) (st' := [iv e1]) rfl rfl ?_
  refine wP (ls' := [.ref 188, iv e1]) (st' := [iv (-1), iv e1]) rfl rfl ?_
  refine wIfc (n1 := 5) rfl bk_65_5 bk_65_4 (by omega) (by omega) (fun g0 => ?_) (fun g0 => ?_)
  · replace g0 : ¬ e1 = (-1) := g0
    refine wP (ls' := [.ref 188, iv e1]) (st' := [.ref 188]) rfl rfl ?_
    refine wP (ls' := [.ref 188, iv e1]) (st' := [.ref 188, .ref 188]) rfl rfl ?_
    refine wGetN hk (f := 25) (e := (M1 188 25).toInt) (by decide +kernel) (by rw [aPut_f (by decide), aPut_f (by decide)]; exact iE _) ?_
    refine wP (ls' := [.ref 188, iv e1]) (st' := [iv 1, iv (M1 188 25).toInt, .ref 188]) rfl rfl ?_
    refine wAdd ?_
    refine wPutN hk (f := 25) (by decide +kernel) (Or.inl rfl) ?_
    refine wP (ls' := [.ref 188, iv e1]) (st' := [.ref 188]) rfl rfl ?_
    refine wP (ls' := [.ref 188, iv e1]) (st' := [iv e1, .ref 188]) rfl rfl ?_
    refine wPutN hk (f := 28) (by decide +kernel) (Or.inl rfl) ?_
    refine wP (ls' := [.ref 188, iv e1]) (st' := [.ref 188]) rfl rfl ?_
    refine wP (ls' := [.ref 188, iv e1]) (st' := [iv e1, .ref 188]) rfl rfl ?_
    refine wCall hk (q := 61) (na := 1) (a := 188) (as := [iv e1]) (t := []) rfl (by decide +kernel) (by decide) (by decide +kernel) (Nat.le_of_ble_eq_true rfl) rfl rfl (zRn.mono (h61 hk (by omega)) (fun rv h' hq => ?_))
    obtain ⟨rfl, e2, rfl, r2⟩ := hq
    refine ⟨rfl, ?_⟩
    show zW X _ 65 5 [.ifCond .eq 10] [.ref 188, iv e1] [iv e2] (gH k (aPut (aPut (aPut (aPut M1 188 26 (Int32.ofInt (M1 188 25).toInt)) 188 27 (Int32.ofInt 1)) 188 25 (Int32.ofInt ((M1 188 25).toInt + 1))) 188 28 (Int32.ofInt e1))) _
    refine wIf0 (n1 := 10) rfl bk_65_10 bk_65_6 (by omega) (fun g1 => ?_) (fun g1 => ?_)
    · replace g1 : e2 = 0 := g1
      refine wP (ls' := [.ref 188, iv e1]) (st' := [.ref 188]) rfl rfl ?_
      refine wP (ls' := [.ref 188, iv e1]) (st' := [iv e1, .ref 188]) rfl rfl ?_
      refine wCall hk (q := 62) (na := 1) (a := 188) (as := [iv e1]) (t := []) rfl (by decide +kernel) (by decide) (by decide +kernel) (Nat.le_of_ble_eq_true rfl) rfl rfl (zRn.mono (h62 hk (by omega)) (fun rv h' hq => ?_))
      obtain ⟨rfl, e3, rfl, r3⟩ := hq
      refine ⟨rfl, ?_⟩
      show zW X _ 65 10 [.ifCond .eq 19] [.ref 188, iv e1] [iv e3] (gH k (aPut (aPut (aPut (aPut M1 188 26 (Int32.ofInt (M1 188 25).toInt)) 188 27 (Int32.ofInt 1)) 188 25 (Int32.ofInt ((M1 188 25).toInt + 1))) 188 28 (Int32.ofInt e1))) _
      refine wIf0 (n1 := 19) rfl bk_65_19 bk_65_11 (by omega) (fun g2 => ?_) (fun g2 => ?_)
      · replace g2 : e3 = 0 := g2
        refine wP (ls' := [.ref 188, iv e1]) (st' := [.ref 188]) rfl rfl ?_
        refine wP (ls' := [.ref 188, iv e1]) (st' := [iv e1, .ref 188]) rfl rfl ?_
        refine wCall hk (q := 63) (na := 1) (a := 188) (as := [iv e1]) (t := []) rfl (by decide +kernel) (by decide) (by decide +kernel) (Nat.le_of_ble_eq_true rfl) rfl rfl (zRn.mono (h63 hk (by omega)) (fun rv h' hq => ?_))
        obtain ⟨rfl, e4, rfl, r4⟩ := hq
        refine ⟨rfl, ?_⟩
        show zW X _ 65 19 [.ifCond .eq 21] [.ref 188, iv e1] [iv e4] (gH k (aPut (aPut (aPut (aPut M1 188 26 (Int32.ofInt (M1 188 25).toInt)) 188 27 (Int32.ofInt 1)) 188 25 (Int32.ofInt ((M1 188 25).toInt + 1))) 188 28 (Int32.ofInt e1))) _
        refine wIf0 (n1 := 21) rfl bk_65_21 bk_65_20 (by omega) (fun g3 => ?_) (fun g3 => ?_)
        · replace g3 : e4 = 0 := g3
          refine wRet0 (by decide +kernel) ⟨_, rfl, rfl, ?_⟩
          have v25 : ((aPut (aPut (aPut (aPut M1 188 26 (Int32.ofInt (M1 188 25).toInt)) 188 27 (Int32.ofInt 1)) 188 25 (Int32.ofInt ((M1 188 25).toInt + 1))) 188 28 (Int32.ofInt e1)) 188 25).toInt = ((M1 188 25).toInt + 1) := by rw [aPut_f (by decide), aPut_e]; first | (exact iR (by omega) (by omega)) | (exact congrArg Int32.toInt (iE _).symm)
          have v26 : ((aPut (aPut (aPut (aPut M1 188 26 (Int32.ofInt (M1 188 25).toInt)) 188 27 (Int32.ofInt 1)) 188 25 (Int32.ofInt ((M1 188 25).toInt + 1))) 188 28 (Int32.ofInt e1)) 188 26).toInt = (M1 188 25).toInt := by rw [aPut_f (by decide), aPut_f (by decide), aPut_f (by decide), aPut_e]; first | (exact iR (by omega) (by omega)) | (exact congrArg Int32.toInt (iE _).symm)
          have v27 : ((aPut (aPut (aPut (aPut M1 188 26 (Int32.ofInt (M1 188 25).toInt)) 188 27 (Int32.ofInt 1)) 188 25 (Int32.ofInt ((M1 188 25).toInt + 1))) 188 28 (Int32.ofInt e1)) 188 27).toInt = 1 := by rw [aPut_f (by decide), aPut_f (by decide), aPut_e]; first | (exact iR (by omega) (by omega)) | (exact congrArg Int32.toInt (iE _).symm)
          have v28 : ((aPut (aPut (aPut (aPut M1 188 26 (Int32.ofInt (M1 188 25).toInt)) 188 27 (Int32.ofInt 1)) 188 25 (Int32.ofInt ((M1 188 25).toInt + 1))) 188 28 (Int32.ofInt e1)) 188 28).toInt = e1 := by rw [aPut_e]; first | (exact iR (by omega) (by omega)) | (exact congrArg Int32.toInt (iE _).symm)
          exact ⟨(fun a ha => by rw [aPut_r ha, aPut_r ha, aPut_r ha, aPut_r ha]; exact hA a ha), (fun f f1 f2 f3 f4 => by rw [aPut_f f4, aPut_f f1, aPut_f f3, aPut_f f2]; exact hF f f1 f2 f3 f4), by omega, by omega, by omega, by omega, by omega, fun _ => by omega, fun _ => by omega, fun _ => by omega⟩
        · replace g3 : ¬ (e4 = 0) := g3
          refine wP (ls' := [.ref 188, iv e1]) (st' := [.ref 188]) rfl rfl ?_
          refine wP (ls' := [.ref 188, iv e1]) (st' := [iv 4, .ref 188]) rfl rfl ?_
          refine wPutN hk (f := 27) (by decide +kernel) (Or.inl rfl) ?_
          refine zW_fall bk_65_21 ?_
          refine wRet0 (by decide +kernel) ⟨_, rfl, rfl, ?_⟩
          have v25 : ((aPut (aPut (aPut (aPut (aPut M1 188 26 (Int32.ofInt (M1 188 25).toInt)) 188 27 (Int32.ofInt 1)) 188 25 (Int32.ofInt ((M1 188 25).toInt + 1))) 188 28 (Int32.ofInt e1)) 188 27 (Int32.ofInt 4)) 188 25).toInt = ((M1 188 25).toInt + 1) := by rw [aPut_f (by decide), aPut_f (by decide), aPut_e]; first | (exact iR (by omega) (by omega)) | (exact congrArg Int32.toInt (iE _).symm)
          have v26 : ((aPut (aPut (aPut (aPut (aPut M1 188 26 (Int32.ofInt (M1 188 25).toInt)) 188 27 (Int32.ofInt 1)) 188 25 (Int32.ofInt ((M1 188 25).toInt + 1))) 188 28 (Int32.ofInt e1)) 188 27 (Int32.ofInt 4)) 188 26).toInt = (M1 188 25).toInt := by rw [aPut_f (by decide), aPut_f (by decide), aPut_f (by decide), aPut_f (by decide), aPut_e]; first | (exact iR (by omega) (by omega)) | (exact congrArg Int32.toInt (iE _).symm)
          have v27 : ((aPut (aPut (aPut (aPut (aPut M1 188 26 (Int32.ofInt (M1 188 25).toInt)) 188 27 (Int32.ofInt 1)) 188 25 (Int32.ofInt ((M1 188 25).toInt + 1))) 188 28 (Int32.ofInt e1)) 188 27 (Int32.ofInt 4)) 188 27).toInt = 4 := by rw [aPut_e]; first | (exact iR (by omega) (by omega)) | (exact congrArg Int32.toInt (iE _).symm)
          have v28 : ((aPut (aPut (aPut (aPut (aPut M1 188 26 (Int32.ofInt (M1 188 25).toInt)) 188 27 (Int32.ofInt 1)) 188 25 (Int32.ofInt ((M1 188 25).toInt + 1))) 188 28 (Int32.ofInt e1)) 188 27 (Int32.ofInt 4)) 188 28).toInt = e1 := by rw [aPut_f (by decide), aPut_e]; first | (exact iR (by omega) (by omega)) | (exact congrArg Int32.toInt (iE _).symm)
          exact ⟨(fun a ha => by rw [aPut_r ha, aPut_r ha, aPut_r ha, aPut_r ha, aPut_r ha]; exact hA a ha), (fun f f1 f2 f3 f4 => by rw [aPut_f f3, aPut_f f4, aPut_f f1, aPut_f f3, aPut_f f2]; exact hF f f1 f2 f3 f4), by omega, by omega, by omega, by omega, by omega, fun _ => by omega, fun _ => by omega, fun _ => by omega⟩
      · replace g2 : ¬ (e3 = 0) := g2
        refine wP (ls' := [.ref 188, iv e1]) (st' := [.ref 188]) rfl rfl ?_
        refine wP (ls' := [.ref 188, iv e1]) (st' := [iv e1, .ref 188]) rfl rfl ?_
        refine wP (ls' := [.ref 188, iv e1]) (st' := [iv 48, iv e1, .ref 188]) rfl rfl ?_
        refine wSub ?_
        refine wPutN hk (f := 28) (by decide +kernel) (Or.inl rfl) ?_
        refine zW_fall bk_65_12 ?_
        have v25 : ((aPut (aPut (aPut (aPut (aPut M1 188 26 (Int32.ofInt (M1 188 25).toInt)) 188 27 (Int32.ofInt 1)) 188 25 (Int32.ofInt ((M1 188 25).toInt + 1))) 188 28 (Int32.ofInt e1)) 188 28 (Int32.ofInt (e1 - 48))) 188 25).toInt = ((M1 188 25).toInt + 1) := by rw [aPut_f (by decide), aPut_f (by decide), aPut_e]; first | (exact iR (by omega) (by omega)) | (exact congrArg Int32.toInt (iE _).symm)
        have v26 : ((aPut (aPut (aPut (aPut (aPut M1 188 26 (Int32.ofInt (M1 188 25).toInt)) 188 27 (Int32.ofInt 1)) 188 25 (Int32.ofInt ((M1 188 25).toInt + 1))) 188 28 (Int32.ofInt e1)) 188 28 (Int32.ofInt (e1 - 48))) 188 26).toInt = (M1 188 25).toInt := by rw [aPut_f (by decide), aPut_f (by decide), aPut_f (by decide), aPut_f (by decide), aPut_e]; first | (exact iR (by omega) (by omega)) | (exact congrArg Int32.toInt (iE _).symm)
        have v27 : ((aPut (aPut (aPut (aPut (aPut M1 188 26 (Int32.ofInt (M1 188 25).toInt)) 188 27 (Int32.ofInt 1)) 188 25 (Int32.ofInt ((M1 188 25).toInt + 1))) 188 28 (Int32.ofInt e1)) 188 28 (Int32.ofInt (e1 - 48))) 188 27).toInt = 1 := by rw [aPut_f (by decide), aPut_f (by decide), aPut_f (by decide), aPut_e]; first | (exact iR (by omega) (by omega)) | (exact congrArg Int32.toInt (iE _).symm)
        have v28 : ((aPut (aPut (aPut (aPut (aPut M1 188 26 (Int32.ofInt (M1 188 25).toInt)) 188 27 (Int32.ofInt 1)) 188 25 (Int32.ofInt ((M1 188 25).toInt + 1))) 188 28 (Int32.ofInt e1)) 188 28 (Int32.ofInt (e1 - 48))) 188 28).toInt = (e1 - 48) := by rw [aPut_e]; first | (exact iR (by omega) (by omega)) | (exact congrArg Int32.toInt (iE _).symm)
        exact h65_l3 hk ht h0 hw (f0 := (M1 188 25).toInt) hs1 ((M 188 24).toInt).toNat (aPut (aPut (aPut (aPut (aPut M1 188 26 (Int32.ofInt (M1 188 25).toInt)) 188 27 (Int32.ofInt 1)) 188 25 (Int32.ofInt ((M1 188 25).toInt + 1))) 188 28 (Int32.ofInt e1)) 188 28 (Int32.ofInt (e1 - 48))) (fun a ha => by rw [aPut_r ha, aPut_r ha, aPut_r ha, aPut_r ha, aPut_r ha]; exact hA a ha) (fun f f1 f2 f3 f4 => by rw [aPut_f f4, aPut_f f4, aPut_f f1, aPut_f f3, aPut_f f2]; exact hF f f1 f2 f3 f4) (by omega) (by omega) (by omega) (by omega) (by omega) (by omega)
    · replace g1 : ¬ (e2 = 0) := g1
      have v25 : ((aPut (aPut (aPut (aPut M1 188 26 (Int32.ofInt (M1 188 25).toInt)) 188 27 (Int32.ofInt 1)) 188 25 (Int32.ofInt ((M1 188 25).toInt + 1))) 188 28 (Int32.ofInt e1)) 188 25).toInt = ((M1 188 25).toInt + 1) := by rw [aPut_f (by decide), aPut_e]; first | (exact iR (by omega) (by omega)) | (exact congrArg Int32.toInt (iE _).symm)
      have v26 : ((aPut (aPut (aPut (aPut M1 188 26 (Int32.ofInt (M1 188 25).toInt)) 188 27 (Int32.ofInt 1)) 188 25 (Int32.ofInt ((M1 188 25).toInt + 1))) 188 28 (Int32.ofInt e1)) 188 26).toInt = (M1 188 25).toInt := by rw [aPut_f (by decide), aPut_f (by decide), aPut_f (by decide), aPut_e]; first | (exact iR (by omega) (by omega)) | (exact congrArg Int32.toInt (iE _).symm)
      have v27 : ((aPut (aPut (aPut (aPut M1 188 26 (Int32.ofInt (M1 188 25).toInt)) 188 27 (Int32.ofInt 1)) 188 25 (Int32.ofInt ((M1 188 25).toInt + 1))) 188 28 (Int32.ofInt e1)) 188 27).toInt = 1 := by rw [aPut_f (by decide), aPut_f (by decide), aPut_e]; first | (exact iR (by omega) (by omega)) | (exact congrArg Int32.toInt (iE _).symm)
      exact h65_l2 hk ht h0 hw (f0 := (M1 188 25).toInt) hs1 ((M 188 24).toInt).toNat (aPut (aPut (aPut (aPut M1 188 26 (Int32.ofInt (M1 188 25).toInt)) 188 27 (Int32.ofInt 1)) 188 25 (Int32.ofInt ((M1 188 25).toInt + 1))) 188 28 (Int32.ofInt e1)) (fun a ha => by rw [aPut_r ha, aPut_r ha, aPut_r ha, aPut_r ha]; exact hA a ha) (fun f f1 f2 f3 f4 => by rw [aPut_f f4, aPut_f f1, aPut_f f3, aPut_f f2]; exact hF f f1 f2 f3 f4) (by omega) (by omega) (by omega) (by omega) (fun j j1 j2 => by
          have e1 : j = ((M1 188 25).toInt).toNat := by omega
          unfold gLet
          rw [e1, ← a202]
          omega) (by omega)
  · replace g0 : ¬ (¬ e1 = (-1)) := g0
    refine wP (ls' := [.ref 188, iv e1]) (st' := [.ref 188]) rfl rfl ?_
    refine wP (ls' := [.ref 188, iv e1]) (st' := [iv 0, .ref 188]) rfl rfl ?_
    refine wPutN hk (f := 27) (by decide +kernel) (Or.inl rfl) ?_
    refine wRet0 (by decide +kernel) ⟨_, rfl, rfl, ?_⟩
    have v25 : ((aPut (aPut (aPut M1 188 26 (Int32.ofInt (M1 188 25).toInt)) 188 27 (Int32.ofInt 1)) 188 27 (Int32.ofInt 0)) 188 25).toInt = (M1 188 25).toInt := by rw [aPut_f (by decide), aPut_f (by decide), aPut_f (by decide)]
    have v26 : ((aPut (aPut (aPut M1 188 26 (Int32.ofInt (M1 188 25).toInt)) 188 27 (Int32.ofInt 1)) 188 27 (Int32.ofInt 0)) 188 26).toInt = (M1 188 25).toInt := by rw [aPut_f (by decide), aPut_f (by decide), aPut_e]; first | (exact iR (by omega) (by omega)) | (exact congrArg Int32.toInt (iE _).symm)
    have v27 : ((aPut (aPut (aPut M1 188 26 (Int32.ofInt (M1 188 25).toInt)) 188 27 (Int32.ofInt 1)) 188 27 (Int32.ofInt 0)) 188 27).toInt = 0 := by rw [aPut_e]; first | (exact iR (by omega) (by omega)) | (exact congrArg Int32.toInt (iE _).symm)
    have v28 : ((aPut (aPut (aPut M1 188 26 (Int32.ofInt (M1 188 25).toInt)) 188 27 (Int32.ofInt 1)) 188 27 (Int32.ofInt 0)) 188 28).toInt = (M1 188 28).toInt := by rw [aPut_f (by decide), aPut_f (by decide), aPut_f (by decide)]
    exact ⟨(fun a ha => by rw [aPut_r ha, aPut_r ha, aPut_r ha]; exact hA a ha), (fun f f1 f2 f3 f4 => by rw [aPut_f f3, aPut_f f3, aPut_f f2]; exact hF f f1 f2 f3 f4), by omega, by omega, by omega, by omega, by omega, fun _ => by omega, fun _ => by omega, fun _ => by omega⟩
theorem h65_l1 {X : aX} {d : Nat} {k : Nat → aK} (hk : gKs k) {M : Nat → Nat → Int32} (ht : 0 ≤ (M 188 24).toInt ∧ (M 188 24).toInt ≤ 500) (h0 : 0 ≤ (M 188 25).toInt) (hw : ∀ j, j < 156 → M 203 j = Int32.ofInt (gWd.getD j 0)) {u1 : Value} :
    ∀ (n : Nat) (M1 : Nat → Nat → Int32) (hA : ∀ a, a ≠ 188 → M1 a = M a) (hF : ∀ f, f ≠ 25 → f ≠ 26 → f ≠ 27 → f ≠ 28 → M1 188 f = M 188 f) (hs1 : (M 188 25).toInt ≤ (M1 188 25).toInt) (hs2 : (M1 188 25).toInt ≤ (M 188 24).toInt), (M 188 24).toInt - (M1 188 25).toInt ≤ n → zW X (d + 1 + 1 + 1) 65 0 [.aload 0, .aload 0, .getfield 126712100, .invokevirtual 1536060, .bipush 32, .if_icmp .eq 2] [.ref 188, u1] [] (gH k M1) (fun rv h' => ∃ M', rv = none ∧ h' = gH k M' ∧ gRd M M') := by
  intro n
  induction n with
  | zero =>
    intro M1 hA hF hs1 hs2 hn
    have t1 : (M1 188 24).toInt = (M 188 24).toInt := by rw [hF 24 (by decide) (by decide) (by decide) (by decide)]
    have a202 : M1 202 = M 202 := hA 202 (by decide)
    refine wP (ls' := [.ref 188, u1]) (st' := [.ref 188]) rfl rfl ?_
    refine wP (ls' := [.ref 188, u1]) (st' := [.ref 188, .ref 188]) rfl rfl ?_
    refine wGetN hk (f := 25) (e := (M1 188 25).toInt) (by decide +kernel) (iE _) ?_
    refine wCall hk (q := 60) (na := 1) (a := 188) (as := [iv (M1 188 25).toInt]) (t := []) rfl (by decide +kernel) (by decide) (by decide +kernel) (Nat.le_of_ble_eq_true rfl) rfl rfl (zRn.mono (h60 hk (by omega) (by omega)) (fun rv h' hq => ?_))
    obtain ⟨rfl, e1, rfl, r1⟩ := hq
    have be1 := iG (M1 202 ((M1 188 25).toInt).toNat)
    refine ⟨rfl, ?_⟩
    show zW X _ 65 0 [.bipush 32, .if_icmp .eq 2] [.ref 188, u1] [iv e1] (gH k M1) _
    refine wP (ls' := [.ref 188, u1]) (st' := [iv 32, iv e1]) rfl rfl ?_
    refine wIfc (n1 := 2) rfl bk_65_2 bk_65_1 (by omega) (by omega) (fun g0 => ?_) (fun g0 => ?_)
    · replace g0 : e1 = 32 := g0
      exact absurd g0 (by omega)
    · replace g0 : ¬ (e1 = 32) := g0
      refine wP (ls' := [.ref 188, u1]) (st' := [.ref 188]) rfl rfl ?_
      refine wP (ls' := [.ref 188, u1]) (st' := [.ref 188, .ref 188]) rfl rfl ?_
      refine wGetN hk (f := 25) (e := (M1 188 25).toInt) (by decide +kernel) (iE _) ?_
      refine wCall hk (q := 60) (na := 1) (a := 188) (as := [iv (M1 188 25).toInt]) (t := []) rfl (by decide +kernel) (by decide) (by decide +kernel) (Nat.le_of_ble_eq_true rfl) rfl rfl (zRn.mono (h60 hk (by omega) (by omega)) (fun rv h' hq => ?_))
      obtain ⟨rfl, e2, rfl, r2⟩ := hq
      have be2 := iG (M1 202 ((M1 188 25).toInt).toNat)
      refine ⟨rfl, ?_⟩
      show zW X _ 65 1 [.bipush 10, .if_icmp .ne 3] [.ref 188, u1] [iv e2] (gH k M1) _
      refine wP (ls' := [.ref 188, u1]) (st' := [iv 10, iv e2]) rfl rfl ?_
      refine wIfc (n1 := 3) rfl bk_65_3 bk_65_2 (by omega) (by omega) (fun g1 => ?_) (fun g1 => ?_)
      · replace g1 : ¬ e2 = 10 := g1
        have v25 : (M1 188 25).toInt = (M1 188 25).toInt := rfl
        exact h65_r hk ht h0 hw (fun a ha => hA a ha) (fun f f1 f2 f3 f4 => hF f f1 f2 f3 f4) (by omega) (by omega)
      · replace g1 : ¬ (¬ e2 = 10) := g1
        exact absurd g1 (by omega)
  | succ n ih =>
    intro M1 hA hF hs1 hs2 hn
    have t1 : (M1 188 24).toInt = (M 188 24).toInt := by rw [hF 24 (by decide) (by decide) (by decide) (by decide)]
    have a202 : M1 202 = M 202 := hA 202 (by decide)
    refine wP (ls' := [.ref 188, u1]) (st' := [.ref 188]) rfl rfl ?_
    refine wP (ls' := [.ref 188, u1]) (st' := [.ref 188, .ref 188]) rfl rfl ?_
    refine wGetN hk (f := 25) (e := (M1 188 25).toInt) (by decide +kernel) (iE _) ?_
    refine wCall hk (q := 60) (na := 1) (a := 188) (as := [iv (M1 188 25).toInt]) (t := []) rfl (by decide +kernel) (by decide) (by decide +kernel) (Nat.le_of_ble_eq_true rfl) rfl rfl (zRn.mono (h60 hk (by omega) (by omega)) (fun rv h' hq => ?_))
    obtain ⟨rfl, e1, rfl, r1⟩ := hq
    have be1 := iG (M1 202 ((M1 188 25).toInt).toNat)
    refine ⟨rfl, ?_⟩
    show zW X _ 65 0 [.bipush 32, .if_icmp .eq 2] [.ref 188, u1] [iv e1] (gH k M1) _
    refine wP (ls' := [.ref 188, u1]) (st' := [iv 32, iv e1]) rfl rfl ?_
    refine wIfc (n1 := 2) rfl bk_65_2 bk_65_1 (by omega) (by omega) (fun g0 => ?_) (fun g0 => ?_)
    · replace g0 : e1 = 32 := g0
      refine wP (ls' := [.ref 188, u1]) (st' := [.ref 188]) rfl rfl ?_
      refine wP (ls' := [.ref 188, u1]) (st' := [.ref 188, .ref 188]) rfl rfl ?_
      refine wGetN hk (f := 25) (e := (M1 188 25).toInt) (by decide +kernel) (iE _) ?_
      refine wP (ls' := [.ref 188, u1]) (st' := [iv 1, iv (M1 188 25).toInt, .ref 188]) rfl rfl ?_
      refine wAdd ?_
      refine wPutN hk (f := 25) (by decide +kernel) (Or.inl rfl) ?_
      refine wGoto (n1 := 0) rfl bk_65_0 ?_
      have v25 : ((aPut M1 188 25 (Int32.ofInt ((M1 188 25).toInt + 1))) 188 25).toInt = ((M1 188 25).toInt + 1) := by rw [aPut_e]; first | (exact iR (by omega) (by omega)) | (exact congrArg Int32.toInt (iE _).symm)
      exact ih (aPut M1 188 25 (Int32.ofInt ((M1 188 25).toInt + 1))) (fun a ha => by rw [aPut_r ha]; exact hA a ha) (fun f f1 f2 f3 f4 => by rw [aPut_f f1]; exact hF f f1 f2 f3 f4) (by omega) (by omega) (by omega)
    · replace g0 : ¬ (e1 = 32) := g0
      refine wP (ls' := [.ref 188, u1]) (st' := [.ref 188]) rfl rfl ?_
      refine wP (ls' := [.ref 188, u1]) (st' := [.ref 188, .ref 188]) rfl rfl ?_
      refine wGetN hk (f := 25) (e := (M1 188 25).toInt) (by decide +kernel) (iE _) ?_
      refine wCall hk (q := 60) (na := 1) (a := 188) (as := [iv (M1 188 25).toInt]) (t := []) rfl (by decide +kernel) (by decide) (by decide +kernel) (Nat.le_of_ble_eq_true rfl) rfl rfl (zRn.mono (h60 hk (by omega) (by omega)) (fun rv h' hq => ?_))
      obtain ⟨rfl, e2, rfl, r2⟩ := hq
      have be2 := iG (M1 202 ((M1 188 25).toInt).toNat)
      refine ⟨rfl, ?_⟩
      show zW X _ 65 1 [.bipush 10, .if_icmp .ne 3] [.ref 188, u1] [iv e2] (gH k M1) _
      refine wP (ls' := [.ref 188, u1]) (st' := [iv 10, iv e2]) rfl rfl ?_
      refine wIfc (n1 := 3) rfl bk_65_3 bk_65_2 (by omega) (by omega) (fun g1 => ?_) (fun g1 => ?_)
      · replace g1 : ¬ e2 = 10 := g1
        have v25 : (M1 188 25).toInt = (M1 188 25).toInt := rfl
        exact h65_r hk ht h0 hw (fun a ha => hA a ha) (fun f f1 f2 f3 f4 => hF f f1 f2 f3 f4) (by omega) (by omega)
      · replace g1 : ¬ (¬ e2 = 10) := g1
        refine wP (ls' := [.ref 188, u1]) (st' := [.ref 188]) rfl rfl ?_
        refine wP (ls' := [.ref 188, u1]) (st' := [.ref 188, .ref 188]) rfl rfl ?_
        refine wGetN hk (f := 25) (e := (M1 188 25).toInt) (by decide +kernel) (iE _) ?_
        refine wP (ls' := [.ref 188, u1]) (st' := [iv 1, iv (M1 188 25).toInt, .ref 188]) rfl rfl ?_
        refine wAdd ?_
        refine wPutN hk (f := 25) (by decide +kernel) (Or.inl rfl) ?_
        refine wGoto (n1 := 0) rfl bk_65_0 ?_
        have v25 : ((aPut M1 188 25 (Int32.ofInt ((M1 188 25).toInt + 1))) 188 25).toInt = ((M1 188 25).toInt + 1) := by rw [aPut_e]; first | (exact iR (by omega) (by omega)) | (exact congrArg Int32.toInt (iE _).symm)
        exact ih (aPut M1 188 25 (Int32.ofInt ((M1 188 25).toInt + 1))) (fun a ha => by rw [aPut_r ha]; exact hA a ha) (fun f f1 f2 f3 f4 => by rw [aPut_f f1]; exact hF f f1 f2 f3 f4) (by omega) (by omega) (by omega)
theorem h65 {X : aX} {d : Nat} {k : Nat → aK} (hk : gKs k) {M : Nat → Nat → Int32} (ht : 0 ≤ (M 188 24).toInt ∧ (M 188 24).toInt ≤ 500) (h0 : 0 ≤ (M 188 25).toInt) (hw : ∀ j, j < 156 → M 203 j = Int32.ofInt (gWd.getD j 0)) (hst : (M 188 25).toInt ≤ (M 188 24).toInt) :
    zRn X (d + 1 + 1 + 1 + 1) 65 [.ref 188] (gH k M) (fun rv h' => ∃ M', rv = none ∧ h' = gH k M' ∧ gRd M M') := by
  refine wEnt (n := 2) (ls := [.ref 188, aD]) bk_65_0 (by decide +kernel) rfl rfl rfl ?_
  exact h65_l1 hk ht h0 hw ((M 188 24).toInt).toNat M (fun _ _ => rfl) (fun _ _ _ _ _ => rfl) (Int.le_refl _) hst (by omega)
/-! the reference's reader: what its parts keep, what the codes come to -/
/-- what reading a token wants -/
def gPre (M : Nat → Nat → Int32) : Prop := 0 ≤ (M 188 24).toInt ∧ (M 188 24).toInt ≤ 500 ∧ 0 ≤ (M 188 25).toInt ∧ (M 188 25).toInt ≤ (M 188 24).toInt ∧ gWords (M 203)
/-- a token has been read -/
def gTs (M : Nat → Nat → Int32) : Prop := gPre M ∧ 0 ≤ (M 188 26).toInt ∧ (M 188 26).toInt ≤ (M 188 25).toInt ∧ 0 ≤ (M 188 27).toInt ∧ (M 188 27).toInt ≤ 4 ∧ ((M 188 27).toInt ≠ 0 → (M 188 26).toInt < (M 188 25).toInt) ∧ ((M 188 27).toInt = 2 → 0 ≤ (M 188 28).toInt ∧ (M 188 28).toInt ≤ 28) ∧ ((M 188 27).toInt = 3 → 0 ≤ (M 188 28).toInt)
/-- what changes nothing but tokens, codes of the draft, faults -/
def gFr (M M' : Nat → Nat → Int32) : Prop := (∀ a, a ≠ 188 → a ≠ 210 → a ≠ 211 → M' a = M a) ∧ (∀ i, i < 2000 → M' 210 i = M 210 i ∧ M' 211 i = M 211 i) ∧ (∀ f, f ≠ 25 → f ≠ 26 → f ≠ 27 → f ≠ 28 → f ≠ 38 → f ≠ 42 → f ≠ 43 → M' 188 f = M 188 f)
theorem gFr.refl {M : Nat → Nat → Int32} : gFr M M := ⟨fun _ _ _ _ => rfl, fun _ _ => ⟨rfl, rfl⟩, fun _ _ _ _ _ _ _ _ => rfl⟩
theorem gFr.trans {M M1 M2 : Nat → Nat → Int32} (h : gFr M M1) (h' : gFr M1 M2) : gFr M M2 :=
  ⟨fun a a1 a2 a3 => (h'.1 a a1 a2 a3).trans (h.1 a a1 a2 a3), fun i hi => ⟨(h'.2.1 i hi).1.trans (h.2.1 i hi).1, (h'.2.1 i hi).2.trans (h.2.1 i hi).2⟩, fun f f1 f2 f3 f4 f5 f6 f7 => (h'.2.2 f f1 f2 f3 f4 f5 f6 f7).trans (h.2.2 f f1 f2 f3 f4 f5 f6 f7)⟩
theorem gPre_put {M : Nat → Nat → Int32} {a j : Nat} {x : Int32} (h : gPre M) (h1 : a ≠ 203) (h2 : a = 188 → j ≠ 24 ∧ j ≠ 25) : gPre (aPut M a j x) := by
  have e24 : aPut M a j x 188 24 = M 188 24 := by
    by_cases q : a = 188
    · subst q; exact aPut_f (fun z => (h2 rfl).1 z.symm)
    · exact aPut_o (fun z => q z.symm)
  have e25 : aPut M a j x 188 25 = M 188 25 := by
    by_cases q : a = 188
    · subst q; exact aPut_f (fun z => (h2 rfl).2 z.symm)
    · exact aPut_o (fun z => q z.symm)
  unfold gPre
  rw [e24, e25, aPut_r (fun z => h1 z.symm)]
  exact h
theorem gTs_put {M : Nat → Nat → Int32} {a j : Nat} {x : Int32} (h : gTs M) (h1 : a ≠ 203) (h2 : a = 188 → j ≠ 24 ∧ j ≠ 25 ∧ j ≠ 26 ∧ j ≠ 27 ∧ j ≠ 28) : gTs (aPut M a j x) := by
  have e : ∀ f, f = 26 ∨ f = 27 ∨ f = 28 ∨ f = 25 → aPut M a j x 188 f = M 188 f := fun f hf => by
    by_cases q : a = 188
    · subst q; exact aPut_f (fun z => by have := h2 rfl; omega)
    · exact aPut_o (fun z => q z.symm)
  unfold gTs
  rw [e 26 (by omega), e 27 (by omega), e 28 (by omega), e 25 (by omega)]
  exact ⟨gPre_put h.1 h1 (fun q => by have := h2 q; omega), h.2⟩
/-- a token more -/
theorem gRd_s {M M' : Nat → Nat → Int32} (h : gRd M M') (hp : gPre M) : gTs M' ∧ gFr M M' ∧ (M' 188 38 = M 188 38) ∧ M' 210 = M 210 ∧ M' 211 = M 211 ∧ (M 188 25).toInt ≤ (M' 188 26).toInt := by
  obtain ⟨r1, r2, r3, r4, r5, r6, r7, r8, r9, r10⟩ := h
  obtain ⟨p1, p2, p3, p4, p5⟩ := hp
  have e24 := r2 24 (by decide) (by decide) (by decide) (by decide)
  refine ⟨⟨⟨by rw [e24]; exact p1, by rw [e24]; exact p2, by omega, by rw [e24]; exact r5, by rw [r1 203 (by decide)]; exact p5⟩, by omega, r4, r6, r7, r8, r9, r10⟩, ⟨fun a a1 _ _ => r1 a a1, fun i _ => by rw [r1 210 (by decide), r1 211 (by decide)]; exact ⟨rfl, rfl⟩, fun f f1 f2 f3 f4 _ _ _ => r2 f f1 f2 f3 f4⟩, r2 38 (by decide) (by decide) (by decide) (by decide), r1 210 (by decide), r1 211 (by decide), r3⟩
/-- how many codes -/
def gMn (M : Nat → Nat → Int32) : Nat := (M 188 38).toInt.toNat
/-- a code more -/
def gEm (M : Nat → Nat → Int32) (w v : Int) : Nat → Nat → Int32 := aPut (aPut (aPut M 210 ((2000 + (M 188 38).toInt)).toNat (Int32.ofInt w)) 211 ((2000 + (M 188 38).toInt)).toNat (Int32.ofInt v)) 188 38 (Int32.ofInt ((M 188 38).toInt + 1))
/-- a fault -/
def gFa (M : Nat → Nat → Int32) (c : Int) : Nat → Nat → Int32 := aPut (aPut M 188 42 (Int32.ofInt c)) 188 43 (Int32.ofInt (M 188 26).toInt)
theorem gFa_s {M : Nat → Nat → Int32} {c : Int} (h : gTs M) : gTs (gFa M c) ∧ gFr M (gFa M c) ∧ gFa M c 188 38 = M 188 38 ∧ gFa M c 210 = M 210 ∧ gFa M c 211 = M 211 := by
  unfold gFa
  refine ⟨gTs_put (gTs_put h (by decide) (fun _ => by decide)) (by decide) (fun _ => by decide), ⟨fun a a1 _ _ => by rw [aPut_r a1, aPut_r a1], fun i _ => by rw [aPut_r (by decide), aPut_r (by decide), aPut_r (by decide), aPut_r (by decide)]; exact ⟨rfl, rfl⟩, fun f _ _ _ _ _ f6 f7 => by rw [aPut_f f7, aPut_f f6]⟩, by rw [aPut_f (by decide), aPut_f (by decide)], by rw [aPut_r (by decide), aPut_r (by decide)], by rw [aPut_r (by decide), aPut_r (by decide)]⟩
/-- what codes do: of p numbers on the stack at least, so many more -/
def gEff (M M' : Nat → Nat → Int32) (p : Nat) (e : Int) : Prop := gMn M ≤ gMn M' ∧ (∀ i, i < 2000 + gMn M → M' 210 i = M 210 i ∧ M' 211 i = M 211 i) ∧ ∀ S D, S ≤ gMn M → p ≤ D → gDep (M 210) (M 211) (2000 + S) (gMn M - S) = some D → ∃ D', gDep (M' 210) (M' 211) (2000 + S) (gMn M' - S) = some D' ∧ (D' : Int) = D + e
theorem gEff.trans {M M1 M2 : Nat → Nat → Int32} {p1 p2 : Nat} {e1 e2 : Int} (h : gEff M M1 p1 e1) (h' : gEff M1 M2 p2 e2) (hp : (p2 : Int) ≤ p1 + e1) : gEff M M2 p1 (e1 + e2) := by
  obtain ⟨a1, a2, a3⟩ := h
  obtain ⟨b1, b2, b3⟩ := h'
  refine ⟨by omega, fun i hi => ⟨(b2 i (by omega)).1.trans (a2 i hi).1, (b2 i (by omega)).2.trans (a2 i hi).2⟩, fun S D hS hD h => ?_⟩
  obtain ⟨D1, d1, d2⟩ := a3 S D hS hD h
  obtain ⟨D2, d3, d4⟩ := b3 S D1 (by omega) (by omega) d1
  exact ⟨D2, d3, by omega⟩
theorem gEff.refl {M : Nat → Nat → Int32} : gEff M M 0 0 := ⟨Nat.le_refl _, fun _ _ => ⟨rfl, rfl⟩, fun S D _ _ h => ⟨D, h, by omega⟩⟩
theorem gEff.of_eq {M M' : Nat → Nat → Int32} (h1 : M' 188 38 = M 188 38) (h2 : M' 210 = M 210) (h3 : M' 211 = M 211) : gEff M M' 0 0 := by
  have e : gMn M' = gMn M := by unfold gMn; rw [h1]
  refine ⟨by omega, fun _ _ => by rw [h2, h3]; exact ⟨rfl, rfl⟩, fun S D _ _ h => ⟨D, by rw [h2, h3, e]; exact h, by omega⟩⟩
theorem gEm_f {M : Nat → Nat → Int32} {w v : Int} {f : Nat} (hf : f ≠ 38) : gEm M w v 188 f = M 188 f := by
  unfold gEm
  rw [aPut_f hf, aPut_o (by decide), aPut_o (by decide)]
theorem gEm_m {M : Nat → Nat → Int32} {w v : Int} (hm : 0 ≤ (M 188 38).toInt ∧ (M 188 38).toInt < 500) : (gEm M w v 188 38).toInt = (M 188 38).toInt + 1 := by
  unfold gEm
  rw [aPut_e, iR (by omega) (by omega)]
theorem gEm_o {M : Nat → Nat → Int32} {w v : Int} : gEm M w v 210 (2000 + gMn M) = Int32.ofInt w ∨ (M 188 38).toInt < 0 := by
  by_cases q : (M 188 38).toInt < 0
  · exact Or.inr q
  · refine Or.inl ?_
    unfold gEm gMn
    rw [aPut_o (by decide), aPut_o (by decide), show (2000 + (M 188 38).toInt).toNat = 2000 + (M 188 38).toInt.toNat by omega, aPut_e]
theorem gEm_a {M : Nat → Nat → Int32} {w v : Int} : gEm M w v 211 (2000 + gMn M) = Int32.ofInt v ∨ (M 188 38).toInt < 0 := by
  by_cases q : (M 188 38).toInt < 0
  · exact Or.inr q
  · refine Or.inl ?_
    unfold gEm gMn
    rw [aPut_o (by decide), show (2000 + (M 188 38).toInt).toNat = 2000 + (M 188 38).toInt.toNat by omega, aPut_e]
theorem gEm_p {M : Nat → Nat → Int32} {w v : Int} (hm : 0 ≤ (M 188 38).toInt) {i : Nat} (hi : i ≠ 2000 + gMn M) : gEm M w v 210 i = M 210 i ∧ gEm M w v 211 i = M 211 i := by
  unfold gMn at hi
  unfold gEm
  rw [aPut_o (by decide), aPut_o (by decide), aPut_f (by omega), aPut_o (by decide), aPut_f (by omega), aPut_o (by decide)]
  exact ⟨rfl, rfl⟩
theorem gEm_c {M : Nat → Nat → Int32} {w v : Int} {a : Nat} (h1 : a ≠ 188) (h2 : a ≠ 210) (h3 : a ≠ 211) : gEm M w v a = M a := by
  unfold gEm
  rw [aPut_r h1, aPut_r h3, aPut_r h2]
theorem gEm_fr {M : Nat → Nat → Int32} {w v : Int} (hm : 0 ≤ (M 188 38).toInt) : gFr M (gEm M w v) :=
  ⟨fun a a1 a2 a3 => gEm_c a1 a2 a3, fun i hi => gEm_p hm (by omega), fun f _ _ _ _ f5 _ _ => gEm_f f5⟩
theorem gEm_ts {M : Nat → Nat → Int32} {w v : Int} (h : gTs M) : gTs (gEm M w v) := by
  unfold gEm
  exact gTs_put (gTs_put (gTs_put h (by decide) (fun q => absurd q (by decide))) (by decide) (fun q => absurd q (by decide))) (by decide) (fun _ => by decide)
theorem gEm_n {M : Nat → Nat → Int32} {w v : Int} (hm : 0 ≤ (M 188 38).toInt ∧ (M 188 38).toInt < 500) : gMn (gEm M w v) = gMn M + 1 := by
  unfold gMn
  rw [gEm_m hm]
  omega
/-- one code -/
theorem gEm_e {M : Nat → Nat → Int32} {w v : Int} {p : Nat} {e : Int} (hm : 0 ≤ (M 188 38).toInt ∧ (M 188 38).toInt < 500)
    (h : ∀ (O A : Nat → Int32) (s n D : Nat), p ≤ D → D ≤ n → s + n = 2000 + gMn M → gDep O A s n = some D → O (s + n) = Int32.ofInt w → A (s + n) = Int32.ofInt v → (∀ i, i < 2000 + gMn M → O i = M 210 i ∧ A i = M 211 i) → ∃ D', gDep O A s (n + 1) = some D' ∧ (D' : Int) = D + e) : gEff M (gEm M w v) p e := by
  have n1 := gEm_n (w := w) (v := v) hm
  refine ⟨by omega, fun i hi => gEm_p hm.1 (by omega), fun S D hS hD hd => ?_⟩
  have e1 : gDep (gEm M w v 210) (gEm M w v 211) (2000 + S) (gMn M - S) = some D := by
    rw [gDep_eq (gMn M - S) (fun i h1 h2 => gEm_p hm.1 (by omega))]
    exact hd
  have o : gEm M w v 210 (2000 + gMn M) = Int32.ofInt w := by rcases gEm_o (M := M) (w := w) (v := v) with q | q; · exact q
                                                              · omega
  have a : gEm M w v 211 (2000 + gMn M) = Int32.ofInt v := by rcases gEm_a (M := M) (w := w) (v := v) with q | q; · exact q
                                                              · omega
  have hs : 2000 + S + (gMn M - S) = 2000 + gMn M := by omega
  have := h _ _ (2000 + S) (gMn M - S) D hD (gDep_le hd) hs e1 (by rw [hs]; exact o) (by rw [hs]; exact a) (fun i hi => gEm_p hm.1 (by omega))
  rw [n1, show gMn M + 1 - S = gMn M - S + 1 by omega]
  exact this
theorem gDep_up {O A : Nat → Int32} {s n D : Nat} (h : gDep O A s n = some D) : gDep O A s (n + 1) = if O (s + n) = 0 then some (D + 1) else if O (s + n) = 1 then (if 0 ≤ (A (s + n)).toInt ∧ (A (s + n)).toInt < 14 then some (D + 1) else none)
      else if O (s + n) = 9 then (if 1 ≤ D then some D else none) else if 2 ≤ D ∧ (O (s + n) = 5 → 1 ≤ n ∧ O (s + n - 1) = 0 ∧ A (s + n - 1) ≠ 0) then some (D - 1) else none := by
  conv => lhs; unfold gDep
  rw [h]
/-- a number or what is asked -/
theorem gEm_unit {M : Nat → Nat → Int32} {w v : Int} (hm : 0 ≤ (M 188 38).toInt ∧ (M 188 38).toInt < 500) (hw : w = 0 ∨ w = 1 ∧ 0 ≤ v ∧ v < 14) : gEff M (gEm M w v) 0 1 := by
  refine gEm_e hm (fun O A s n D _ _ _ hd ho ha _ => ⟨D + 1, ?_, by omega⟩)
  rw [gDep_up hd, ho, ha]
  rcases hw with rfl | ⟨rfl, h1, h2⟩
  · rw [if_pos (show Int32.ofInt 0 = 0 from by decide)]
  · rw [if_neg (by decide), if_pos (show Int32.ofInt 1 = 1 from by decide), if_pos (by rw [iR (by omega) (by omega)]; exact ⟨h1, h2⟩)]
/-- a not -/
theorem gEm_not {M : Nat → Nat → Int32} {v : Int} (hm : 0 ≤ (M 188 38).toInt ∧ (M 188 38).toInt < 500) : gEff M (gEm M 9 v) 1 0 := by
  refine gEm_e hm (fun O A s n D h1 _ _ hd ho ha _ => ⟨D, ?_, by omega⟩)
  rw [gDep_up hd, ho, if_neg (by decide), if_neg (by decide), if_pos (by decide), if_pos h1]
/-- what joins two -/
theorem gEm_bin {M : Nat → Nat → Int32} {w v : Int} (hm : 0 ≤ (M 188 38).toInt ∧ (M 188 38).toInt < 500) (hw : w = 2 ∨ w = 3 ∨ w = 4 ∨ w = 6 ∨ w = 7 ∨ w = 8 ∨ w = 10 ∨ w = 11 ∨ w = 5 ∧ M 210 (2000 + gMn M - 1) = 0 ∧ M 211 (2000 + gMn M - 1) ≠ 0) : gEff M (gEm M w v) 2 (-1) := by
  refine gEm_e hm (fun O A s n D h2 hn hs hd ho ha hp => ⟨D - 1, ?_, by omega⟩)
  have h5 : O (s + n) = 5 → 1 ≤ n ∧ O (s + n - 1) = 0 ∧ A (s + n - 1) ≠ 0 := by
    intro q
    obtain ⟨p1, p2⟩ := hp (s + n - 1) (by omega)
    rw [p1, p2, hs]
    refine ⟨by omega, ?_⟩
    rw [ho] at q
    rcases hw with rfl | rfl | rfl | rfl | rfl | rfl | rfl | rfl | ⟨rfl, q1, q2⟩
    · exact absurd q (by decide)
    · exact absurd q (by decide)
    · exact absurd q (by decide)
    · exact absurd q (by decide)
    · exact absurd q (by decide)
    · exact absurd q (by decide)
    · exact absurd q (by decide)
    · exact absurd q (by decide)
    · exact ⟨q1, q2⟩
  rw [gDep_up hd, if_neg ?_, if_neg ?_, if_neg ?_, if_pos ⟨h2, h5⟩]
  all_goals
    rw [ho]
    rcases hw with rfl | rfl | rfl | rfl | rfl | rfl | rfl | rfl | ⟨rfl, _⟩ <;> decide
/-- what a part of a text comes to: c codes are still to come when it is done -/
def gDn (M M' : Nat → Nat → Int32) (c e : Int) : Prop := gTs M' ∧ gFr M M' ∧ 0 ≤ (M' 188 38).toInt ∧ (M' 188 38).toInt ≤ 500 ∧ (M 188 26).toInt ≤ (M' 188 26).toInt ∧ (e = -1 ∨ e = 0 ∧ (M' 188 38).toInt + c ≤ (M' 188 26).toInt ∧ (M 188 26).toInt < (M' 188 26).toInt ∧ gEff M M' 0 1)
theorem h65p {X : aX} {d : Nat} {k : Nat → aK} (hk : gKs k) {M : Nat → Nat → Int32} (hp : gPre M) : zRn X (d + 1 + 1 + 1 + 1) 65 [.ref 188] (gH k M) (fun rv h' => ∃ M', rv = none ∧ h' = gH k M' ∧ gRd M M') :=
  h65 hk ⟨hp.1, hp.2.1⟩ hp.2.2.1 hp.2.2.2.2 hp.2.2.2.1
