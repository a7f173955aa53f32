/-! worth of a line of codes, by hand: printed by wip/safe/h84.py -/
theorem bk_83_0 : (aMC 83)[0]? = some [.iload 1, .bipush 2, .if_icmp .ne 2] := by decide +kernel
theorem bk_83_1 : (aMC 83)[1]? = some [.iload 2, .iload 3, .iadd, .ireturn] := by decide +kernel
theorem bk_83_2 : (aMC 83)[2]? = some [.iload 1, .bipush 3, .if_icmp .ne 4] := by decide +kernel
theorem bk_83_3 : (aMC 83)[3]? = some [.iload 2, .iload 3, .isub, .ireturn] := by decide +kernel
theorem bk_83_4 : (aMC 83)[4]? = some [.iload 1, .bipush 4, .if_icmp .ne 6] := by decide +kernel
theorem bk_83_5 : (aMC 83)[5]? = some [.iload 2, .iload 3, .imul, .ireturn] := by decide +kernel
theorem bk_83_6 : (aMC 83)[6]? = some [.iload 1, .bipush 5, .if_icmp .ne 8] := by decide +kernel
theorem bk_83_7 : (aMC 83)[7]? = some [.iload 2, .iload 3, .idiv, .ireturn] := by decide +kernel
theorem bk_83_8 : (aMC 83)[8]? = some [.iload 1, .bipush 6, .if_icmp .ne 13] := by decide +kernel
theorem bk_83_9 : (aMC 83)[9]? = some [.iload 2, .iload 3, .if_icmp .ge 11] := by decide +kernel
theorem bk_83_10 : (aMC 83)[10]? = some [.bipush 1, .goto 12] := by decide +kernel
theorem bk_83_11 : (aMC 83)[11]? = some [.bipush 0] := by decide +kernel
theorem bk_83_12 : (aMC 83)[12]? = some [.ireturn] := by decide +kernel
theorem bk_83_13 : (aMC 83)[13]? = some [.iload 1, .bipush 7, .if_icmp .ne 18] := by decide +kernel
theorem bk_83_14 : (aMC 83)[14]? = some [.iload 2, .iload 3, .if_icmp .ne 16] := by decide +kernel
theorem bk_83_15 : (aMC 83)[15]? = some [.bipush 1, .goto 17] := by decide +kernel
theorem bk_83_16 : (aMC 83)[16]? = some [.bipush 0] := by decide +kernel
theorem bk_83_17 : (aMC 83)[17]? = some [.ireturn] := by decide +kernel
theorem bk_83_18 : (aMC 83)[18]? = some [.iload 1, .bipush 8, .if_icmp .ne 23] := by decide +kernel
theorem bk_83_19 : (aMC 83)[19]? = some [.iload 2, .iload 3, .if_icmp .le 21] := by decide +kernel
theorem bk_83_20 : (aMC 83)[20]? = some [.bipush 1, .goto 22] := by decide +kernel
theorem bk_83_21 : (aMC 83)[21]? = some [.bipush 0] := by decide +kernel
theorem bk_83_22 : (aMC 83)[22]? = some [.ireturn] := by decide +kernel
theorem bk_83_23 : (aMC 83)[23]? = some [.iload 1, .bipush 10, .if_icmp .ne 25] := by decide +kernel
theorem bk_83_24 : (aMC 83)[24]? = some [.iload 2, .iload 3, .imul, .goto 28] := by decide +kernel
theorem bk_83_25 : (aMC 83)[25]? = some [.iload 2, .iload 3, .iadd, .ifCond .le 27] := by decide +kernel
theorem bk_83_26 : (aMC 83)[26]? = some [.bipush 1, .goto 28] := by decide +kernel
theorem bk_83_27 : (aMC 83)[27]? = some [.bipush 0] := by decide +kernel
theorem bk_83_28 : (aMC 83)[28]? = some [.ireturn] := by decide +kernel
theorem bk_84_0 : (aMC 84)[0]? = some [.bipush 0, .istore 4, .bipush 500, .iload 1, .imul, .iload 2, .iadd, .istore 5] := by decide +kernel
theorem bk_84_1 : (aMC 84)[1]? = some [.iload 5, .bipush 500, .iload 1, .imul, .iload 3, .iadd, .if_icmp .ge 12] := by decide +kernel
theorem bk_84_2 : (aMC 84)[2]? = some [.aload 0, .getfield 127812146, .iload 5, .iaload, .ifCond .eq 4] := by decide +kernel
theorem bk_84_3 : (aMC 84)[3]? = some [.aload 0, .getfield 127812146, .iload 5, .iaload, .bipush 1, .if_icmp .ne 8] := by decide +kernel
theorem bk_84_4 : (aMC 84)[4]? = some [.aload 0, .getfield 129212202, .iload 4, .aload 0, .getfield 127812146, .iload 5, .iaload, .ifCond .ne 6] := by decide +kernel
theorem bk_84_5 : (aMC 84)[5]? = some [.aload 0, .getfield 127912150, .iload 5, .iaload, .goto 7] := by decide +kernel
theorem bk_84_6 : (aMC 84)[6]? = some [.aload 0, .getfield 129112198, .aload 0, .getfield 127912150, .iload 5, .iaload, .iaload] := by decide +kernel
theorem bk_84_7 : (aMC 84)[7]? = some [.iastore, .iload 4, .bipush 1, .iadd, .istore 4, .goto 11] := by decide +kernel
theorem bk_84_8 : (aMC 84)[8]? = some [.aload 0, .getfield 127812146, .iload 5, .iaload, .bipush 9, .if_icmp .ne 10] := by decide +kernel
theorem bk_84_9 : (aMC 84)[9]? = some [.aload 0, .getfield 129212202, .iload 4, .bipush 1, .isub, .bipush 1, .aload 0, .getfield 129212202, .iload 4, .bipush 1, .isub, .iaload, .isub, .iastore, .goto 11] := by decide +kernel
theorem bk_84_10 : (aMC 84)[10]? = some [.iload 4, .bipush 1, .isub, .istore 4, .aload 0, .getfield 129212202, .iload 4, .bipush 1, .isub, .aload 0, .aload 0, .getfield 127812146, .iload 5, .iaload, .aload 0, .getfield 129212202, .iload 4, .bipush 1, .isub, .iaload, .aload 0, .getfield 129212202, .iload 4, .iaload, .invokevirtual 1674083, .iastore] := by decide +kernel
theorem bk_84_11 : (aMC 84)[11]? = some [.iinc 5 1, .goto 1] := by decide +kernel
theorem bk_84_12 : (aMC 84)[12]? = some [.aload 0, .getfield 129212202, .bipush 0, .iaload, .ireturn] := by decide +kernel
theorem h83 {X : aX} {d : Nat} {k : Nat → aK} {M : Nat → Nat → Int32} {c x y : Int} (rc : -2147483648 ≤ c ∧ c ≤ 2147483647) (rx : -2147483648 ≤ x ∧ x ≤ 2147483647) (ry : -2147483648 ≤ y ∧ y ≤ 2147483647) (h5 : c = 5 → y ≠ 0) :
    zRn X (d + 1) 83 [.ref 188, iv c, iv x, iv y] (gH k M) (fun rv h' => h' = gH k M ∧ ∃ e, rv = some (iv e)) := by
  refine wEnt (n := 4) (ls := [.ref 188, iv c, iv x, iv y]) bk_83_0 (by decide +kernel) rfl rfl rfl ?_
  refine wP (ls' := [.ref 188, iv c, iv x, iv y]) (st' := [iv c]) rfl rfl ?_
  refine wP (ls' := [.ref 188, iv c, iv x, iv y]) (st' := [iv 2, iv c]) rfl rfl ?_
  refine wIfc (n1 := 2) rfl bk_83_2 bk_83_1 (by omega) (by omega) (fun g0 => ?_) (fun g0 => ?_)
  · replace g0 : ¬ c = 2 := g0
    refine wP (ls' := [.ref 188, iv c, iv x, iv y]) (st' := [iv c]) rfl rfl ?_
    refine wP (ls' := [.ref 188, iv c, iv x, iv y]) (st' := [iv 3, iv c]) rfl rfl ?_
    refine wIfc (n1 := 4) rfl bk_83_4 bk_83_3 (by omega) (by omega) (fun g1 => ?_) (fun g1 => ?_)
    · replace g1 : ¬ c = 3 := g1
      refine wP (ls' := [.ref 188, iv c, iv x, iv y]) (st' := [iv c]) rfl rfl ?_
      refine wP (ls' := [.ref 188, iv c, iv x, iv y]) (st' := [iv 4, iv c]) rfl rfl ?_
      refine wIfc (n1 := 6) rfl bk_83_6 bk_83_5 (by omega) (by omega) (fun g2 => ?_) (fun g2 => ?_)
      · replace g2 : ¬ c = 4 := g2
        refine wP (ls' := [.ref 188, iv c, iv x, iv y]) (st' := [iv c]) rfl rfl ?_
        refine wP (ls' := [.ref 188, iv c, iv x, iv y]) (st' := [iv 5, iv c]) rfl rfl ?_
        refine wIfc (n1 := 8) rfl bk_83_8 bk_83_7 (by omega) (by omega) (fun g3 => ?_) (fun g3 => ?_)
        · replace g3 : ¬ c = 5 := g3
          refine wP (ls' := [.ref 188, iv c, iv x, iv y]) (st' := [iv c]) rfl rfl ?_
          refine wP (ls' := [.ref 188, iv c, iv x, iv y]) (st' := [iv 6, iv c]) rfl rfl ?_
          refine wIfc (n1 := 13) rfl bk_83_13 bk_83_9 (by omega) (by omega) (fun g4 => ?_) (fun g4 => ?_)
          · replace g4 : ¬ c = 6 := g4
            refine wP (ls' := [.ref 188, iv c, iv x, iv y]) (st' := [iv c]) rfl rfl ?_
            refine wP (ls' := [.ref 188, iv c, iv x, iv y]) (st' := [iv 7, iv c]) rfl rfl ?_
            refine wIfc (n1 := 18) rfl bk_83_18 bk_83_14 (by omega) (by omega) (fun g5 => ?_) (fun g5 => ?_)
            · replace g5 : ¬ c = 7 := g5
              refine wP (ls' := [.ref 188, iv c, iv x, iv y]) (st' := [iv c]) rfl rfl ?_
              refine wP (ls' := [.ref 188, iv c, iv x, iv y]) (st' := [iv 8, iv c]) rfl rfl ?_
              refine wIfc (n1 := 23) rfl bk_83_23 bk_83_19 (by omega) (by omega) (fun g6 => ?_) (fun g6 => ?_)
              · replace g6 : ¬ c = 8 := g6
                refine wP (ls' := [.ref 188, iv c, iv x, iv y]) (st' := [iv c]) rfl rfl ?_
                refine wP (ls' := [.ref 188, iv c, iv x, iv y]) (st' := [iv 10, iv c]) rfl rfl ?_
                refine wIfc (n1 := 25) rfl bk_83_25 bk_83_24 (by omega) (by omega) (fun g7 => ?_) (fun g7 => ?_)
                · replace g7 : ¬ c = 10 := g7
                  refine wP (ls' := [.ref 188, iv c, iv x, iv y]) (st' := [iv x]) rfl rfl ?_
                  refine wP (ls' := [.ref 188, iv c, iv x, iv y]) (st' := [iv y, iv x]) rfl rfl ?_
                  refine wAddW ?_
                  refine wIf0 (n1 := 27) rfl bk_83_27 bk_83_26 (by first | exact iG _ | omega) (fun g8 => ?_) (fun g8 => ?_)
                  · replace g8 : (Int32.ofInt (x + y)).toInt ≤ 0 := g8
                    refine wP (ls' := [.ref 188, iv c, iv x, iv y]) (st' := [iv 0]) rfl rfl ?_
                    refine zW_fall bk_83_28 ?_
                    exact wIret (Or.inl (by decide +kernel)) ⟨rfl, _, rfl⟩
                  · replace g8 : ¬ ((Int32.ofInt (x + y)).toInt ≤ 0) := g8
                    refine wP (ls' := [.ref 188, iv c, iv x, iv y]) (st' := [iv 1]) rfl rfl ?_
                    refine wGoto (n1 := 28) rfl bk_83_28 ?_
                    exact wIret (Or.inl (by decide +kernel)) ⟨rfl, _, rfl⟩
                · replace g7 : ¬ (¬ c = 10) := g7
                  refine wP (ls' := [.ref 188, iv c, iv x, iv y]) (st' := [iv x]) rfl rfl ?_
                  refine wP (ls' := [.ref 188, iv c, iv x, iv y]) (st' := [iv y, iv x]) rfl rfl ?_
                  refine wMul ?_
                  refine wGoto (n1 := 28) rfl bk_83_28 ?_
                  exact wIret (Or.inl (by decide +kernel)) ⟨rfl, _, rfl⟩
              · replace g6 : ¬ (¬ c = 8) := g6
                refine wP (ls' := [.ref 188, iv c, iv x, iv y]) (st' := [iv x]) rfl rfl ?_
                refine wP (ls' := [.ref 188, iv c, iv x, iv y]) (st' := [iv y, iv x]) rfl rfl ?_
                refine wIfc (n1 := 21) rfl bk_83_21 bk_83_20 (by omega) (by omega) (fun g7 => ?_) (fun g7 => ?_)
                · replace g7 : x ≤ y := g7
                  refine wP (ls' := [.ref 188, iv c, iv x, iv y]) (st' := [iv 0]) rfl rfl ?_
                  refine zW_fall bk_83_22 ?_
                  exact wIret (Or.inl (by decide +kernel)) ⟨rfl, _, rfl⟩
                · replace g7 : ¬ (x ≤ y) := g7
                  refine wP (ls' := [.ref 188, iv c, iv x, iv y]) (st' := [iv 1]) rfl rfl ?_
                  refine wGoto (n1 := 22) rfl bk_83_22 ?_
                  exact wIret (Or.inl (by decide +kernel)) ⟨rfl, _, rfl⟩
            · replace g5 : ¬ (¬ c = 7) := g5
              refine wP (ls' := [.ref 188, iv c, iv x, iv y]) (st' := [iv x]) rfl rfl ?_
              refine wP (ls' := [.ref 188, iv c, iv x, iv y]) (st' := [iv y, iv x]) rfl rfl ?_
              refine wIfc (n1 := 16) rfl bk_83_16 bk_83_15 (by omega) (by omega) (fun g6 => ?_) (fun g6 => ?_)
              · replace g6 : ¬ x = y := g6
                refine wP (ls' := [.ref 188, iv c, iv x, iv y]) (st' := [iv 0]) rfl rfl ?_
                refine zW_fall bk_83_17 ?_
                exact wIret (Or.inl (by decide +kernel)) ⟨rfl, _, rfl⟩
              · replace g6 : ¬ (¬ x = y) := g6
                refine wP (ls' := [.ref 188, iv c, iv x, iv y]) (st' := [iv 1]) rfl rfl ?_
                refine wGoto (n1 := 17) rfl bk_83_17 ?_
                exact wIret (Or.inl (by decide +kernel)) ⟨rfl, _, rfl⟩
          · replace g4 : ¬ (¬ c = 6) := g4
            refine wP (ls' := [.ref 188, iv c, iv x, iv y]) (st' := [iv x]) rfl rfl ?_
            refine wP (ls' := [.ref 188, iv c, iv x, iv y]) (st' := [iv y, iv x]) rfl rfl ?_
            refine wIfc (n1 := 11) rfl bk_83_11 bk_83_10 (by omega) (by omega) (fun g5 => ?_) (fun g5 => ?_)
            · replace g5 : y ≤ x := g5
              refine wP (ls' := [.ref 188, iv c, iv x, iv y]) (st' := [iv 0]) rfl rfl ?_
              refine zW_fall bk_83_12 ?_
              exact wIret (Or.inl (by decide +kernel)) ⟨rfl, _, rfl⟩
            · replace g5 : ¬ (y ≤ x) := g5
              refine wP (ls' := [.ref 188, iv c, iv x, iv y]) (st' := [iv 1]) rfl rfl ?_
              refine wGoto (n1 := 12) rfl bk_83_12 ?_
              exact wIret (Or.inl (by decide +kernel)) ⟨rfl, _, rfl⟩
        · replace g3 : ¬ (¬ c = 5) := g3
          refine wP (ls' := [.ref 188, iv c, iv x, iv y]) (st' := [iv x]) rfl rfl ?_
          refine wP (ls' := [.ref 188, iv c, iv x, iv y]) (st' := [iv y, iv x]) rfl rfl ?_
          refine wDiv (by omega) (by omega) ?_
          exact wIret (Or.inl (by decide +kernel)) ⟨rfl, _, rfl⟩
      · replace g2 : ¬ (¬ c = 4) := g2
        refine wP (ls' := [.ref 188, iv c, iv x, iv y]) (st' := [iv x]) rfl rfl ?_
        refine wP (ls' := [.ref 188, iv c, iv x, iv y]) (st' := [iv y, iv x]) rfl rfl ?_
        refine wMul ?_
        exact wIret (Or.inl (by decide +kernel)) ⟨rfl, _, rfl⟩
    · replace g1 : ¬ (¬ c = 3) := g1
      refine wP (ls' := [.ref 188, iv c, iv x, iv y]) (st' := [iv x]) rfl rfl ?_
      refine wP (ls' := [.ref 188, iv c, iv x, iv y]) (st' := [iv y, iv x]) rfl rfl ?_
      refine wSub ?_
      exact wIret (Or.inl (by decide +kernel)) ⟨rfl, _, rfl⟩
  · replace g0 : ¬ (¬ c = 2) := g0
    refine wP (ls' := [.ref 188, iv c, iv x, iv y]) (st' := [iv x]) rfl rfl ?_
    refine wP (ls' := [.ref 188, iv c, iv x, iv y]) (st' := [iv y, iv x]) rfl rfl ?_
    refine wAddW ?_
    exact wIret (Or.inl (by decide +kernel)) ⟨rfl, _, rfl⟩
theorem h84_loop {X : aX} {d : Nat} {k : Nat → aK} (hk : gKs k) {M : Nat → Nat → Int32} {r bg sp : Int} {s0 tot : Nat} (hr : 0 ≤ r ∧ r ≤ 3) (hb : 0 ≤ bg) (hbs : bg ≤ sp) (hsp : sp ≤ 500) (hs0 : (s0 : Int) = 500 * r + bg) (htt : (tot : Int) = sp - bg) (htot : gDep (M 210) (M 211) s0 tot = some 1) :
    ∀ (m n : Nat) (i4 i5 : Int) (M1 : Nat → Nat → Int32) (D : Nat), n + m = tot → gDep (M 210) (M 211) s0 n = some D → i4 = D → i5 = s0 + n → (∀ a, a ≠ 217 → M1 a = M a) → (1 ≤ n → M 210 (s0 + n - 1) = 0 → M1 217 (D - 1) = M 211 (s0 + n - 1)) →
    zW X (d + 1) 84 1 [.iload 5, .bipush 500, .iload 1, .imul, .iload 3, .iadd, .if_icmp .ge 12] [.ref 188, iv r, iv bg, iv sp, iv i4, iv i5] [] (gH k M1) (fun rv h' => ∃ e M', rv = some (iv e) ∧ (-2147483648 ≤ e ∧ e ≤ 2147483647) ∧ h' = gH k M' ∧ ∀ a, a ≠ 217 → M' a = M a) := by
  intro m
  induction m with
  | zero =>
    intro n i4 i5 M1 D hnm hD h4 h5 hM hl
    have hDn := gDep_le hD
    refine wP (ls' := [.ref 188, iv r, iv bg, iv sp, iv i4, iv i5]) (st' := [iv i5]) rfl rfl ?_
    refine wP (ls' := [.ref 188, iv r, iv bg, iv sp, iv i4, iv i5]) (st' := [iv 500, iv i5]) rfl rfl ?_
    refine wP (ls' := [.ref 188, iv r, iv bg, iv sp, iv i4, iv i5]) (st' := [iv r, iv 500, iv i5]) rfl rfl ?_
    refine wMul ?_
    refine wP (ls' := [.ref 188, iv r, iv bg, iv sp, iv i4, iv i5]) (st' := [iv sp, iv (500 * r), iv i5]) rfl rfl ?_
    refine wAdd ?_
    refine wIfc (n1 := 12) rfl bk_84_12 bk_84_2 (by omega) (by omega) (fun g0 => ?_) (fun g0 => ?_)
    · replace g0 : ((500 * r) + sp) ≤ i5 := g0
      refine wP (ls' := [.ref 188, iv r, iv bg, iv sp, iv i4, iv i5]) (st' := [.ref 188]) rfl rfl ?_
      refine wGetR hk (r := 217) (by decide +kernel) ?_
      refine wP (ls' := [.ref 188, iv r, iv bg, iv sp, iv i4, iv i5]) (st' := [iv 0, .ref 217]) rfl rfl ?_
      refine wIld hk (l := 520) (e := (M1 217 (0 : Int).toNat).toInt) (by decide +kernel) (by omega) (by omega) (iE _) ?_
      exact wIret (Or.inl (by decide +kernel)) ⟨_, _, rfl, iG _, rfl, hM⟩
    · replace g0 : ¬ (((500 * r) + sp) ≤ i5) := g0
      exact absurd g0 (by omega)
  | succ m ih =>
    intro n i4 i5 M1 D hnm hD h4 h5 hM hl
    have hDn := gDep_le hD
    obtain ⟨D', hD'⟩ := gDep_some (n := n + 1) htot (by omega)
    have eN : (i5).toNat = s0 + n := by omega
    have eo : M1 210 (i5).toNat = M 210 (s0 + n) := by rw [hM 210 (by decide), eN]
    have ea : M1 211 (i5).toNat = M 211 (s0 + n) := by rw [hM 211 (by decide), eN]
    have hst : ((M1 210 (i5).toNat).toInt = 0 ∧ D' = D + 1) ∨ ((M1 210 (i5).toNat).toInt = 1 ∧ 0 ≤ (M1 211 (i5).toNat).toInt ∧ (M1 211 (i5).toNat).toInt < 14 ∧ D' = D + 1) ∨ ((M1 210 (i5).toNat).toInt = 9 ∧ 1 ≤ D ∧ D' = D) ∨ ((M1 210 (i5).toNat).toInt ≠ 0 ∧ (M1 210 (i5).toNat).toInt ≠ 1 ∧ (M1 210 (i5).toNat).toInt ≠ 9 ∧ 2 ≤ D ∧ D' = D - 1) := by
      rw [eo, ea]
      rcases gDep_step hD hD' with ⟨q, q1⟩ | ⟨q, q1, q2, q3⟩ | ⟨q, q1, q2⟩ | ⟨q, q1, q2, q3, q4, _⟩
      · exact Or.inl ⟨by rw [q]; rfl, q1⟩
      · exact Or.inr (Or.inl ⟨by rw [q]; rfl, q1, q2, q3⟩)
      · exact Or.inr (Or.inr (Or.inl ⟨by rw [q]; rfl, q1, q2⟩))
      · exact Or.inr (Or.inr (Or.inr ⟨fun z => q (i0 z), fun z => q1 (i0 z), fun z => q2 (i0 z), q3, q4⟩))
    have htop : (M1 210 (i5).toNat).toInt = 5 → (M1 217 ((i4 - 1)).toNat).toInt ≠ 0 := by
      intro z
      have z2 := i0 z
      rw [eo] at z2
      rcases gDep_step hD hD' with ⟨q, _⟩ | ⟨q, _⟩ | ⟨q, _⟩ | ⟨_, _, _, q3, _, q5⟩
      · rw [q] at z2; exact absurd z2 (by decide)
      · rw [q] at z2; exact absurd z2 (by decide)
      · rw [q] at z2; exact absurd z2 (by decide)
      · obtain ⟨p1, p2, p3⟩ := q5 z2
        rw [show ((i4 - 1)).toNat = D - 1 by omega, hl p1 p2]
        exact fun z => p3 (i0 z)
    have hz : M 210 (s0 + (n + 1) - 1) = 0 → (M1 210 (i5).toNat).toInt = 0 := by
      rw [show s0 + (n + 1) - 1 = s0 + n by omega]
      intro q
      rw [eo, q]
      rfl
    refine wP (ls' := [.ref 188, iv r, iv bg, iv sp, iv i4, iv i5]) (st' := [iv i5]) rfl rfl ?_
    refine wP (ls' := [.ref 188, iv r, iv bg, iv sp, iv i4, iv i5]) (st' := [iv 500, iv i5]) rfl rfl ?_
    refine wP (ls' := [.ref 188, iv r, iv bg, iv sp, iv i4, iv i5]) (st' := [iv r, iv 500, iv i5]) rfl rfl ?_
    refine wMul ?_
    refine wP (ls' := [.ref 188, iv r, iv bg, iv sp, iv i4, iv i5]) (st' := [iv sp, iv (500 * r), iv i5]) rfl rfl ?_
    refine wAdd ?_
    refine wIfc (n1 := 12) rfl bk_84_12 bk_84_2 (by omega) (by omega) (fun g0 => ?_) (fun g0 => ?_)
    · replace g0 : ((500 * r) + sp) ≤ i5 := g0
      exact absurd g0 (by omega)
    · replace g0 : ¬ (((500 * r) + sp) ≤ i5) := g0
      refine wP (ls' := [.ref 188, iv r, iv bg, iv sp, iv i4, iv i5]) (st' := [.ref 188]) rfl rfl ?_
      refine wGetR hk (r := 210) (by decide +kernel) ?_
      refine wP (ls' := [.ref 188, iv r, iv bg, iv sp, iv i4, iv i5]) (st' := [iv i5, .ref 210]) rfl rfl ?_
      refine wIld hk (l := 2500) (e := (M1 210 (i5).toNat).toInt) (by decide +kernel) (by omega) (by omega) (iE _) ?_
      refine wIf0 (n1 := 4) rfl bk_84_4 bk_84_3 (by first | exact iG _ | omega) (fun g1 => ?_) (fun g1 => ?_)
      · replace g1 : (M1 210 (i5).toNat).toInt = 0 := g1
        refine wP (ls' := [.ref 188, iv r, iv bg, iv sp, iv i4, iv i5]) (st' := [.ref 188]) rfl rfl ?_
        refine wGetR hk (r := 217) (by decide +kernel) ?_
        refine wP (ls' := [.ref 188, iv r, iv bg, iv sp, iv i4, iv i5]) (st' := [iv i4, .ref 217]) rfl rfl ?_
        refine wP (ls' := [.ref 188, iv r, iv bg, iv sp, iv i4, iv i5]) (st' := [.ref 188, iv i4, .ref 217]) rfl rfl ?_
        refine wGetR hk (r := 210) (by decide +kernel) ?_
        refine wP (ls' := [.ref 188, iv r, iv bg, iv sp, iv i4, iv i5]) (st' := [iv i5, .ref 210, iv i4, .ref 217]) rfl rfl ?_
        refine wIld hk (l := 2500) (e := (M1 210 (i5).toNat).toInt) (by decide +kernel) (by omega) (by omega) (iE _) ?_
        refine wIf0 (n1 := 6) rfl bk_84_6 bk_84_5 (by first | exact iG _ | omega) (fun g2 => ?_) (fun g2 => ?_)
        · replace g2 : ¬ (M1 210 (i5).toNat).toInt = 0 := g2
          refine wP (ls' := [.ref 188, iv r, iv bg, iv sp, iv i4, iv i5]) (st' := [.ref 188, iv i4, .ref 217]) rfl rfl ?_
          refine wGetR hk (r := 216) (by decide +kernel) ?_
          refine wP (ls' := [.ref 188, iv r, iv bg, iv sp, iv i4, iv i5]) (st' := [.ref 188, .ref 216, iv i4, .ref 217]) rfl rfl ?_
          refine wGetR hk (r := 211) (by decide +kernel) ?_
          refine wP (ls' := [.ref 188, iv r, iv bg, iv sp, iv i4, iv i5]) (st' := [iv i5, .ref 211, .ref 216, iv i4, .ref 217]) rfl rfl ?_
          refine wIld hk (l := 2500) (e := (M1 211 (i5).toNat).toInt) (by decide +kernel) (by omega) (by omega) (iE _) ?_
          refine wIld hk (l := 14) (e := (M1 216 ((M1 211 (i5).toNat).toInt).toNat).toInt) (by decide +kernel) (by omega) (by omega) (iE _) ?_
          refine zW_fall bk_84_7 ?_
          refine wIst hk (l := 520) (by decide +kernel) (by omega) (by omega) ?_
          refine wP (ls' := [.ref 188, iv r, iv bg, iv sp, iv i4, iv i5]) (st' := [iv i4]) rfl rfl ?_
          refine wP (ls' := [.ref 188, iv r, iv bg, iv sp, iv i4, iv i5]) (st' := [iv 1, iv i4]) rfl rfl ?_
          refine wAdd ?_
          refine wP (ls' := [.ref 188, iv r, iv bg, iv sp, iv (i4 + 1), iv i5]) (st' := []) rfl rfl ?_
          refine wGoto (n1 := 11) rfl bk_84_11 ?_
          refine wInc (ls' := [.ref 188, iv r, iv bg, iv sp, iv (i4 + 1), iv (i5 + 1)]) rfl rfl ?_
          refine wGoto (n1 := 1) rfl bk_84_1 ?_
          exact ih (n + 1) (i4 + 1) (i5 + 1) (aPut M1 217 (i4).toNat (Int32.ofInt (M1 216 ((M1 211 (i5).toNat).toInt).toNat).toInt)) D' (by omega) hD' (by omega) (by omega) (fun a ha => by rw [aPut_r ha]; exact hM a ha) (fun _ q => absurd (hz q) (by omega))
        · replace g2 : ¬ (¬ (M1 210 (i5).toNat).toInt = 0) := g2
          refine wP (ls' := [.ref 188, iv r, iv bg, iv sp, iv i4, iv i5]) (st' := [.ref 188, iv i4, .ref 217]) rfl rfl ?_
          refine wGetR hk (r := 211) (by decide +kernel) ?_
          refine wP (ls' := [.ref 188, iv r, iv bg, iv sp, iv i4, iv i5]) (st' := [iv i5, .ref 211, iv i4, .ref 217]) rfl rfl ?_
          refine wIld hk (l := 2500) (e := (M1 211 (i5).toNat).toInt) (by decide +kernel) (by omega) (by omega) (iE _) ?_
          refine wGoto (n1 := 7) rfl bk_84_7 ?_
          refine wIst hk (l := 520) (by decide +kernel) (by omega) (by omega) ?_
          refine wP (ls' := [.ref 188, iv r, iv bg, iv sp, iv i4, iv i5]) (st' := [iv i4]) rfl rfl ?_
          refine wP (ls' := [.ref 188, iv r, iv bg, iv sp, iv i4, iv i5]) (st' := [iv 1, iv i4]) rfl rfl ?_
          refine wAdd ?_
          refine wP (ls' := [.ref 188, iv r, iv bg, iv sp, iv (i4 + 1), iv i5]) (st' := []) rfl rfl ?_
          refine wGoto (n1 := 11) rfl bk_84_11 ?_
          refine wInc (ls' := [.ref 188, iv r, iv bg, iv sp, iv (i4 + 1), iv (i5 + 1)]) rfl rfl ?_
          refine wGoto (n1 := 1) rfl bk_84_1 ?_
          exact ih (n + 1) (i4 + 1) (i5 + 1) (aPut M1 217 (i4).toNat (Int32.ofInt (M1 211 (i5).toNat).toInt)) D' (by omega) hD' (by omega) (by omega) (fun a ha => by rw [aPut_r ha]; exact hM a ha) (fun _ _ => by rw [show D' - 1 = (i4).toNat by omega, aPut_e, ← iE, ea, show s0 + (n + 1) - 1 = s0 + n by omega])
      · replace g1 : ¬ ((M1 210 (i5).toNat).toInt = 0) := g1
        refine wP (ls' := [.ref 188, iv r, iv bg, iv sp, iv i4, iv i5]) (st' := [.ref 188]) rfl rfl ?_
        refine wGetR hk (r := 210) (by decide +kernel) ?_
        refine wP (ls' := [.ref 188, iv r, iv bg, iv sp, iv i4, iv i5]) (st' := [iv i5, .ref 210]) rfl rfl ?_
        refine wIld hk (l := 2500) (e := (M1 210 (i5).toNat).toInt) (by decide +kernel) (by omega) (by omega) (iE _) ?_
        refine wP (ls' := [.ref 188, iv r, iv bg, iv sp, iv i4, iv i5]) (st' := [iv 1, iv (M1 210 (i5).toNat).toInt]) rfl rfl ?_
        refine wIfc (n1 := 8) rfl bk_84_8 bk_84_4 (by first | exact iG _ | omega) (by omega) (fun g2 => ?_) (fun g2 => ?_)
        · replace g2 : ¬ (M1 210 (i5).toNat).toInt = 1 := g2
          refine wP (ls' := [.ref 188, iv r, iv bg, iv sp, iv i4, iv i5]) (st' := [.ref 188]) rfl rfl ?_
          refine wGetR hk (r := 210) (by decide +kernel) ?_
          refine wP (ls' := [.ref 188, iv r, iv bg, iv sp, iv i4, iv i5]) (st' := [iv i5, .ref 210]) rfl rfl ?_
          refine wIld hk (l := 2500) (e := (M1 210 (i5).toNat).toInt) (by decide +kernel) (by omega) (by omega) (iE _) ?_
          refine wP (ls' := [.ref 188, iv r, iv bg, iv sp, iv i4, iv i5]) (st' := [iv 9, iv (M1 210 (i5).toNat).toInt]) rfl rfl ?_
          refine wIfc (n1 := 10) rfl bk_84_10 bk_84_9 (by first | exact iG _ | omega) (by omega) (fun g3 => ?_) (fun g3 => ?_)
          · replace g3 : ¬ (M1 210 (i5).toNat).toInt = 9 := g3
            refine wP (ls' := [.ref 188, iv r, iv bg, iv sp, iv i4, iv i5]) (st' := [iv i4]) rfl rfl ?_
            refine wP (ls' := [.ref 188, iv r, iv bg, iv sp, iv i4, iv i5]) (st' := [iv 1, iv i4]) rfl rfl ?_
            refine wSub ?_
            refine wP (ls' := [.ref 188, iv r, iv bg, iv sp, iv (i4 - 1), iv i5]) (st' := []) rfl rfl ?_
            refine wP (ls' := [.ref 188, iv r, iv bg, iv sp, iv (i4 - 1), iv i5]) (st' := [.ref 188]) rfl rfl ?_
            refine wGetR hk (r := 217) (by decide +kernel) ?_
            refine wP (ls' := [.ref 188, iv r, iv bg, iv sp, iv (i4 - 1), iv i5]) (st' := [iv (i4 - 1), .ref 217]) rfl rfl ?_
            refine wP (ls' := [.ref 188, iv r, iv bg, iv sp, iv (i4 - 1), iv i5]) (st' := [iv 1, iv (i4 - 1), .ref 217]) rfl rfl ?_
            refine wSub ?_
            refine wP (ls' := [.ref 188, iv r, iv bg, iv sp, iv (i4 - 1), iv i5]) (st' := [.ref 188, iv ((i4 - 1) - 1), .ref 217]) rfl rfl ?_
            refine wP (ls' := [.ref 188, iv r, iv bg, iv sp, iv (i4 - 1), iv i5]) (st' := [.ref 188, .ref 188, iv ((i4 - 1) - 1), .ref 217]) rfl rfl ?_
            refine wGetR hk (r := 210) (by decide +kernel) ?_
            refine wP (ls' := [.ref 188, iv r, iv bg, iv sp, iv (i4 - 1), iv i5]) (st' := [iv i5, .ref 210, .ref 188, iv ((i4 - 1) - 1), .ref 217]) rfl rfl ?_
            refine wIld hk (l := 2500) (e := (M1 210 (i5).toNat).toInt) (by decide +kernel) (by omega) (by omega) (iE _) ?_
            refine wP (ls' := [.ref 188, iv r, iv bg, iv sp, iv (i4 - 1), iv i5]) (st' := [.ref 188, iv (M1 210 (i5).toNat).toInt, .ref 188, iv ((i4 - 1) - 1), .ref 217]) rfl rfl ?_
            refine wGetR hk (r := 217) (by decide +kernel) ?_
            refine wP (ls' := [.ref 188, iv r, iv bg, iv sp, iv (i4 - 1), iv i5]) (st' := [iv (i4 - 1), .ref 217, iv (M1 210 (i5).toNat).toInt, .ref 188, iv ((i4 - 1) - 1), .ref 217]) rfl rfl ?_
            refine wP (ls' := [.ref 188, iv r, iv bg, iv sp, iv (i4 - 1), iv i5]) (st' := [iv 1, iv (i4 - 1), .ref 217, iv (M1 210 (i5).toNat).toInt, .ref 188, iv ((i4 - 1) - 1), .ref 217]) rfl rfl ?_
            refine wSub ?_
            refine wIld hk (l := 520) (e := (M1 217 (((i4 - 1) - 1)).toNat).toInt) (by decide +kernel) (by omega) (by omega) (iE _) ?_
            refine wP (ls' := [.ref 188, iv r, iv bg, iv sp, iv (i4 - 1), iv i5]) (st' := [.ref 188, iv (M1 217 (((i4 - 1) - 1)).toNat).toInt, iv (M1 210 (i5).toNat).toInt, .ref 188, iv ((i4 - 1) - 1), .ref 217]) rfl rfl ?_
            refine wGetR hk (r := 217) (by decide +kernel) ?_
            refine wP (ls' := [.ref 188, iv r, iv bg, iv sp, iv (i4 - 1), iv i5]) (st' := [iv (i4 - 1), .ref 217, iv (M1 217 (((i4 - 1) - 1)).toNat).toInt, iv (M1 210 (i5).toNat).toInt, .ref 188, iv ((i4 - 1) - 1), .ref 217]) rfl rfl ?_
            refine wIld hk (l := 520) (e := (M1 217 ((i4 - 1)).toNat).toInt) (by decide +kernel) (by omega) (by omega) (iE _) ?_
            refine wCall hk (q := 83) (na := 3) (a := 188) (as := [iv (M1 210 (i5).toNat).toInt, iv (M1 217 (((i4 - 1) - 1)).toNat).toInt, iv (M1 217 ((i4 - 1)).toNat).toInt]) (t := [iv ((i4 - 1) - 1), .ref 217]) rfl (by decide +kernel) (by decide) (by decide +kernel) (Nat.le_of_ble_eq_true rfl) rfl rfl (zRn.mono (h83 (iG _) (iG _) (iG _) htop) (fun rv h' hq => ?_))
            obtain ⟨rfl, e, rfl⟩ := hq
            refine ⟨rfl, ?_⟩
            show zW X _ 84 10 [.iastore] [.ref 188, iv r, iv bg, iv sp, iv (i4 - 1), iv i5] [iv e, iv ((i4 - 1) - 1), .ref 217] (gH k M1) _
            refine wIst hk (l := 520) (by decide +kernel) (by omega) (by omega) ?_
            refine zW_fall bk_84_11 ?_
            refine wInc (ls' := [.ref 188, iv r, iv bg, iv sp, iv (i4 - 1), iv (i5 + 1)]) rfl rfl ?_
            refine wGoto (n1 := 1) rfl bk_84_1 ?_
            exact ih (n + 1) (i4 - 1) (i5 + 1) (aPut M1 217 (((i4 - 1) - 1)).toNat (Int32.ofInt e)) D' (by omega) hD' (by omega) (by omega) (fun a ha => by rw [aPut_r ha]; exact hM a ha) (fun _ q => absurd (hz q) (by omega))
          · replace g3 : ¬ (¬ (M1 210 (i5).toNat).toInt = 9) := g3
            refine wP (ls' := [.ref 188, iv r, iv bg, iv sp, iv i4, iv i5]) (st' := [.ref 188]) rfl rfl ?_
            refine wGetR hk (r := 217) (by decide +kernel) ?_
            refine wP (ls' := [.ref 188, iv r, iv bg, iv sp, iv i4, iv i5]) (st' := [iv i4, .ref 217]) rfl rfl ?_
            refine wP (ls' := [.ref 188, iv r, iv bg, iv sp, iv i4, iv i5]) (st' := [iv 1, iv i4, .ref 217]) rfl rfl ?_
            refine wSub ?_
            refine wP (ls' := [.ref 188, iv r, iv bg, iv sp, iv i4, iv i5]) (st' := [iv 1, iv (i4 - 1), .ref 217]) rfl rfl ?_
            refine wP (ls' := [.ref 188, iv r, iv bg, iv sp, iv i4, iv i5]) (st' := [.ref 188, iv 1, iv (i4 - 1), .ref 217]) rfl rfl ?_
            refine wGetR hk (r := 217) (by decide +kernel) ?_
            refine wP (ls' := [.ref 188, iv r, iv bg, iv sp, iv i4, iv i5]) (st' := [iv i4, .ref 217, iv 1, iv (i4 - 1), .ref 217]) rfl rfl ?_
            refine wP (ls' := [.ref 188, iv r, iv bg, iv sp, iv i4, iv i5]) (st' := [iv 1, iv i4, .ref 217, iv 1, iv (i4 - 1), .ref 217]) rfl rfl ?_
            refine wSub ?_
            refine wIld hk (l := 520) (e := (M1 217 ((i4 - 1)).toNat).toInt) (by decide +kernel) (by omega) (by omega) (iE _) ?_
            refine wSub ?_
            refine wIst hk (l := 520) (by decide +kernel) (by omega) (by omega) ?_
            refine wGoto (n1 := 11) rfl bk_84_11 ?_
            refine wInc (ls' := [.ref 188, iv r, iv bg, iv sp, iv i4, iv (i5 + 1)]) rfl rfl ?_
            refine wGoto (n1 := 1) rfl bk_84_1 ?_
            exact ih (n + 1) i4 (i5 + 1) (aPut M1 217 ((i4 - 1)).toNat (Int32.ofInt (1 - (M1 217 ((i4 - 1)).toNat).toInt))) D' (by omega) hD' (by omega) (by omega) (fun a ha => by rw [aPut_r ha]; exact hM a ha) (fun _ q => absurd (hz q) (by omega))
        · replace g2 : ¬ (¬ (M1 210 (i5).toNat).toInt = 1) := g2
          refine wP (ls' := [.ref 188, iv r, iv bg, iv sp, iv i4, iv i5]) (st' := [.ref 188]) rfl rfl ?_
          refine wGetR hk (r := 217) (by decide +kernel) ?_
          refine wP (ls' := [.ref 188, iv r, iv bg, iv sp, iv i4, iv i5]) (st' := [iv i4, .ref 217]) rfl rfl ?_
          refine wP (ls' := [.ref 188, iv r, iv bg, iv sp, iv i4, iv i5]) (st' := [.ref 188, iv i4, .ref 217]) rfl rfl ?_
          refine wGetR hk (r := 210) (by decide +kernel) ?_
          refine wP (ls' := [.ref 188, iv r, iv bg, iv sp, iv i4, iv i5]) (st' := [iv i5, .ref 210, iv i4, .ref 217]) rfl rfl ?_
          refine wIld hk (l := 2500) (e := (M1 210 (i5).toNat).toInt) (by decide +kernel) (by omega) (by omega) (iE _) ?_
          refine wIf0 (n1 := 6) rfl bk_84_6 bk_84_5 (by first | exact iG _ | omega) (fun g3 => ?_) (fun g3 => ?_)
          · replace g3 : ¬ (M1 210 (i5).toNat).toInt = 0 := g3
            refine wP (ls' := [.ref 188, iv r, iv bg, iv sp, iv i4, iv i5]) (st' := [.ref 188, iv i4, .ref 217]) rfl rfl ?_
            refine wGetR hk (r := 216) (by decide +kernel) ?_
            refine wP (ls' := [.ref 188, iv r, iv bg, iv sp, iv i4, iv i5]) (st' := [.ref 188, .ref 216, iv i4, .ref 217]) rfl rfl ?_
            refine wGetR hk (r := 211) (by decide +kernel) ?_
            refine wP (ls' := [.ref 188, iv r, iv bg, iv sp, iv i4, iv i5]) (st' := [iv i5, .ref 211, .ref 216, iv i4, .ref 217]) rfl rfl ?_
            refine wIld hk (l := 2500) (e := (M1 211 (i5).toNat).toInt) (by decide +kernel) (by omega) (by omega) (iE _) ?_
            refine wIld hk (l := 14) (e := (M1 216 ((M1 211 (i5).toNat).toInt).toNat).toInt) (by decide +kernel) (by omega) (by omega) (iE _) ?_
            refine zW_fall bk_84_7 ?_
            refine wIst hk (l := 520) (by decide +kernel) (by omega) (by omega) ?_
            refine wP (ls' := [.ref 188, iv r, iv bg, iv sp, iv i4, iv i5]) (st' := [iv i4]) rfl rfl ?_
            refine wP (ls' := [.ref 188, iv r, iv bg, iv sp, iv i4, iv i5]) (st' := [iv 1, iv i4]) rfl rfl ?_
            refine wAdd ?_
            refine wP (ls' := [.ref 188, iv r, iv bg, iv sp, iv (i4 + 1), iv i5]) (st' := []) rfl rfl ?_
            refine wGoto (n1 := 11) rfl bk_84_11 ?_
            refine wInc (ls' := [.ref 188, iv r, iv bg, iv sp, iv (i4 + 1), iv (i5 + 1)]) rfl rfl ?_
            refine wGoto (n1 := 1) rfl bk_84_1 ?_
            exact ih (n + 1) (i4 + 1) (i5 + 1) (aPut M1 217 (i4).toNat (Int32.ofInt (M1 216 ((M1 211 (i5).toNat).toInt).toNat).toInt)) D' (by omega) hD' (by omega) (by omega) (fun a ha => by rw [aPut_r ha]; exact hM a ha) (fun _ q => absurd (hz q) (by omega))
          · replace g3 : ¬ (¬ (M1 210 (i5).toNat).toInt = 0) := g3
            refine wP (ls' := [.ref 188, iv r, iv bg, iv sp, iv i4, iv i5]) (st' := [.ref 188, iv i4, .ref 217]) rfl rfl ?_
            refine wGetR hk (r := 211) (by decide +kernel) ?_
            refine wP (ls' := [.ref 188, iv r, iv bg, iv sp, iv i4, iv i5]) (st' := [iv i5, .ref 211, iv i4, .ref 217]) rfl rfl ?_
            refine wIld hk (l := 2500) (e := (M1 211 (i5).toNat).toInt) (by decide +kernel) (by omega) (by omega) (iE _) ?_
            refine wGoto (n1 := 7) rfl bk_84_7 ?_
            refine wIst hk (l := 520) (by decide +kernel) (by omega) (by omega) ?_
            refine wP (ls' := [.ref 188, iv r, iv bg, iv sp, iv i4, iv i5]) (st' := [iv i4]) rfl rfl ?_
            refine wP (ls' := [.ref 188, iv r, iv bg, iv sp, iv i4, iv i5]) (st' := [iv 1, iv i4]) rfl rfl ?_
            refine wAdd ?_
            refine wP (ls' := [.ref 188, iv r, iv bg, iv sp, iv (i4 + 1), iv i5]) (st' := []) rfl rfl ?_
            refine wGoto (n1 := 11) rfl bk_84_11 ?_
            refine wInc (ls' := [.ref 188, iv r, iv bg, iv sp, iv (i4 + 1), iv (i5 + 1)]) rfl rfl ?_
            refine wGoto (n1 := 1) rfl bk_84_1 ?_
            exact ih (n + 1) (i4 + 1) (i5 + 1) (aPut M1 217 (i4).toNat (Int32.ofInt (M1 211 (i5).toNat).toInt)) D' (by omega) hD' (by omega) (by omega) (fun a ha => by rw [aPut_r ha]; exact hM a ha) (fun _ _ => by rw [show D' - 1 = (i4).toNat by omega, aPut_e, ← iE, ea, show s0 + (n + 1) - 1 = s0 + n by omega])
theorem h84 {X : aX} {d : Nat} {k : Nat → aK} (hk : gKs k) {M : Nat → Nat → Int32} {r bg sp : Int} (hr : 0 ≤ r ∧ r ≤ 3) (hb : 0 ≤ bg) (hbs : bg ≤ sp) (hsp : sp ≤ 500) (hc : gCode (M 210) (M 211) (500 * r + bg).toNat (500 * r + sp).toNat) :
    zRn X (d + 1 + 1) 84 [.ref 188, iv r, iv bg, iv sp] (gH k M) (fun rv h' => ∃ e M', rv = some (iv e) ∧ (-2147483648 ≤ e ∧ e ≤ 2147483647) ∧ h' = gH k M' ∧ ∀ a, a ≠ 217 → M' a = M a) := by
  obtain ⟨s0, hs0⟩ : ∃ s0 : Nat, (s0 : Int) = 500 * r + bg := ⟨(500 * r + bg).toNat, by omega⟩
  obtain ⟨tot, htt⟩ : ∃ tot : Nat, (tot : Int) = sp - bg := ⟨(sp - bg).toNat, by omega⟩
  have htot : gDep (M 210) (M 211) s0 tot = some 1 := by
    unfold gCode at hc
    rwa [show (500 * r + bg).toNat = s0 by omega, show (500 * r + sp).toNat - s0 = tot by omega] at hc
  refine wEnt (n := 6) (ls := [.ref 188, iv r, iv bg, iv sp, aD, aD]) bk_84_0 (by decide +kernel) rfl rfl rfl ?_
  refine wP (ls' := [.ref 188, iv r, iv bg, iv sp, aD, aD]) (st' := [iv 0]) rfl rfl ?_
  refine wP (ls' := [.ref 188, iv r, iv bg, iv sp, iv 0, aD]) (st' := []) rfl rfl ?_
  refine wP (ls' := [.ref 188, iv r, iv bg, iv sp, iv 0, aD]) (st' := [iv 500]) rfl rfl ?_
  refine wP (ls' := [.ref 188, iv r, iv bg, iv sp, iv 0, aD]) (st' := [iv r, iv 500]) rfl rfl ?_
  refine wMul ?_
  refine wP (ls' := [.ref 188, iv r, iv bg, iv sp, iv 0, aD]) (st' := [iv bg, iv (500 * r)]) rfl rfl ?_
  refine wAdd ?_
  refine wP (ls' := [.ref 188, iv r, iv bg, iv sp, iv 0, iv ((500 * r) + bg)]) (st' := []) rfl rfl ?_
  refine zW_fall bk_84_1 ?_
  exact h84_loop hk hr hb hbs hsp hs0 htt htot tot 0 0 ((500 * r) + bg) M 0 (by omega) rfl rfl (by omega) (fun _ _ => rfl) (fun q => absurd q (by omega))
