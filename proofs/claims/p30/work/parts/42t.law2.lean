/-! a law is read, by hand -/
theorem bk_77_0 : (aMC 77)[0]? = some [.bipush 0, .istore 1] := by decide +kernel
theorem bk_77_1 : (aMC 77)[1]? = some [.aload 0, .getfield 126912108, .bipush 2, .if_icmp .ne 13] := by decide +kernel
theorem bk_77_2 : (aMC 77)[2]? = some [.aload 0, .getfield 127012112, .bipush 5, .if_icmp .gt 13] := by decide +kernel
theorem bk_77_3 : (aMC 77)[3]? = some [.iload 1, .bipush 16, .if_icmp .ne 5] := by decide +kernel
theorem bk_77_4 : (aMC 77)[4]? = some [.aload 0, .bipush 3, .invokevirtual 1560066, .ireturn] := by decide +kernel
theorem bk_77_5 : (aMC 77)[5]? = some [.bipush 64, .iload 1, .iadd, .istore 2, .aload 0, .getfield 127312126, .iload 2, .aload 0, .getfield 127012112, .iastore, .aload 0, .invokevirtual 1532065, .aload 0, .getfield 127412130, .iload 2, .aload 0, .getfield 128012152, .iastore, .aload 0, .invokevirtual 1564072, .bipush (-1), .if_icmp .ne 7] := by decide +kernel
theorem bk_77_6 : (aMC 77)[6]? = some [.bipush (-1), .ireturn] := by decide +kernel
theorem bk_77_7 : (aMC 77)[7]? = some [.aload 0, .getfield 127512134, .iload 2, .aload 0, .getfield 128012152, .iastore, .aload 0, .bipush 11, .invokevirtual 1584067, .ifCond .eq 10] := by decide +kernel
theorem bk_77_8 : (aMC 77)[8]? = some [.aload 0, .invokevirtual 1532065, .aload 0, .invokevirtual 1588076, .bipush (-1), .if_icmp .ne 10] := by decide +kernel
theorem bk_77_9 : (aMC 77)[9]? = some [.bipush (-1), .ireturn] := by decide +kernel
theorem bk_77_10 : (aMC 77)[10]? = some [.aload 0, .getfield 127612138, .iload 2, .aload 0, .getfield 128012152, .iastore, .aload 0, .bipush 59, .invokevirtual 1580068, .ifCond .ne 12] := by decide +kernel
theorem bk_77_11 : (aMC 77)[11]? = some [.aload 0, .bipush 1, .invokevirtual 1560066, .ireturn] := by decide +kernel
theorem bk_77_12 : (aMC 77)[12]? = some [.aload 0, .invokevirtual 1532065, .iload 1, .bipush 1, .iadd, .istore 1, .goto 1] := by decide +kernel
theorem bk_77_13 : (aMC 77)[13]? = some [.aload 0, .getfield 126912108, .ifCond .ne 15] := by decide +kernel
theorem bk_77_14 : (aMC 77)[14]? = some [.iload 1, .goto 16] := by decide +kernel
theorem bk_77_15 : (aMC 77)[15]? = some [.aload 0, .bipush 1, .invokevirtual 1560066] := by decide +kernel
theorem bk_77_16 : (aMC 77)[16]? = some [.ireturn] := by decide +kernel
set_option maxHeartbeats 4000000 in
theorem h77_l {X : aX} {d : Nat} {k : Nat → aK} (hk : gKs k) {M0 : Nat → Nat → Int32} :
    ∀ (nn : Nat) (n : Nat) (i1 : Int) (M1 : Nat → Nat → Int32) (u2 : Value) (hi : i1 = n) (hW : gLw M0 M1) (hL : gLs n M1) (hn : n ≤ 16) (ho : (M1 188 39).toInt = 0) (hm : (M1 188 38).toInt ≤ (M1 188 26).toInt) (hd : (M1 188 24).toInt - (M1 188 26).toInt ≤ nn), zW X (d + 1 + 1 + 1 + 1 + 1 + 1 + 1 + 1 + 1 + 1 + 1) 77 1 [.aload 0, .getfield 126912108, .bipush 2, .if_icmp .ne 13] [.ref 188, iv i1, u2] [] (gH k M1) (fun rv h' => ∃ e M', rv = some (iv e) ∧ h' = gH k M' ∧ gLw M0 M' ∧ (e = -1 ∨ 0 ≤ e ∧ e ≤ 16 ∧ ∀ l : Nat, (l : Int) < e → gLn M' l)) := by
  intro nn
  induction nn with
  | zero =>
    intro n i1 M1 u2 hi hW hL hn ho hm hd
    obtain ⟨q1, q2, q3, q4, q5, q6, -⟩ := hW.1.2
    obtain ⟨p1, p2, p3, p4, -⟩ := hW.1.1
    have en : ((64 + i1)).toNat = 64 + n := by omega
    obtain ⟨-, -, b1, b2, b3, b4, b5, b6⟩ := id hW
    refine wP (ls' := [.ref 188, iv i1, u2]) (st' := [.ref 188]) rfl rfl ?_
    refine wGetN hk (f := 27) (e := (M1 188 27).toInt) (by decide +kernel) (iE _) ?_
    refine wP (ls' := [.ref 188, iv i1, u2]) (st' := [iv 2, iv (M1 188 27).toInt]) rfl rfl ?_
    refine wIfc (n1 := 13) rfl bk_77_13 bk_77_2 (by first | exact iG _ | omega) (by omega) (fun g0 => ?_) (fun g0 => ?_)
    · replace g0 : ¬ ((M1 188 27).toInt : Int) = 2 := g0
      refine wP (ls' := [.ref 188, iv i1, u2]) (st' := [.ref 188]) rfl rfl ?_
      refine wGetN hk (f := 27) (e := (M1 188 27).toInt) (by decide +kernel) (iE _) ?_
      refine wIf0 (n1 := 15) rfl bk_77_15 bk_77_14 (by first | exact iG _ | omega) (fun g1 => ?_) (fun g1 => ?_)
      · replace g1 : ¬ ((M1 188 27).toInt : Int) = 0 := g1
        refine wP (ls' := [.ref 188, iv i1, u2]) (st' := [.ref 188]) rfl rfl ?_
        refine wP (ls' := [.ref 188, iv i1, u2]) (st' := [iv 1, .ref 188]) rfl rfl ?_
        refine wCall hk (q := 66) (na := 1) (a := 188) (as := [iv 1]) (t := []) rfl (by decide +kernel) (by decide) (by decide +kernel) (Nat.le_of_ble_eq_true rfl) rfl rfl (zRn.mono (h66 hk) (fun rv h' hq => ?_))
        obtain ⟨rfl, rfl⟩ := hq
        refine ⟨rfl, ?_⟩
        show zW X _ 77 15 [] [.ref 188, iv i1, u2] [iv (-1)] (gH k (gFa M1 1)) _
        refine zW_fall bk_77_16 ?_
        exact wIret (Or.inl (by decide +kernel)) ⟨-1, _, rfl, rfl, gLw_fa hW, Or.inl rfl⟩
      · replace g1 : ¬ (¬ ((M1 188 27).toInt : Int) = 0) := g1
        refine wP (ls' := [.ref 188, iv i1, u2]) (st' := [iv i1]) rfl rfl ?_
        refine wGoto (n1 := 16) rfl bk_77_16 ?_
        exact wIret (Or.inl (by decide +kernel)) ⟨i1, _, rfl, rfl, hW, Or.inr ⟨by omega, by omega, fun l hl => hL l (by omega)⟩⟩
    · replace g0 : ¬ (¬ ((M1 188 27).toInt : Int) = 2) := g0
      refine wP (ls' := [.ref 188, iv i1, u2]) (st' := [.ref 188]) rfl rfl ?_
      refine wGetN hk (f := 28) (e := (M1 188 28).toInt) (by decide +kernel) (iE _) ?_
      refine wP (ls' := [.ref 188, iv i1, u2]) (st' := [iv 5, iv (M1 188 28).toInt]) rfl rfl ?_
      refine wIfc (n1 := 13) rfl bk_77_13 bk_77_3 (by first | exact iG _ | omega) (by omega) (fun g1 => ?_) (fun g1 => ?_)
      · replace g1 : (5 : Int) < (M1 188 28).toInt := g1
        refine wP (ls' := [.ref 188, iv i1, u2]) (st' := [.ref 188]) rfl rfl ?_
        refine wGetN hk (f := 27) (e := (M1 188 27).toInt) (by decide +kernel) (iE _) ?_
        refine wIf0 (n1 := 15) rfl bk_77_15 bk_77_14 (by first | exact iG _ | omega) (fun g2 => ?_) (fun g2 => ?_)
        · replace g2 : ¬ ((M1 188 27).toInt : Int) = 0 := g2
          refine wP (ls' := [.ref 188, iv i1, u2]) (st' := [.ref 188]) rfl rfl ?_
          refine wP (ls' := [.ref 188, iv i1, u2]) (st' := [iv 1, .ref 188]) rfl rfl ?_
          refine wCall hk (q := 66) (na := 1) (a := 188) (as := [iv 1]) (t := []) rfl (by decide +kernel) (by decide) (by decide +kernel) (Nat.le_of_ble_eq_true rfl) rfl rfl (zRn.mono (h66 hk) (fun rv h' hq => ?_))
          obtain ⟨rfl, rfl⟩ := hq
          refine ⟨rfl, ?_⟩
          show zW X _ 77 15 [] [.ref 188, iv i1, u2] [iv (-1)] (gH k (gFa M1 1)) _
          refine zW_fall bk_77_16 ?_
          exact wIret (Or.inl (by decide +kernel)) ⟨-1, _, rfl, rfl, gLw_fa hW, Or.inl rfl⟩
        · replace g2 : ¬ (¬ ((M1 188 27).toInt : Int) = 0) := g2
          refine wP (ls' := [.ref 188, iv i1, u2]) (st' := [iv i1]) rfl rfl ?_
          refine wGoto (n1 := 16) rfl bk_77_16 ?_
          exact wIret (Or.inl (by decide +kernel)) ⟨i1, _, rfl, rfl, hW, Or.inr ⟨by omega, by omega, fun l hl => hL l (by omega)⟩⟩
      · replace g1 : ¬ ((5 : Int) < (M1 188 28).toInt) := g1
        refine wP (ls' := [.ref 188, iv i1, u2]) (st' := [iv i1]) rfl rfl ?_
        refine wP (ls' := [.ref 188, iv i1, u2]) (st' := [iv 16, iv i1]) rfl rfl ?_
        refine wIfc (n1 := 5) rfl bk_77_5 bk_77_4 (by omega) (by omega) (fun g2 => ?_) (fun g2 => ?_)
        · replace g2 : ¬ (i1 : Int) = 16 := g2
          refine wP (ls' := [.ref 188, iv i1, u2]) (st' := [iv 64]) rfl rfl ?_
          refine wP (ls' := [.ref 188, iv i1, u2]) (st' := [iv i1, iv 64]) rfl rfl ?_
          refine wAdd ?_
          refine wP (ls' := [.ref 188, iv i1, iv (64 + i1)]) (st' := []) rfl rfl ?_
          refine wP (ls' := [.ref 188, iv i1, iv (64 + i1)]) (st' := [.ref 188]) rfl rfl ?_
          refine wGetR hk (r := 205) (by decide +kernel) ?_
          refine wP (ls' := [.ref 188, iv i1, iv (64 + i1)]) (st' := [iv (64 + i1), .ref 205]) rfl rfl ?_
          refine wP (ls' := [.ref 188, iv i1, iv (64 + i1)]) (st' := [.ref 188, iv (64 + i1), .ref 205]) rfl rfl ?_
          refine wGetN hk (f := 28) (e := (M1 188 28).toInt) (by decide +kernel) (iE _) ?_
          refine wIst hk (l := 80) (by decide +kernel) (by omega) (by omega) ?_
          refine wP (ls' := [.ref 188, iv i1, iv (64 + i1)]) (st' := [.ref 188]) rfl rfl ?_
          refine wCall hk (q := 65) (na := 0) (a := 188) (as := []) (t := []) rfl (by decide +kernel) (by decide) (by decide +kernel) (Nat.le_of_ble_eq_true rfl) rfl rfl (zRn.mono (h65p hk (gPre_put hW.1.1 (by decide) (fun q => absurd q (by decide)))) (fun rv h' hq => ?_))
          obtain ⟨M2, rfl, rfl, hR⟩ := hq
          have w2 := gLw_rd (gLw_put hW (a := 205) (j := ((64 + i1)).toNat) (x := Int32.ofInt (M1 188 28).toInt) (by omega) (by omega)) hR
          have l2 := gLs_rd (gLs_put hL hW.2.2.1 (a := 205) (j := ((64 + i1)).toNat) (x := Int32.ofInt (M1 188 28).toInt) (by omega) (by omega)) (by rw [aPut_o (by decide)]; omega) (gPre_put hW.1.1 (by decide) (fun q => absurd q (by decide))) hR
          obtain ⟨-, t2, t3, t4, t5, t6⟩ := gRd_s hR (gPre_put hW.1.1 (by decide) (fun q => absurd q (by decide)))
          rw [aPut_o (by decide)] at t6
          have t38 : (M2 188 38).toInt = (M1 188 38).toInt := by rw [t3, aPut_o (by decide)]
          have t39 : (M2 188 39).toInt = (M1 188 39).toInt := by rw [t2.2.2 39 (by decide) (by decide) (by decide) (by decide) (by decide) (by decide) (by decide), aPut_o (by decide)]
          have t24 : (M2 188 24).toInt = (M1 188 24).toInt := by rw [t2.2.2 24 (by decide) (by decide) (by decide) (by decide) (by decide) (by decide) (by decide), aPut_o (by decide)]
          obtain ⟨x1, x2, x3, x4, -, -, -⟩ := w2.1.2
          clear t3 t4 t5
          refine ⟨rfl, ?_⟩
          show zW X _ 77 5 [.aload 0, .getfield 127412130, .iload 2, .aload 0, .getfield 128012152, .iastore, .aload 0, .invokevirtual 1564072, .bipush (-1), .if_icmp .ne 7] [.ref 188, iv i1, iv (64 + i1)] [] (gH k M2) _
          refine wP (ls' := [.ref 188, iv i1, iv (64 + i1)]) (st' := [.ref 188]) rfl rfl ?_
          refine wGetR hk (r := 206) (by decide +kernel) ?_
          refine wP (ls' := [.ref 188, iv i1, iv (64 + i1)]) (st' := [iv (64 + i1), .ref 206]) rfl rfl ?_
          refine wP (ls' := [.ref 188, iv i1, iv (64 + i1)]) (st' := [.ref 188, iv (64 + i1), .ref 206]) rfl rfl ?_
          refine wGetN hk (f := 38) (e := (M2 188 38).toInt) (by decide +kernel) (iE _) ?_
          refine wIst hk (l := 80) (by decide +kernel) (by omega) (by omega) ?_
          refine wP (ls' := [.ref 188, iv i1, iv (64 + i1)]) (st' := [.ref 188]) rfl rfl ?_
          refine wCall hk (q := 72) (na := 0) (a := 188) (as := []) (t := []) rfl (by decide +kernel) (by decide) (by decide +kernel) (Nat.le_of_ble_eq_true rfl) rfl rfl (zRn.mono (h72 hk (M := (aPut M2 206 ((64 + i1)).toNat (Int32.ofInt (M2 188 38).toInt))) (c := 0) (gTs_put w2.1 (by decide) (fun q => absurd q (by decide))) (by omega) (by rw [aPut_o (by decide)]; omega) (by rw [aPut_o (by decide), aPut_o (by decide)]; omega)) (fun rv h' hq => ?_))
          obtain ⟨e4, M3, rfl, rfl, hU⟩ := hq
          obtain ⟨u1, u2, u3, u4, uf, u5⟩ := hU
          rw [aPut_o (by decide)] at uf
          have eb4 : -1 ≤ e4 ∧ e4 ≤ 0 := by
            rcases u5 with z | z
            · omega
            · have := z.1; omega
          have w3 := gLw_fr (gLw_put w2 (a := 206) (j := ((64 + i1)).toNat) (x := Int32.ofInt (M2 188 38).toInt) (by omega) (by omega)) u1 u2 u3 u4
          have u39 : (M3 188 39).toInt = (M2 188 39).toInt := by rw [u2.2.2 39 (by decide) (by decide) (by decide) (by decide) (by decide) (by decide) (by decide), aPut_o (by decide)]
          have u24 : (M3 188 24).toInt = (M2 188 24).toInt := by rw [u2.2.2 24 (by decide) (by decide) (by decide) (by decide) (by decide) (by decide) (by decide), aPut_o (by decide)]
          obtain ⟨y1, y2, y3, y4, -, -, -⟩ := w3.1.2
          refine ⟨rfl, ?_⟩
          show zW X _ 77 5 [.bipush (-1), .if_icmp .ne 7] [.ref 188, iv i1, iv (64 + i1)] [iv e4] (gH k M3) _
          refine wP (ls' := [.ref 188, iv i1, iv (64 + i1)]) (st' := [iv (-1), iv e4]) rfl rfl ?_
          refine wIfc (n1 := 7) rfl bk_77_7 bk_77_6 (by omega) (by omega) (fun g3 => ?_) (fun g3 => ?_)
          · replace g3 : ¬ (e4 : Int) = (-1) := g3
            replace u5 := (u5.resolve_left g3).2
            obtain ⟨u6, u7, u8⟩ := u5
            rw [aPut_o (by decide)] at u7
            refine wP (ls' := [.ref 188, iv i1, iv (64 + i1)]) (st' := [.ref 188]) rfl rfl ?_
            refine wGetR hk (r := 207) (by decide +kernel) ?_
            refine wP (ls' := [.ref 188, iv i1, iv (64 + i1)]) (st' := [iv (64 + i1), .ref 207]) rfl rfl ?_
            refine wP (ls' := [.ref 188, iv i1, iv (64 + i1)]) (st' := [.ref 188, iv (64 + i1), .ref 207]) rfl rfl ?_
            refine wGetN hk (f := 38) (e := (M3 188 38).toInt) (by decide +kernel) (iE _) ?_
            refine wIst hk (l := 80) (by decide +kernel) (by omega) (by omega) ?_
            refine wP (ls' := [.ref 188, iv i1, iv (64 + i1)]) (st' := [.ref 188]) rfl rfl ?_
            refine wP (ls' := [.ref 188, iv i1, iv (64 + i1)]) (st' := [iv 11, .ref 188]) rfl rfl ?_
            refine wCall hk (q := 67) (na := 1) (a := 188) (as := [iv 11]) (t := []) rfl (by decide +kernel) (by decide) (by decide +kernel) (Nat.le_of_ble_eq_true rfl) rfl rfl (zRn.mono (h67 hk (by omega)) (fun rv h' hq => ?_))
            obtain ⟨rfl, e5, rfl, r5⟩ := hq
            have rb5 : 0 ≤ e5 ∧ e5 ≤ 1 := by omega
            clear r5
            refine ⟨rfl, ?_⟩
            show zW X _ 77 7 [.ifCond .eq 10] [.ref 188, iv i1, iv (64 + i1)] [iv e5] (gH k (aPut M3 207 ((64 + i1)).toNat (Int32.ofInt (M3 188 38).toInt))) _
            refine wIf0 (n1 := 10) rfl bk_77_10 bk_77_8 (by omega) (fun g4 => ?_) (fun g4 => ?_)
            · replace g4 : (e5 : Int) = 0 := g4
              refine wP (ls' := [.ref 188, iv i1, iv (64 + i1)]) (st' := [.ref 188]) rfl rfl ?_
              refine wGetR hk (r := 208) (by decide +kernel) ?_
              refine wP (ls' := [.ref 188, iv i1, iv (64 + i1)]) (st' := [iv (64 + i1), .ref 208]) rfl rfl ?_
              refine wP (ls' := [.ref 188, iv i1, iv (64 + i1)]) (st' := [.ref 188, iv (64 + i1), .ref 208]) rfl rfl ?_
              refine wGetN hk (f := 38) (e := (M3 188 38).toInt) (by decide +kernel) (by rw [aPut_o (by decide)]; exact iE _) ?_
              refine wIst hk (l := 80) (by decide +kernel) (by omega) (by omega) ?_
              refine wP (ls' := [.ref 188, iv i1, iv (64 + i1)]) (st' := [.ref 188]) rfl rfl ?_
              refine wP (ls' := [.ref 188, iv i1, iv (64 + i1)]) (st' := [iv 59, .ref 188]) rfl rfl ?_
              refine wCall hk (q := 68) (na := 1) (a := 188) (as := [iv 59]) (t := []) rfl (by decide +kernel) (by decide) (by decide +kernel) (Nat.le_of_ble_eq_true rfl) rfl rfl (zRn.mono (h68 hk (by omega)) (fun rv h' hq => ?_))
              obtain ⟨rfl, e6, rfl, r6⟩ := hq
              have rb6 : 0 ≤ e6 ∧ e6 ≤ 1 := by omega
              clear r6
              refine ⟨rfl, ?_⟩
              show zW X _ 77 10 [.ifCond .ne 12] [.ref 188, iv i1, iv (64 + i1)] [iv e6] (gH k (aPut (aPut M3 207 ((64 + i1)).toNat (Int32.ofInt (M3 188 38).toInt)) 208 ((64 + i1)).toNat (Int32.ofInt (M3 188 38).toInt))) _
              refine wIf0 (n1 := 12) rfl bk_77_12 bk_77_11 (by omega) (fun g5 => ?_) (fun g5 => ?_)
              · replace g5 : ¬ (e6 : Int) = 0 := g5
                refine wP (ls' := [.ref 188, iv i1, iv (64 + i1)]) (st' := [.ref 188]) rfl rfl ?_
                refine wCall hk (q := 65) (na := 0) (a := 188) (as := []) (t := []) rfl (by decide +kernel) (by decide) (by decide +kernel) (Nat.le_of_ble_eq_true rfl) rfl rfl (zRn.mono (h65p hk (gLw_put (gLw_put w3 (a := 207) (j := ((64 + i1)).toNat) (x := Int32.ofInt (M3 188 38).toInt) (by omega) (by omega)) (a := 208) (j := ((64 + i1)).toNat) (x := Int32.ofInt (M3 188 38).toInt) (by omega) (by omega)).1.1) (fun rv h' hq => ?_))
                obtain ⟨M6, rfl, rfl, hR6⟩ := hq
                refine ⟨rfl, ?_⟩
                show zW X _ 77 12 [.iload 1, .bipush 1, .iadd, .istore 1, .goto 1] [.ref 188, iv i1, iv (64 + i1)] [] (gH k M6) _
                refine wP (ls' := [.ref 188, iv i1, iv (64 + i1)]) (st' := [iv i1]) rfl rfl ?_
                refine wP (ls' := [.ref 188, iv i1, iv (64 + i1)]) (st' := [iv 1, iv i1]) rfl rfl ?_
                refine wAdd ?_
                refine wP (ls' := [.ref 188, iv (i1 + 1), iv (64 + i1)]) (st' := []) rfl rfl ?_
                refine wGoto (n1 := 1) rfl bk_77_1 ?_
                exfalso
                omega
              · replace g5 : ¬ (¬ (e6 : Int) = 0) := g5
                refine wP (ls' := [.ref 188, iv i1, iv (64 + i1)]) (st' := [.ref 188]) rfl rfl ?_
                refine wP (ls' := [.ref 188, iv i1, iv (64 + i1)]) (st' := [iv 1, .ref 188]) rfl rfl ?_
                refine wCall hk (q := 66) (na := 1) (a := 188) (as := [iv 1]) (t := []) rfl (by decide +kernel) (by decide) (by decide +kernel) (Nat.le_of_ble_eq_true rfl) rfl rfl (zRn.mono (h66 hk) (fun rv h' hq => ?_))
                obtain ⟨rfl, rfl⟩ := hq
                refine ⟨rfl, ?_⟩
                show zW X _ 77 11 [.ireturn] [.ref 188, iv i1, iv (64 + i1)] [iv (-1)] (gH k (gFa (aPut (aPut M3 207 ((64 + i1)).toNat (Int32.ofInt (M3 188 38).toInt)) 208 ((64 + i1)).toNat (Int32.ofInt (M3 188 38).toInt)) 1)) _
                exact wIret (Or.inl (by decide +kernel)) ⟨-1, _, rfl, rfl, gLw_fa (gLw_put (gLw_put w3 (a := 207) (j := ((64 + i1)).toNat) (x := Int32.ofInt (M3 188 38).toInt) (by omega) (by omega)) (a := 208) (j := ((64 + i1)).toNat) (x := Int32.ofInt (M3 188 38).toInt) (by omega) (by omega)), Or.inl rfl⟩
            · replace g4 : ¬ ((e5 : Int) = 0) := g4
              refine wP (ls' := [.ref 188, iv i1, iv (64 + i1)]) (st' := [.ref 188]) rfl rfl ?_
              refine wCall hk (q := 65) (na := 0) (a := 188) (as := []) (t := []) rfl (by decide +kernel) (by decide) (by decide +kernel) (Nat.le_of_ble_eq_true rfl) rfl rfl (zRn.mono (h65p hk (gPre_put w3.1.1 (by decide) (fun q => absurd q (by decide)))) (fun rv h' hq => ?_))
              obtain ⟨M4, rfl, rfl, hR4⟩ := hq
              have w4 := gLw_rd (gLw_put w3 (a := 207) (j := ((64 + i1)).toNat) (x := Int32.ofInt (M3 188 38).toInt) (by omega) (by omega)) hR4
              have l3 := gLs_ef (gLs_put l2 w2.2.2.1 (a := 206) (j := ((64 + i1)).toNat) (x := Int32.ofInt (M2 188 38).toInt) (by omega) (by omega)) (by rw [aPut_o (by decide)]; omega) u3 (fun a ha => u2.1 a (by omega) (by omega) (by omega)) u8
              have g38 : (aPut M2 206 ((64 + i1)).toNat (Int32.ofInt (M2 188 38).toInt)) 188 38 = M2 188 38 := aPut_o (by decide)
              have g206 : (aPut M2 206 ((64 + i1)).toNat (Int32.ofInt (M2 188 38).toInt)) 206 (64 + n) = Int32.ofInt ((aPut M2 206 ((64 + i1)).toNat (Int32.ofInt (M2 188 38).toInt)) 188 38).toInt := by rw [g38, ← en, aPut_e]
              have c3 := gLc_su (n := n) g206 (by rw [g38]; omega) (u2.1 206 (by decide) (by decide) (by decide)) u3 u8
              rw [g38] at c3
              clear g206 g38
              have l4 := gLs_rd (gLs_put l3 u3 (a := 207) (j := ((64 + i1)).toNat) (x := Int32.ofInt (M3 188 38).toInt) (by omega) (by omega)) (by rw [aPut_o (by decide)]; omega) (gPre_put w3.1.1 (by decide) (fun q => absurd q (by decide))) hR4
              have c4 := gLc_rd (gLc_put (a := 207) (j := ((64 + i1)).toNat) (x := Int32.ofInt (M3 188 38).toInt) c3 (by omega)) (gPre_put w3.1.1 (by decide) (fun q => absurd q (by decide))) hR4
              obtain ⟨-, j2, j3, j4, j5, j6⟩ := gRd_s hR4 (gPre_put w3.1.1 (by decide) (fun q => absurd q (by decide)))
              rw [aPut_o (by decide)] at j6
              have j38 : (M4 188 38).toInt = (M3 188 38).toInt := by rw [j3, aPut_o (by decide)]
              have j39 : (M4 188 39).toInt = (M3 188 39).toInt := by rw [j2.2.2 39 (by decide) (by decide) (by decide) (by decide) (by decide) (by decide) (by decide), aPut_o (by decide)]
              have j24 : (M4 188 24).toInt = (M3 188 24).toInt := by rw [j2.2.2 24 (by decide) (by decide) (by decide) (by decide) (by decide) (by decide) (by decide), aPut_o (by decide)]
              have j207 : M4 207 ((64 + i1)).toNat = Int32.ofInt (M3 188 38).toInt := by rw [j2.1 207 (by decide) (by decide) (by decide), aPut_e]
              obtain ⟨z1, z2, z3, z4, -, -, -⟩ := w4.1.2
              clear j3 j4 j5
              refine ⟨rfl, ?_⟩
              show zW X _ 77 8 [.aload 0, .invokevirtual 1588076, .bipush (-1), .if_icmp .ne 10] [.ref 188, iv i1, iv (64 + i1)] [] (gH k M4) _
              refine wP (ls' := [.ref 188, iv i1, iv (64 + i1)]) (st' := [.ref 188]) rfl rfl ?_
              refine wCall hk (q := 76) (na := 0) (a := 188) (as := []) (t := []) rfl (by decide +kernel) (by decide) (by decide +kernel) (Nat.le_of_ble_eq_true rfl) rfl rfl (zRn.mono (h76 hk (c := (M4 188 26).toInt - (M4 188 38).toInt) (by omega) w4.1 (by omega) (by omega) (by omega)) (fun rv h' hq => ?_))
              obtain ⟨e10, M5, rfl, rfl, v1, v2, va, vb, vc, vd, ve, vf, v5⟩ := hq
              have eb10 : -1 ≤ e10 ∧ e10 ≤ 0 := by
                rcases v5 with z | z
                · omega
                · have := z.1; omega
              have w5 := gLw_fw w4 v1 v2 ⟨va, vb, vc, vd, ve, vf⟩
              have v24 : (M5 188 24).toInt = (M4 188 24).toInt := by rw [v2.2.2 24 (by decide) (by decide) (by decide) (by decide) (by decide) (by decide) (by decide) (by decide) (by decide)]
              obtain ⟨v9a, v9b, v9c, v9d, -, -, -⟩ := v1.2
              refine ⟨rfl, ?_⟩
              show zW X _ 77 8 [.bipush (-1), .if_icmp .ne 10] [.ref 188, iv i1, iv (64 + i1)] [iv e10] (gH k M5) _
              refine wP (ls' := [.ref 188, iv i1, iv (64 + i1)]) (st' := [iv (-1), iv e10]) rfl rfl ?_
              refine wIfc (n1 := 10) rfl bk_77_10 bk_77_9 (by omega) (by omega) (fun g5 => ?_) (fun g5 => ?_)
              · replace g5 : ¬ (e10 : Int) = (-1) := g5
                replace v5 := (v5.resolve_left g5).2
                obtain ⟨v6, v7, v8⟩ := v5
                refine wP (ls' := [.ref 188, iv i1, iv (64 + i1)]) (st' := [.ref 188]) rfl rfl ?_
                refine wGetR hk (r := 208) (by decide +kernel) ?_
                refine wP (ls' := [.ref 188, iv i1, iv (64 + i1)]) (st' := [iv (64 + i1), .ref 208]) rfl rfl ?_
                refine wP (ls' := [.ref 188, iv i1, iv (64 + i1)]) (st' := [.ref 188, iv (64 + i1), .ref 208]) rfl rfl ?_
                refine wGetN hk (f := 38) (e := (M5 188 38).toInt) (by decide +kernel) (iE _) ?_
                refine wIst hk (l := 80) (by decide +kernel) (by omega) (by omega) ?_
                refine wP (ls' := [.ref 188, iv i1, iv (64 + i1)]) (st' := [.ref 188]) rfl rfl ?_
                refine wP (ls' := [.ref 188, iv i1, iv (64 + i1)]) (st' := [iv 59, .ref 188]) rfl rfl ?_
                refine wCall hk (q := 68) (na := 1) (a := 188) (as := [iv 59]) (t := []) rfl (by decide +kernel) (by decide) (by decide +kernel) (Nat.le_of_ble_eq_true rfl) rfl rfl (zRn.mono (h68 hk (by omega)) (fun rv h' hq => ?_))
                obtain ⟨rfl, e11, rfl, r11⟩ := hq
                have rb11 : 0 ≤ e11 ∧ e11 ≤ 1 := by omega
                clear r11
                refine ⟨rfl, ?_⟩
                show zW X _ 77 10 [.ifCond .ne 12] [.ref 188, iv i1, iv (64 + i1)] [iv e11] (gH k (aPut M5 208 ((64 + i1)).toNat (Int32.ofInt (M5 188 38).toInt))) _
                refine wIf0 (n1 := 12) rfl bk_77_12 bk_77_11 (by omega) (fun g6 => ?_) (fun g6 => ?_)
                · replace g6 : ¬ (e11 : Int) = 0 := g6
                  refine wP (ls' := [.ref 188, iv i1, iv (64 + i1)]) (st' := [.ref 188]) rfl rfl ?_
                  refine wCall hk (q := 65) (na := 0) (a := 188) (as := []) (t := []) rfl (by decide +kernel) (by decide) (by decide +kernel) (Nat.le_of_ble_eq_true rfl) rfl rfl (zRn.mono (h65p hk (gLw_put w5 (a := 208) (j := ((64 + i1)).toNat) (x := Int32.ofInt (M5 188 38).toInt) (by omega) (by omega)).1.1) (fun rv h' hq => ?_))
                  obtain ⟨M6, rfl, rfl, hR6⟩ := hq
                  refine ⟨rfl, ?_⟩
                  show zW X _ 77 12 [.iload 1, .bipush 1, .iadd, .istore 1, .goto 1] [.ref 188, iv i1, iv (64 + i1)] [] (gH k M6) _
                  refine wP (ls' := [.ref 188, iv i1, iv (64 + i1)]) (st' := [iv i1]) rfl rfl ?_
                  refine wP (ls' := [.ref 188, iv i1, iv (64 + i1)]) (st' := [iv 1, iv i1]) rfl rfl ?_
                  refine wAdd ?_
                  refine wP (ls' := [.ref 188, iv (i1 + 1), iv (64 + i1)]) (st' := []) rfl rfl ?_
                  refine wGoto (n1 := 1) rfl bk_77_1 ?_
                  exfalso
                  omega
                · replace g6 : ¬ (¬ (e11 : Int) = 0) := g6
                  refine wP (ls' := [.ref 188, iv i1, iv (64 + i1)]) (st' := [.ref 188]) rfl rfl ?_
                  refine wP (ls' := [.ref 188, iv i1, iv (64 + i1)]) (st' := [iv 1, .ref 188]) rfl rfl ?_
                  refine wCall hk (q := 66) (na := 1) (a := 188) (as := [iv 1]) (t := []) rfl (by decide +kernel) (by decide) (by decide +kernel) (Nat.le_of_ble_eq_true rfl) rfl rfl (zRn.mono (h66 hk) (fun rv h' hq => ?_))
                  obtain ⟨rfl, rfl⟩ := hq
                  refine ⟨rfl, ?_⟩
                  show zW X _ 77 11 [.ireturn] [.ref 188, iv i1, iv (64 + i1)] [iv (-1)] (gH k (gFa (aPut M5 208 ((64 + i1)).toNat (Int32.ofInt (M5 188 38).toInt)) 1)) _
                  exact wIret (Or.inl (by decide +kernel)) ⟨-1, _, rfl, rfl, gLw_fa (gLw_put w5 (a := 208) (j := ((64 + i1)).toNat) (x := Int32.ofInt (M5 188 38).toInt) (by omega) (by omega)), Or.inl rfl⟩
              · replace g5 : ¬ (¬ (e10 : Int) = (-1)) := g5
                clear v5
                refine wP (ls' := [.ref 188, iv i1, iv (64 + i1)]) (st' := [iv (-1)]) rfl rfl ?_
                exact wIret (Or.inl (by decide +kernel)) ⟨-1, _, rfl, rfl, w5, Or.inl rfl⟩
          · replace g3 : ¬ (¬ (e4 : Int) = (-1)) := g3
            clear u5
            refine wP (ls' := [.ref 188, iv i1, iv (64 + i1)]) (st' := [iv (-1)]) rfl rfl ?_
            exact wIret (Or.inl (by decide +kernel)) ⟨-1, _, rfl, rfl, w3, Or.inl rfl⟩
        · replace g2 : ¬ (¬ (i1 : Int) = 16) := g2
          refine wP (ls' := [.ref 188, iv i1, u2]) (st' := [.ref 188]) rfl rfl ?_
          refine wP (ls' := [.ref 188, iv i1, u2]) (st' := [iv 3, .ref 188]) rfl rfl ?_
          refine wCall hk (q := 66) (na := 1) (a := 188) (as := [iv 3]) (t := []) rfl (by decide +kernel) (by decide) (by decide +kernel) (Nat.le_of_ble_eq_true rfl) rfl rfl (zRn.mono (h66 hk) (fun rv h' hq => ?_))
          obtain ⟨rfl, rfl⟩ := hq
          refine ⟨rfl, ?_⟩
          show zW X _ 77 4 [.ireturn] [.ref 188, iv i1, u2] [iv (-1)] (gH k (gFa M1 3)) _
          exact wIret (Or.inl (by decide +kernel)) ⟨-1, _, rfl, rfl, gLw_fa hW, Or.inl rfl⟩
  | succ nn ih =>
    intro n i1 M1 u2 hi hW hL hn ho hm hd
    obtain ⟨q1, q2, q3, q4, q5, q6, -⟩ := hW.1.2
    obtain ⟨p1, p2, p3, p4, -⟩ := hW.1.1
    have en : ((64 + i1)).toNat = 64 + n := by omega
    obtain ⟨-, -, b1, b2, b3, b4, b5, b6⟩ := id hW
    refine wP (ls' := [.ref 188, iv i1, u2]) (st' := [.ref 188]) rfl rfl ?_
    refine wGetN hk (f := 27) (e := (M1 188 27).toInt) (by decide +kernel) (iE _) ?_
    refine wP (ls' := [.ref 188, iv i1, u2]) (st' := [iv 2, iv (M1 188 27).toInt]) rfl rfl ?_
    refine wIfc (n1 := 13) rfl bk_77_13 bk_77_2 (by first | exact iG _ | omega) (by omega) (fun g0 => ?_) (fun g0 => ?_)
    · replace g0 : ¬ ((M1 188 27).toInt : Int) = 2 := g0
      refine wP (ls' := [.ref 188, iv i1, u2]) (st' := [.ref 188]) rfl rfl ?_
      refine wGetN hk (f := 27) (e := (M1 188 27).toInt) (by decide +kernel) (iE _) ?_
      refine wIf0 (n1 := 15) rfl bk_77_15 bk_77_14 (by first | exact iG _ | omega) (fun g1 => ?_) (fun g1 => ?_)
      · replace g1 : ¬ ((M1 188 27).toInt : Int) = 0 := g1
        refine wP (ls' := [.ref 188, iv i1, u2]) (st' := [.ref 188]) rfl rfl ?_
        refine wP (ls' := [.ref 188, iv i1, u2]) (st' := [iv 1, .ref 188]) rfl rfl ?_
        refine wCall hk (q := 66) (na := 1) (a := 188) (as := [iv 1]) (t := []) rfl (by decide +kernel) (by decide) (by decide +kernel) (Nat.le_of_ble_eq_true rfl) rfl rfl (zRn.mono (h66 hk) (fun rv h' hq => ?_))
        obtain ⟨rfl, rfl⟩ := hq
        refine ⟨rfl, ?_⟩
        show zW X _ 77 15 [] [.ref 188, iv i1, u2] [iv (-1)] (gH k (gFa M1 1)) _
        refine zW_fall bk_77_16 ?_
        exact wIret (Or.inl (by decide +kernel)) ⟨-1, _, rfl, rfl, gLw_fa hW, Or.inl rfl⟩
      · replace g1 : ¬ (¬ ((M1 188 27).toInt : Int) = 0) := g1
        refine wP (ls' := [.ref 188, iv i1, u2]) (st' := [iv i1]) rfl rfl ?_
        refine wGoto (n1 := 16) rfl bk_77_16 ?_
        exact wIret (Or.inl (by decide +kernel)) ⟨i1, _, rfl, rfl, hW, Or.inr ⟨by omega, by omega, fun l hl => hL l (by omega)⟩⟩
    · replace g0 : ¬ (¬ ((M1 188 27).toInt : Int) = 2) := g0
      refine wP (ls' := [.ref 188, iv i1, u2]) (st' := [.ref 188]) rfl rfl ?_
      refine wGetN hk (f := 28) (e := (M1 188 28).toInt) (by decide +kernel) (iE _) ?_
      refine wP (ls' := [.ref 188, iv i1, u2]) (st' := [iv 5, iv (M1 188 28).toInt]) rfl rfl ?_
      refine wIfc (n1 := 13) rfl bk_77_13 bk_77_3 (by first | exact iG _ | omega) (by omega) (fun g1 => ?_) (fun g1 => ?_)
      · replace g1 : (5 : Int) < (M1 188 28).toInt := g1
        refine wP (ls' := [.ref 188, iv i1, u2]) (st' := [.ref 188]) rfl rfl ?_
        refine wGetN hk (f := 27) (e := (M1 188 27).toInt) (by decide +kernel) (iE _) ?_
        refine wIf0 (n1 := 15) rfl bk_77_15 bk_77_14 (by first | exact iG _ | omega) (fun g2 => ?_) (fun g2 => ?_)
        · replace g2 : ¬ ((M1 188 27).toInt : Int) = 0 := g2
          refine wP (ls' := [.ref 188, iv i1, u2]) (st' := [.ref 188]) rfl rfl ?_
          refine wP (ls' := [.ref 188, iv i1, u2]) (st' := [iv 1, .ref 188]) rfl rfl ?_
          refine wCall hk (q := 66) (na := 1) (a := 188) (as := [iv 1]) (t := []) rfl (by decide +kernel) (by decide) (by decide +kernel) (Nat.le_of_ble_eq_true rfl) rfl rfl (zRn.mono (h66 hk) (fun rv h' hq => ?_))
          obtain ⟨rfl, rfl⟩ := hq
          refine ⟨rfl, ?_⟩
          show zW X _ 77 15 [] [.ref 188, iv i1, u2] [iv (-1)] (gH k (gFa M1 1)) _
          refine zW_fall bk_77_16 ?_
          exact wIret (Or.inl (by decide +kernel)) ⟨-1, _, rfl, rfl, gLw_fa hW, Or.inl rfl⟩
        · replace g2 : ¬ (¬ ((M1 188 27).toInt : Int) = 0) := g2
          refine wP (ls' := [.ref 188, iv i1, u2]) (st' := [iv i1]) rfl rfl ?_
          refine wGoto (n1 := 16) rfl bk_77_16 ?_
          exact wIret (Or.inl (by decide +kernel)) ⟨i1, _, rfl, rfl, hW, Or.inr ⟨by omega, by omega, fun l hl => hL l (by omega)⟩⟩
      · replace g1 : ¬ ((5 : Int) < (M1 188 28).toInt) := g1
        refine wP (ls' := [.ref 188, iv i1, u2]) (st' := [iv i1]) rfl rfl ?_
        refine wP (ls' := [.ref 188, iv i1, u2]) (st' := [iv 16, iv i1]) rfl rfl ?_
        refine wIfc (n1 := 5) rfl bk_77_5 bk_77_4 (by omega) (by omega) (fun g2 => ?_) (fun g2 => ?_)
        · replace g2 : ¬ (i1 : Int) = 16 := g2
          refine wP (ls' := [.ref 188, iv i1, u2]) (st' := [iv 64]) rfl rfl ?_
          refine wP (ls' := [.ref 188, iv i1, u2]) (st' := [iv i1, iv 64]) rfl rfl ?_
          refine wAdd ?_
          refine wP (ls' := [.ref 188, iv i1, iv (64 + i1)]) (st' := []) rfl rfl ?_
          refine wP (ls' := [.ref 188, iv i1, iv (64 + i1)]) (st' := [.ref 188]) rfl rfl ?_
          refine wGetR hk (r := 205) (by decide +kernel) ?_
          refine wP (ls' := [.ref 188, iv i1, iv (64 + i1)]) (st' := [iv (64 + i1), .ref 205]) rfl rfl ?_
          refine wP (ls' := [.ref 188, iv i1, iv (64 + i1)]) (st' := [.ref 188, iv (64 + i1), .ref 205]) rfl rfl ?_
          refine wGetN hk (f := 28) (e := (M1 188 28).toInt) (by decide +kernel) (iE _) ?_
          refine wIst hk (l := 80) (by decide +kernel) (by omega) (by omega) ?_
          refine wP (ls' := [.ref 188, iv i1, iv (64 + i1)]) (st' := [.ref 188]) rfl rfl ?_
          refine wCall hk (q := 65) (na := 0) (a := 188) (as := []) (t := []) rfl (by decide +kernel) (by decide) (by decide +kernel) (Nat.le_of_ble_eq_true rfl) rfl rfl (zRn.mono (h65p hk (gPre_put hW.1.1 (by decide) (fun q => absurd q (by decide)))) (fun rv h' hq => ?_))
          obtain ⟨M2, rfl, rfl, hR⟩ := hq
          have w2 := gLw_rd (gLw_put hW (a := 205) (j := ((64 + i1)).toNat) (x := Int32.ofInt (M1 188 28).toInt) (by omega) (by omega)) hR
          have l2 := gLs_rd (gLs_put hL hW.2.2.1 (a := 205) (j := ((64 + i1)).toNat) (x := Int32.ofInt (M1 188 28).toInt) (by omega) (by omega)) (by rw [aPut_o (by decide)]; omega) (gPre_put hW.1.1 (by decide) (fun q => absurd q (by decide))) hR
          obtain ⟨-, t2, t3, t4, t5, t6⟩ := gRd_s hR (gPre_put hW.1.1 (by decide) (fun q => absurd q (by decide)))
          rw [aPut_o (by decide)] at t6
          have t38 : (M2 188 38).toInt = (M1 188 38).toInt := by rw [t3, aPut_o (by decide)]
          have t39 : (M2 188 39).toInt = (M1 188 39).toInt := by rw [t2.2.2 39 (by decide) (by decide) (by decide) (by decide) (by decide) (by decide) (by decide), aPut_o (by decide)]
          have t24 : (M2 188 24).toInt = (M1 188 24).toInt := by rw [t2.2.2 24 (by decide) (by decide) (by decide) (by decide) (by decide) (by decide) (by decide), aPut_o (by decide)]
          obtain ⟨x1, x2, x3, x4, -, -, -⟩ := w2.1.2
          clear t3 t4 t5
          refine ⟨rfl, ?_⟩
          show zW X _ 77 5 [.aload 0, .getfield 127412130, .iload 2, .aload 0, .getfield 128012152, .iastore, .aload 0, .invokevirtual 1564072, .bipush (-1), .if_icmp .ne 7] [.ref 188, iv i1, iv (64 + i1)] [] (gH k M2) _
          refine wP (ls' := [.ref 188, iv i1, iv (64 + i1)]) (st' := [.ref 188]) rfl rfl ?_
          refine wGetR hk (r := 206) (by decide +kernel) ?_
          refine wP (ls' := [.ref 188, iv i1, iv (64 + i1)]) (st' := [iv (64 + i1), .ref 206]) rfl rfl ?_
          refine wP (ls' := [.ref 188, iv i1, iv (64 + i1)]) (st' := [.ref 188, iv (64 + i1), .ref 206]) rfl rfl ?_
          refine wGetN hk (f := 38) (e := (M2 188 38).toInt) (by decide +kernel) (iE _) ?_
          refine wIst hk (l := 80) (by decide +kernel) (by omega) (by omega) ?_
          refine wP (ls' := [.ref 188, iv i1, iv (64 + i1)]) (st' := [.ref 188]) rfl rfl ?_
          refine wCall hk (q := 72) (na := 0) (a := 188) (as := []) (t := []) rfl (by decide +kernel) (by decide) (by decide +kernel) (Nat.le_of_ble_eq_true rfl) rfl rfl (zRn.mono (h72 hk (M := (aPut M2 206 ((64 + i1)).toNat (Int32.ofInt (M2 188 38).toInt))) (c := 0) (gTs_put w2.1 (by decide) (fun q => absurd q (by decide))) (by omega) (by rw [aPut_o (by decide)]; omega) (by rw [aPut_o (by decide), aPut_o (by decide)]; omega)) (fun rv h' hq => ?_))
          obtain ⟨e18, M3, rfl, rfl, hU⟩ := hq
          obtain ⟨u1, u2, u3, u4, uf, u5⟩ := hU
          rw [aPut_o (by decide)] at uf
          have eb18 : -1 ≤ e18 ∧ e18 ≤ 0 := by
            rcases u5 with z | z
            · omega
            · have := z.1; omega
          have w3 := gLw_fr (gLw_put w2 (a := 206) (j := ((64 + i1)).toNat) (x := Int32.ofInt (M2 188 38).toInt) (by omega) (by omega)) u1 u2 u3 u4
          have u39 : (M3 188 39).toInt = (M2 188 39).toInt := by rw [u2.2.2 39 (by decide) (by decide) (by decide) (by decide) (by decide) (by decide) (by decide), aPut_o (by decide)]
          have u24 : (M3 188 24).toInt = (M2 188 24).toInt := by rw [u2.2.2 24 (by decide) (by decide) (by decide) (by decide) (by decide) (by decide) (by decide), aPut_o (by decide)]
          obtain ⟨y1, y2, y3, y4, -, -, -⟩ := w3.1.2
          refine ⟨rfl, ?_⟩
          show zW X _ 77 5 [.bipush (-1), .if_icmp .ne 7] [.ref 188, iv i1, iv (64 + i1)] [iv e18] (gH k M3) _
          refine wP (ls' := [.ref 188, iv i1, iv (64 + i1)]) (st' := [iv (-1), iv e18]) rfl rfl ?_
          refine wIfc (n1 := 7) rfl bk_77_7 bk_77_6 (by omega) (by omega) (fun g3 => ?_) (fun g3 => ?_)
          · replace g3 : ¬ (e18 : Int) = (-1) := g3
            replace u5 := (u5.resolve_left g3).2
            obtain ⟨u6, u7, u8⟩ := u5
            rw [aPut_o (by decide)] at u7
            refine wP (ls' := [.ref 188, iv i1, iv (64 + i1)]) (st' := [.ref 188]) rfl rfl ?_
            refine wGetR hk (r := 207) (by decide +kernel) ?_
            refine wP (ls' := [.ref 188, iv i1, iv (64 + i1)]) (st' := [iv (64 + i1), .ref 207]) rfl rfl ?_
            refine wP (ls' := [.ref 188, iv i1, iv (64 + i1)]) (st' := [.ref 188, iv (64 + i1), .ref 207]) rfl rfl ?_
            refine wGetN hk (f := 38) (e := (M3 188 38).toInt) (by decide +kernel) (iE _) ?_
            refine wIst hk (l := 80) (by decide +kernel) (by omega) (by omega) ?_
            refine wP (ls' := [.ref 188, iv i1, iv (64 + i1)]) (st' := [.ref 188]) rfl rfl ?_
            refine wP (ls' := [.ref 188, iv i1, iv (64 + i1)]) (st' := [iv 11, .ref 188]) rfl rfl ?_
            refine wCall hk (q := 67) (na := 1) (a := 188) (as := [iv 11]) (t := []) rfl (by decide +kernel) (by decide) (by decide +kernel) (Nat.le_of_ble_eq_true rfl) rfl rfl (zRn.mono (h67 hk (by omega)) (fun rv h' hq => ?_))
            obtain ⟨rfl, e19, rfl, r19⟩ := hq
            have rb19 : 0 ≤ e19 ∧ e19 ≤ 1 := by omega
            clear r19
            refine ⟨rfl, ?_⟩
            show zW X _ 77 7 [.ifCond .eq 10] [.ref 188, iv i1, iv (64 + i1)] [iv e19] (gH k (aPut M3 207 ((64 + i1)).toNat (Int32.ofInt (M3 188 38).toInt))) _
            refine wIf0 (n1 := 10) rfl bk_77_10 bk_77_8 (by omega) (fun g4 => ?_) (fun g4 => ?_)
            · replace g4 : (e19 : Int) = 0 := g4
              refine wP (ls' := [.ref 188, iv i1, iv (64 + i1)]) (st' := [.ref 188]) rfl rfl ?_
              refine wGetR hk (r := 208) (by decide +kernel) ?_
              refine wP (ls' := [.ref 188, iv i1, iv (64 + i1)]) (st' := [iv (64 + i1), .ref 208]) rfl rfl ?_
              refine wP (ls' := [.ref 188, iv i1, iv (64 + i1)]) (st' := [.ref 188, iv (64 + i1), .ref 208]) rfl rfl ?_
              refine wGetN hk (f := 38) (e := (M3 188 38).toInt) (by decide +kernel) (by rw [aPut_o (by decide)]; exact iE _) ?_
              refine wIst hk (l := 80) (by decide +kernel) (by omega) (by omega) ?_
              refine wP (ls' := [.ref 188, iv i1, iv (64 + i1)]) (st' := [.ref 188]) rfl rfl ?_
              refine wP (ls' := [.ref 188, iv i1, iv (64 + i1)]) (st' := [iv 59, .ref 188]) rfl rfl ?_
              refine wCall hk (q := 68) (na := 1) (a := 188) (as := [iv 59]) (t := []) rfl (by decide +kernel) (by decide) (by decide +kernel) (Nat.le_of_ble_eq_true rfl) rfl rfl (zRn.mono (h68 hk (by omega)) (fun rv h' hq => ?_))
              obtain ⟨rfl, e20, rfl, r20⟩ := hq
              have rb20 : 0 ≤ e20 ∧ e20 ≤ 1 := by omega
              clear r20
              refine ⟨rfl, ?_⟩
              show zW X _ 77 10 [.ifCond .ne 12] [.ref 188, iv i1, iv (64 + i1)] [iv e20] (gH k (aPut (aPut M3 207 ((64 + i1)).toNat (Int32.ofInt (M3 188 38).toInt)) 208 ((64 + i1)).toNat (Int32.ofInt (M3 188 38).toInt))) _
              refine wIf0 (n1 := 12) rfl bk_77_12 bk_77_11 (by omega) (fun g5 => ?_) (fun g5 => ?_)
              · replace g5 : ¬ (e20 : Int) = 0 := g5
                refine wP (ls' := [.ref 188, iv i1, iv (64 + i1)]) (st' := [.ref 188]) rfl rfl ?_
                refine wCall hk (q := 65) (na := 0) (a := 188) (as := []) (t := []) rfl (by decide +kernel) (by decide) (by decide +kernel) (Nat.le_of_ble_eq_true rfl) rfl rfl (zRn.mono (h65p hk (gLw_put (gLw_put w3 (a := 207) (j := ((64 + i1)).toNat) (x := Int32.ofInt (M3 188 38).toInt) (by omega) (by omega)) (a := 208) (j := ((64 + i1)).toNat) (x := Int32.ofInt (M3 188 38).toInt) (by omega) (by omega)).1.1) (fun rv h' hq => ?_))
                obtain ⟨M6, rfl, rfl, hR6⟩ := hq
                refine ⟨rfl, ?_⟩
                show zW X _ 77 12 [.iload 1, .bipush 1, .iadd, .istore 1, .goto 1] [.ref 188, iv i1, iv (64 + i1)] [] (gH k M6) _
                refine wP (ls' := [.ref 188, iv i1, iv (64 + i1)]) (st' := [iv i1]) rfl rfl ?_
                refine wP (ls' := [.ref 188, iv i1, iv (64 + i1)]) (st' := [iv 1, iv i1]) rfl rfl ?_
                refine wAdd ?_
                refine wP (ls' := [.ref 188, iv (i1 + 1), iv (64 + i1)]) (st' := []) rfl rfl ?_
                refine wGoto (n1 := 1) rfl bk_77_1 ?_
                have l3 := gLs_ef (gLs_put l2 w2.2.2.1 (a := 206) (j := ((64 + i1)).toNat) (x := Int32.ofInt (M2 188 38).toInt) (by omega) (by omega)) (by rw [aPut_o (by decide)]; omega) u3 (fun a ha => u2.1 a (by omega) (by omega) (by omega)) u8
                have g38 : (aPut M2 206 ((64 + i1)).toNat (Int32.ofInt (M2 188 38).toInt)) 188 38 = M2 188 38 := aPut_o (by decide)
                have g206 : (aPut M2 206 ((64 + i1)).toNat (Int32.ofInt (M2 188 38).toInt)) 206 (64 + n) = Int32.ofInt ((aPut M2 206 ((64 + i1)).toNat (Int32.ofInt (M2 188 38).toInt)) 188 38).toInt := by rw [g38, ← en, aPut_e]
                have c3 := gLc_su (n := n) g206 (by rw [g38]; omega) (u2.1 206 (by decide) (by decide) (by decide)) u3 u8
                rw [g38] at c3
                clear g206 g38
                obtain ⟨-, k2, k3, k4, k5, k6⟩ := gRd_s hR6 (gLw_put (gLw_put w3 (a := 207) (j := ((64 + i1)).toNat) (x := Int32.ofInt (M3 188 38).toInt) (by omega) (by omega)) (a := 208) (j := ((64 + i1)).toNat) (x := Int32.ofInt (M3 188 38).toInt) (by omega) (by omega)).1.1
                rw [aPut_o (by decide), aPut_o (by decide)] at k6
                have k38 : (M6 188 38).toInt = (M3 188 38).toInt := by rw [k3, aPut_o (by decide), aPut_o (by decide)]
                have k39 : (M6 188 39).toInt = (M3 188 39).toInt := by rw [k2.2.2 39 (by decide) (by decide) (by decide) (by decide) (by decide) (by decide) (by decide), aPut_o (by decide), aPut_o (by decide)]
                have k24 : (M6 188 24).toInt = (M3 188 24).toInt := by rw [k2.2.2 24 (by decide) (by decide) (by decide) (by decide) (by decide) (by decide) (by decide), aPut_o (by decide), aPut_o (by decide)]
                have w6 := gLw_rd (gLw_put (gLw_put w3 (a := 207) (j := ((64 + i1)).toNat) (x := Int32.ofInt (M3 188 38).toInt) (by omega) (by omega)) (a := 208) (j := ((64 + i1)).toNat) (x := Int32.ofInt (M3 188 38).toInt) (by omega) (by omega)) hR6
                obtain ⟨m1, m2, m3, m4, -, -, -⟩ := w6.1.2
                have l6 := gLs_rd (gLs_put (gLs_put l3 u3 (a := 207) (j := ((64 + i1)).toNat) (x := Int32.ofInt (M3 188 38).toInt) (by omega) (by omega)) (by rw [aPut_o (by decide)]; exact u3) (a := 208) (j := ((64 + i1)).toNat) (x := Int32.ofInt (M3 188 38).toInt) (by omega) (by omega)) (by rw [aPut_o (by decide), aPut_o (by decide)]; exact u3) (gLw_put (gLw_put w3 (a := 207) (j := ((64 + i1)).toNat) (x := Int32.ofInt (M3 188 38).toInt) (by omega) (by omega)) (a := 208) (j := ((64 + i1)).toNat) (x := Int32.ofInt (M3 188 38).toInt) (by omega) (by omega)).1.1 hR6
                have c6 := gLc_rd (gLc_put (a := 208) (j := ((64 + i1)).toNat) (x := Int32.ofInt (M3 188 38).toInt) (gLc_put (a := 207) (j := ((64 + i1)).toNat) (x := Int32.ofInt (M3 188 38).toInt) c3 (by omega)) (by omega)) (gLw_put (gLw_put w3 (a := 207) (j := ((64 + i1)).toNat) (x := Int32.ofInt (M3 188 38).toInt) (by omega) (by omega)) (a := 208) (j := ((64 + i1)).toNat) (x := Int32.ofInt (M3 188 38).toInt) (by omega) (by omega)).1.1 hR6
                have q7 : M6 207 ((64 + i1)).toNat = Int32.ofInt (M3 188 38).toInt := by rw [k2.1 207 (by decide) (by decide) (by decide), aPut_o (by decide), aPut_e]
                have q8 : M6 208 ((64 + i1)).toNat = Int32.ofInt (M3 188 38).toInt := by rw [k2.1 208 (by decide) (by decide) (by decide), aPut_e]
                rw [en] at q7 q8
                have ln6 := gLc_ln c6 q7 q8 (by omega)
                exact ih (n + 1) (i1 + 1) M6 _ (by omega) w6 (gLs_s l6 ln6) (by omega) (by omega) (by omega) (by omega)
              · replace g5 : ¬ (¬ (e20 : Int) = 0) := g5
                refine wP (ls' := [.ref 188, iv i1, iv (64 + i1)]) (st' := [.ref 188]) rfl rfl ?_
                refine wP (ls' := [.ref 188, iv i1, iv (64 + i1)]) (st' := [iv 1, .ref 188]) rfl rfl ?_
                refine wCall hk (q := 66) (na := 1) (a := 188) (as := [iv 1]) (t := []) rfl (by decide +kernel) (by decide) (by decide +kernel) (Nat.le_of_ble_eq_true rfl) rfl rfl (zRn.mono (h66 hk) (fun rv h' hq => ?_))
                obtain ⟨rfl, rfl⟩ := hq
                refine ⟨rfl, ?_⟩
                show zW X _ 77 11 [.ireturn] [.ref 188, iv i1, iv (64 + i1)] [iv (-1)] (gH k (gFa (aPut (aPut M3 207 ((64 + i1)).toNat (Int32.ofInt (M3 188 38).toInt)) 208 ((64 + i1)).toNat (Int32.ofInt (M3 188 38).toInt)) 1)) _
                exact wIret (Or.inl (by decide +kernel)) ⟨-1, _, rfl, rfl, gLw_fa (gLw_put (gLw_put w3 (a := 207) (j := ((64 + i1)).toNat) (x := Int32.ofInt (M3 188 38).toInt) (by omega) (by omega)) (a := 208) (j := ((64 + i1)).toNat) (x := Int32.ofInt (M3 188 38).toInt) (by omega) (by omega)), Or.inl rfl⟩
            · replace g4 : ¬ ((e19 : Int) = 0) := g4
              refine wP (ls' := [.ref 188, iv i1, iv (64 + i1)]) (st' := [.ref 188]) rfl rfl ?_
              refine wCall hk (q := 65) (na := 0) (a := 188) (as := []) (t := []) rfl (by decide +kernel) (by decide) (by decide +kernel) (Nat.le_of_ble_eq_true rfl) rfl rfl (zRn.mono (h65p hk (gPre_put w3.1.1 (by decide) (fun q => absurd q (by decide)))) (fun rv h' hq => ?_))
              obtain ⟨M4, rfl, rfl, hR4⟩ := hq
              have w4 := gLw_rd (gLw_put w3 (a := 207) (j := ((64 + i1)).toNat) (x := Int32.ofInt (M3 188 38).toInt) (by omega) (by omega)) hR4
              have l3 := gLs_ef (gLs_put l2 w2.2.2.1 (a := 206) (j := ((64 + i1)).toNat) (x := Int32.ofInt (M2 188 38).toInt) (by omega) (by omega)) (by rw [aPut_o (by decide)]; omega) u3 (fun a ha => u2.1 a (by omega) (by omega) (by omega)) u8
              have g38 : (aPut M2 206 ((64 + i1)).toNat (Int32.ofInt (M2 188 38).toInt)) 188 38 = M2 188 38 := aPut_o (by decide)
              have g206 : (aPut M2 206 ((64 + i1)).toNat (Int32.ofInt (M2 188 38).toInt)) 206 (64 + n) = Int32.ofInt ((aPut M2 206 ((64 + i1)).toNat (Int32.ofInt (M2 188 38).toInt)) 188 38).toInt := by rw [g38, ← en, aPut_e]
              have c3 := gLc_su (n := n) g206 (by rw [g38]; omega) (u2.1 206 (by decide) (by decide) (by decide)) u3 u8
              rw [g38] at c3
              clear g206 g38
              have l4 := gLs_rd (gLs_put l3 u3 (a := 207) (j := ((64 + i1)).toNat) (x := Int32.ofInt (M3 188 38).toInt) (by omega) (by omega)) (by rw [aPut_o (by decide)]; omega) (gPre_put w3.1.1 (by decide) (fun q => absurd q (by decide))) hR4
              have c4 := gLc_rd (gLc_put (a := 207) (j := ((64 + i1)).toNat) (x := Int32.ofInt (M3 188 38).toInt) c3 (by omega)) (gPre_put w3.1.1 (by decide) (fun q => absurd q (by decide))) hR4
              obtain ⟨-, j2, j3, j4, j5, j6⟩ := gRd_s hR4 (gPre_put w3.1.1 (by decide) (fun q => absurd q (by decide)))
              rw [aPut_o (by decide)] at j6
              have j38 : (M4 188 38).toInt = (M3 188 38).toInt := by rw [j3, aPut_o (by decide)]
              have j39 : (M4 188 39).toInt = (M3 188 39).toInt := by rw [j2.2.2 39 (by decide) (by decide) (by decide) (by decide) (by decide) (by decide) (by decide), aPut_o (by decide)]
              have j24 : (M4 188 24).toInt = (M3 188 24).toInt := by rw [j2.2.2 24 (by decide) (by decide) (by decide) (by decide) (by decide) (by decide) (by decide), aPut_o (by decide)]
              have j207 : M4 207 ((64 + i1)).toNat = Int32.ofInt (M3 188 38).toInt := by rw [j2.1 207 (by decide) (by decide) (by decide), aPut_e]
              obtain ⟨z1, z2, z3, z4, -, -, -⟩ := w4.1.2
              clear j3 j4 j5
              refine ⟨rfl, ?_⟩
              show zW X _ 77 8 [.aload 0, .invokevirtual 1588076, .bipush (-1), .if_icmp .ne 10] [.ref 188, iv i1, iv (64 + i1)] [] (gH k M4) _
              refine wP (ls' := [.ref 188, iv i1, iv (64 + i1)]) (st' := [.ref 188]) rfl rfl ?_
              refine wCall hk (q := 76) (na := 0) (a := 188) (as := []) (t := []) rfl (by decide +kernel) (by decide) (by decide +kernel) (Nat.le_of_ble_eq_true rfl) rfl rfl (zRn.mono (h76 hk (c := (M4 188 26).toInt - (M4 188 38).toInt) (by omega) w4.1 (by omega) (by omega) (by omega)) (fun rv h' hq => ?_))
              obtain ⟨e24, M5, rfl, rfl, v1, v2, va, vb, vc, vd, ve, vf, v5⟩ := hq
              have eb24 : -1 ≤ e24 ∧ e24 ≤ 0 := by
                rcases v5 with z | z
                · omega
                · have := z.1; omega
              have w5 := gLw_fw w4 v1 v2 ⟨va, vb, vc, vd, ve, vf⟩
              have v24 : (M5 188 24).toInt = (M4 188 24).toInt := by rw [v2.2.2 24 (by decide) (by decide) (by decide) (by decide) (by decide) (by decide) (by decide) (by decide) (by decide)]
              obtain ⟨v9a, v9b, v9c, v9d, -, -, -⟩ := v1.2
              refine ⟨rfl, ?_⟩
              show zW X _ 77 8 [.bipush (-1), .if_icmp .ne 10] [.ref 188, iv i1, iv (64 + i1)] [iv e24] (gH k M5) _
              refine wP (ls' := [.ref 188, iv i1, iv (64 + i1)]) (st' := [iv (-1), iv e24]) rfl rfl ?_
              refine wIfc (n1 := 10) rfl bk_77_10 bk_77_9 (by omega) (by omega) (fun g5 => ?_) (fun g5 => ?_)
              · replace g5 : ¬ (e24 : Int) = (-1) := g5
                replace v5 := (v5.resolve_left g5).2
                obtain ⟨v6, v7, v8⟩ := v5
                refine wP (ls' := [.ref 188, iv i1, iv (64 + i1)]) (st' := [.ref 188]) rfl rfl ?_
                refine wGetR hk (r := 208) (by decide +kernel) ?_
                refine wP (ls' := [.ref 188, iv i1, iv (64 + i1)]) (st' := [iv (64 + i1), .ref 208]) rfl rfl ?_
                refine wP (ls' := [.ref 188, iv i1, iv (64 + i1)]) (st' := [.ref 188, iv (64 + i1), .ref 208]) rfl rfl ?_
                refine wGetN hk (f := 38) (e := (M5 188 38).toInt) (by decide +kernel) (iE _) ?_
                refine wIst hk (l := 80) (by decide +kernel) (by omega) (by omega) ?_
                refine wP (ls' := [.ref 188, iv i1, iv (64 + i1)]) (st' := [.ref 188]) rfl rfl ?_
                refine wP (ls' := [.ref 188, iv i1, iv (64 + i1)]) (st' := [iv 59, .ref 188]) rfl rfl ?_
                refine wCall hk (q := 68) (na := 1) (a := 188) (as := [iv 59]) (t := []) rfl (by decide +kernel) (by decide) (by decide +kernel) (Nat.le_of_ble_eq_true rfl) rfl rfl (zRn.mono (h68 hk (by omega)) (fun rv h' hq => ?_))
                obtain ⟨rfl, e25, rfl, r25⟩ := hq
                have rb25 : 0 ≤ e25 ∧ e25 ≤ 1 := by omega
                clear r25
                refine ⟨rfl, ?_⟩
                show zW X _ 77 10 [.ifCond .ne 12] [.ref 188, iv i1, iv (64 + i1)] [iv e25] (gH k (aPut M5 208 ((64 + i1)).toNat (Int32.ofInt (M5 188 38).toInt))) _
                refine wIf0 (n1 := 12) rfl bk_77_12 bk_77_11 (by omega) (fun g6 => ?_) (fun g6 => ?_)
                · replace g6 : ¬ (e25 : Int) = 0 := g6
                  refine wP (ls' := [.ref 188, iv i1, iv (64 + i1)]) (st' := [.ref 188]) rfl rfl ?_
                  refine wCall hk (q := 65) (na := 0) (a := 188) (as := []) (t := []) rfl (by decide +kernel) (by decide) (by decide +kernel) (Nat.le_of_ble_eq_true rfl) rfl rfl (zRn.mono (h65p hk (gLw_put w5 (a := 208) (j := ((64 + i1)).toNat) (x := Int32.ofInt (M5 188 38).toInt) (by omega) (by omega)).1.1) (fun rv h' hq => ?_))
                  obtain ⟨M6, rfl, rfl, hR6⟩ := hq
                  refine ⟨rfl, ?_⟩
                  show zW X _ 77 12 [.iload 1, .bipush 1, .iadd, .istore 1, .goto 1] [.ref 188, iv i1, iv (64 + i1)] [] (gH k M6) _
                  refine wP (ls' := [.ref 188, iv i1, iv (64 + i1)]) (st' := [iv i1]) rfl rfl ?_
                  refine wP (ls' := [.ref 188, iv i1, iv (64 + i1)]) (st' := [iv 1, iv i1]) rfl rfl ?_
                  refine wAdd ?_
                  refine wP (ls' := [.ref 188, iv (i1 + 1), iv (64 + i1)]) (st' := []) rfl rfl ?_
                  refine wGoto (n1 := 1) rfl bk_77_1 ?_
                  have l5 := gLs_ef l4 (by omega) va (fun a ha => v2.1 a (by omega) (by omega) (by omega) (by omega)) v8
                  have v38 : gMn M4 ≤ gMn M5 := v8.1
                  unfold gMn at v38
                  have c5 := gLc_cl c4 j38.symm (v2.1 206 (by decide) (by decide) (by decide) (by decide)) va v8
                  obtain ⟨-, k2, k3, k4, k5, k6⟩ := gRd_s hR6 (gLw_put w5 (a := 208) (j := ((64 + i1)).toNat) (x := Int32.ofInt (M5 188 38).toInt) (by omega) (by omega)).1.1
                  rw [aPut_o (by decide)] at k6
                  have k38 : (M6 188 38).toInt = (M5 188 38).toInt := by rw [k3, aPut_o (by decide)]
                  have k39 : (M6 188 39).toInt = (M5 188 39).toInt := by rw [k2.2.2 39 (by decide) (by decide) (by decide) (by decide) (by decide) (by decide) (by decide), aPut_o (by decide)]
                  have k24 : (M6 188 24).toInt = (M5 188 24).toInt := by rw [k2.2.2 24 (by decide) (by decide) (by decide) (by decide) (by decide) (by decide) (by decide), aPut_o (by decide)]
                  have w6 := gLw_rd (gLw_put w5 (a := 208) (j := ((64 + i1)).toNat) (x := Int32.ofInt (M5 188 38).toInt) (by omega) (by omega)) hR6
                  obtain ⟨m1, m2, m3, m4, -, -, -⟩ := w6.1.2
                  have l6 := gLs_rd (gLs_put l5 va (a := 208) (j := ((64 + i1)).toNat) (x := Int32.ofInt (M5 188 38).toInt) (by omega) (by omega)) (by rw [aPut_o (by decide)]; exact va) (gLw_put w5 (a := 208) (j := ((64 + i1)).toNat) (x := Int32.ofInt (M5 188 38).toInt) (by omega) (by omega)).1.1 hR6
                  have c6 := gLc_rd (gLc_put (a := 208) (j := ((64 + i1)).toNat) (x := Int32.ofInt (M5 188 38).toInt) c5 (by omega)) (gLw_put w5 (a := 208) (j := ((64 + i1)).toNat) (x := Int32.ofInt (M5 188 38).toInt) (by omega) (by omega)).1.1 hR6
                  have q7 : M6 207 ((64 + i1)).toNat = Int32.ofInt (M3 188 38).toInt := by rw [k2.1 207 (by decide) (by decide) (by decide), aPut_o (by decide), v2.1 207 (by decide) (by decide) (by decide) (by decide), j207]
                  have q8 : M6 208 ((64 + i1)).toNat = Int32.ofInt (M5 188 38).toInt := by rw [k2.1 208 (by decide) (by decide) (by decide), aPut_e]
                  rw [en] at q7 q8
                  have ln6 := gLc_ln c6 q7 q8 (by omega)
                  exact ih (n + 1) (i1 + 1) M6 _ (by omega) w6 (gLs_s l6 ln6) (by omega) (by omega) (by omega) (by omega)
                · replace g6 : ¬ (¬ (e25 : Int) = 0) := g6
                  refine wP (ls' := [.ref 188, iv i1, iv (64 + i1)]) (st' := [.ref 188]) rfl rfl ?_
                  refine wP (ls' := [.ref 188, iv i1, iv (64 + i1)]) (st' := [iv 1, .ref 188]) rfl rfl ?_
                  refine wCall hk (q := 66) (na := 1) (a := 188) (as := [iv 1]) (t := []) rfl (by decide +kernel) (by decide) (by decide +kernel) (Nat.le_of_ble_eq_true rfl) rfl rfl (zRn.mono (h66 hk) (fun rv h' hq => ?_))
                  obtain ⟨rfl, rfl⟩ := hq
                  refine ⟨rfl, ?_⟩
                  show zW X _ 77 11 [.ireturn] [.ref 188, iv i1, iv (64 + i1)] [iv (-1)] (gH k (gFa (aPut M5 208 ((64 + i1)).toNat (Int32.ofInt (M5 188 38).toInt)) 1)) _
                  exact wIret (Or.inl (by decide +kernel)) ⟨-1, _, rfl, rfl, gLw_fa (gLw_put w5 (a := 208) (j := ((64 + i1)).toNat) (x := Int32.ofInt (M5 188 38).toInt) (by omega) (by omega)), Or.inl rfl⟩
              · replace g5 : ¬ (¬ (e24 : Int) = (-1)) := g5
                clear v5
                refine wP (ls' := [.ref 188, iv i1, iv (64 + i1)]) (st' := [iv (-1)]) rfl rfl ?_
                exact wIret (Or.inl (by decide +kernel)) ⟨-1, _, rfl, rfl, w5, Or.inl rfl⟩
          · replace g3 : ¬ (¬ (e18 : Int) = (-1)) := g3
            clear u5
            refine wP (ls' := [.ref 188, iv i1, iv (64 + i1)]) (st' := [iv (-1)]) rfl rfl ?_
            exact wIret (Or.inl (by decide +kernel)) ⟨-1, _, rfl, rfl, w3, Or.inl rfl⟩
        · replace g2 : ¬ (¬ (i1 : Int) = 16) := g2
          refine wP (ls' := [.ref 188, iv i1, u2]) (st' := [.ref 188]) rfl rfl ?_
          refine wP (ls' := [.ref 188, iv i1, u2]) (st' := [iv 3, .ref 188]) rfl rfl ?_
          refine wCall hk (q := 66) (na := 1) (a := 188) (as := [iv 3]) (t := []) rfl (by decide +kernel) (by decide) (by decide +kernel) (Nat.le_of_ble_eq_true rfl) rfl rfl (zRn.mono (h66 hk) (fun rv h' hq => ?_))
          obtain ⟨rfl, rfl⟩ := hq
          refine ⟨rfl, ?_⟩
          show zW X _ 77 4 [.ireturn] [.ref 188, iv i1, u2] [iv (-1)] (gH k (gFa M1 3)) _
          exact wIret (Or.inl (by decide +kernel)) ⟨-1, _, rfl, rfl, gLw_fa hW, Or.inl rfl⟩
theorem h77 {X : aX} {d : Nat} {k : Nat → aK} (hk : gKs k) {M0 : Nat → Nat → Int32} (hT : gTs M0) (ho : (M0 188 39).toInt = 0) (hm0 : (M0 188 38).toInt = 0) (hp : 0 ≤ (M0 188 41).toInt ∧ (M0 188 41).toInt ≤ 40) : zRn X (d + 1 + 1 + 1 + 1 + 1 + 1 + 1 + 1 + 1 + 1 + 1 + 1) 77 [.ref 188] (gH k M0) (fun rv h' => ∃ e M', rv = some (iv e) ∧ h' = gH k M' ∧ gLw M0 M' ∧ (e = -1 ∨ 0 ≤ e ∧ e ≤ 16 ∧ ∀ l : Nat, (l : Int) < e → gLn M' l)) := by
  have hb := hT.2.1
  refine wEnt (n := 3) (ls := [.ref 188, aD, aD]) bk_77_0 (by decide +kernel) rfl rfl rfl ?_
  refine wP (ls' := [.ref 188, aD, aD]) (st' := [iv 0]) rfl rfl ?_
  refine wP (ls' := [.ref 188, iv 0, aD]) (st' := []) rfl rfl ?_
  refine zW_fall bk_77_1 ?_
  exact h77_l hk ((M0 188 24).toInt - (M0 188 26).toInt).toNat 0 0 M0 _ rfl ⟨hT, gLf.refl, by omega, by omega, by omega, by omega, by omega, by omega⟩ (fun l hl => absurd hl (by omega)) (by omega) ho (by omega) (by omega)
