/-! the reference reads sums, by hand: printed by wip/safe/h70.py -/
theorem bk_66_0 : (aMC 66)[0]? = some [.aload 0, .iload 1, .putfield 128412168, .aload 0, .aload 0, .getfield 126812104, .putfield 128512172, .bipush (-1), .ireturn] := by decide +kernel
theorem bk_69_0 : (aMC 69)[0]? = some [.aload 0, .getfield 127812146, .bipush 2000, .aload 0, .getfield 128012152, .iadd, .iload 1, .iastore, .aload 0, .getfield 127912150, .bipush 2000, .aload 0, .getfield 128012152, .iadd, .iload 2, .iastore, .aload 0, .aload 0, .getfield 128012152, .bipush 1, .iadd, .putfield 128012152, .return_] := by decide +kernel
theorem bk_70_0 : (aMC 70)[0]? = some [.aload 0, .getfield 126912108, .bipush 2, .if_icmp .ne 3] := by decide +kernel
theorem bk_70_1 : (aMC 70)[1]? = some [.aload 0, .getfield 127012112, .bipush 15, .if_icmp .lt 3] := by decide +kernel
theorem bk_70_2 : (aMC 70)[2]? = some [.bipush 1, .goto 4] := by decide +kernel
theorem bk_70_3 : (aMC 70)[3]? = some [.bipush 0] := by decide +kernel
theorem bk_70_4 : (aMC 70)[4]? = some [.istore 1, .iload 1, .ifCond .ne 7] := by decide +kernel
theorem bk_70_5 : (aMC 70)[5]? = some [.aload 0, .getfield 126912108, .bipush 3, .if_icmp .eq 7] := by decide +kernel
theorem bk_70_6 : (aMC 70)[6]? = some [.aload 0, .bipush 1, .invokevirtual 1560066, .ireturn] := by decide +kernel
theorem bk_70_7 : (aMC 70)[7]? = some [.aload 0, .iload 1, .ifCond .eq 9] := by decide +kernel
theorem bk_70_8 : (aMC 70)[8]? = some [.bipush 1, .goto 10] := by decide +kernel
theorem bk_70_9 : (aMC 70)[9]? = some [.bipush 0] := by decide +kernel
theorem bk_70_10 : (aMC 70)[10]? = some [.iload 1, .ifCond .eq 12] := by decide +kernel
theorem bk_70_11 : (aMC 70)[11]? = some [.aload 0, .getfield 127012112, .bipush 15, .isub, .goto 13] := by decide +kernel
theorem bk_70_12 : (aMC 70)[12]? = some [.aload 0, .getfield 127012112] := by decide +kernel
theorem bk_70_13 : (aMC 70)[13]? = some [.invokevirtual 1576069, .aload 0, .invokevirtual 1532065, .bipush 0, .ireturn] := by decide +kernel
theorem bk_71_0 : (aMC 71)[0]? = some [.aload 0, .invokevirtual 1572070, .bipush (-1), .if_icmp .ne 2] := by decide +kernel
theorem bk_71_1 : (aMC 71)[1]? = some [.bipush (-1), .ireturn] := by decide +kernel
theorem bk_71_2 : (aMC 71)[2]? = some [.aload 0, .bipush 42, .invokevirtual 1580068, .ifCond .ne 4] := by decide +kernel
theorem bk_71_3 : (aMC 71)[3]? = some [.aload 0, .bipush 47, .invokevirtual 1580068, .ifCond .eq 16] := by decide +kernel
theorem bk_71_4 : (aMC 71)[4]? = some [.aload 0, .bipush 42, .invokevirtual 1580068, .istore 1, .aload 0, .invokevirtual 1532065, .iload 1, .ifCond .ne 7] := by decide +kernel
theorem bk_71_5 : (aMC 71)[5]? = some [.aload 0, .getfield 126912108, .bipush 3, .if_icmp .eq 7] := by decide +kernel
theorem bk_71_6 : (aMC 71)[6]? = some [.aload 0, .bipush 1, .invokevirtual 1560066, .ireturn] := by decide +kernel
theorem bk_71_7 : (aMC 71)[7]? = some [.iload 1, .ifCond .ne 10] := by decide +kernel
theorem bk_71_8 : (aMC 71)[8]? = some [.aload 0, .getfield 127012112, .ifCond .ne 10] := by decide +kernel
theorem bk_71_9 : (aMC 71)[9]? = some [.aload 0, .bipush 2, .invokevirtual 1560066, .ireturn] := by decide +kernel
theorem bk_71_10 : (aMC 71)[10]? = some [.aload 0, .invokevirtual 1572070, .bipush (-1), .if_icmp .ne 12] := by decide +kernel
theorem bk_71_11 : (aMC 71)[11]? = some [.bipush (-1), .ireturn] := by decide +kernel
theorem bk_71_12 : (aMC 71)[12]? = some [.aload 0, .iload 1, .ifCond .eq 14] := by decide +kernel
theorem bk_71_13 : (aMC 71)[13]? = some [.bipush 4, .goto 15] := by decide +kernel
theorem bk_71_14 : (aMC 71)[14]? = some [.bipush 5] := by decide +kernel
theorem bk_71_15 : (aMC 71)[15]? = some [.bipush 0, .invokevirtual 1576069, .goto 2] := by decide +kernel
theorem bk_71_16 : (aMC 71)[16]? = some [.bipush 0, .ireturn] := by decide +kernel
theorem bk_72_0 : (aMC 72)[0]? = some [.aload 0, .invokevirtual 1568071, .bipush (-1), .if_icmp .ne 2] := by decide +kernel
theorem bk_72_1 : (aMC 72)[1]? = some [.bipush (-1), .ireturn] := by decide +kernel
theorem bk_72_2 : (aMC 72)[2]? = some [.aload 0, .bipush 43, .invokevirtual 1580068, .ifCond .ne 4] := by decide +kernel
theorem bk_72_3 : (aMC 72)[3]? = some [.aload 0, .bipush 45, .invokevirtual 1580068, .ifCond .eq 10] := by decide +kernel
theorem bk_72_4 : (aMC 72)[4]? = some [.aload 0, .getfield 127012112, .bipush 43, .if_icmp .ne 6] := by decide +kernel
theorem bk_72_5 : (aMC 72)[5]? = some [.bipush 2, .goto 7] := by decide +kernel
theorem bk_72_6 : (aMC 72)[6]? = some [.bipush 3] := by decide +kernel
theorem bk_72_7 : (aMC 72)[7]? = some [.istore 1, .aload 0, .invokevirtual 1532065, .aload 0, .invokevirtual 1568071, .bipush (-1), .if_icmp .ne 9] := by decide +kernel
theorem bk_72_8 : (aMC 72)[8]? = some [.bipush (-1), .ireturn] := by decide +kernel
theorem bk_72_9 : (aMC 72)[9]? = some [.aload 0, .iload 1, .bipush 0, .invokevirtual 1576069, .goto 2] := by decide +kernel
theorem bk_72_10 : (aMC 72)[10]? = some [.bipush 0, .ireturn] := by decide +kernel
theorem bk_73_0 : (aMC 73)[0]? = some [.aload 0, .invokevirtual 1564072, .bipush (-1), .if_icmp .ne 2] := by decide +kernel
theorem bk_73_1 : (aMC 73)[1]? = some [.bipush (-1), .ireturn] := by decide +kernel
theorem bk_73_2 : (aMC 73)[2]? = some [.aload 0, .bipush 60, .invokevirtual 1580068, .ifCond .ne 6] := by decide +kernel
theorem bk_73_3 : (aMC 73)[3]? = some [.aload 0, .bipush 61, .invokevirtual 1580068, .ifCond .ne 6] := by decide +kernel
theorem bk_73_4 : (aMC 73)[4]? = some [.aload 0, .bipush 62, .invokevirtual 1580068, .ifCond .ne 6] := by decide +kernel
theorem bk_73_5 : (aMC 73)[5]? = some [.aload 0, .bipush 1, .invokevirtual 1560066, .ireturn] := by decide +kernel
theorem bk_73_6 : (aMC 73)[6]? = some [.aload 0, .getfield 127012112, .bipush 60, .if_icmp .ne 8] := by decide +kernel
theorem bk_73_7 : (aMC 73)[7]? = some [.bipush 6, .goto 11] := by decide +kernel
theorem bk_73_8 : (aMC 73)[8]? = some [.aload 0, .getfield 127012112, .bipush 61, .if_icmp .ne 10] := by decide +kernel
theorem bk_73_9 : (aMC 73)[9]? = some [.bipush 7, .goto 11] := by decide +kernel
theorem bk_73_10 : (aMC 73)[10]? = some [.bipush 8] := by decide +kernel
theorem bk_73_11 : (aMC 73)[11]? = some [.istore 1, .aload 0, .invokevirtual 1532065, .aload 0, .invokevirtual 1564072, .bipush (-1), .if_icmp .ne 13] := by decide +kernel
theorem bk_73_12 : (aMC 73)[12]? = some [.bipush (-1), .ireturn] := by decide +kernel
theorem bk_73_13 : (aMC 73)[13]? = some [.aload 0, .iload 1, .bipush 0, .invokevirtual 1576069, .bipush 0, .ireturn] := by decide +kernel
theorem h66 {X : aX} {d : Nat} {k : Nat → aK} (hk : gKs k) {M : Nat → Nat → Int32} {c : Int} : zRn X (d + 1) 66 [.ref 188, iv c] (gH k M) (fun rv h' => rv = some (iv (-1)) ∧ h' = gH k (gFa M c)) := by
  refine wEnt (n := 2) (ls := [.ref 188, iv c]) bk_66_0 (by decide +kernel) rfl rfl rfl ?_
  refine wP (ls' := [.ref 188, iv c]) (st' := [.ref 188]) rfl rfl ?_
  refine wP (ls' := [.ref 188, iv c]) (st' := [iv c, .ref 188]) rfl rfl ?_
  refine wPutN hk (f := 42) (by decide +kernel) (Or.inl rfl) ?_
  refine wP (ls' := [.ref 188, iv c]) (st' := [.ref 188]) rfl rfl ?_
  refine wP (ls' := [.ref 188, iv c]) (st' := [.ref 188, .ref 188]) rfl rfl ?_
  refine wGetN hk (f := 26) (e := (M 188 26).toInt) (by decide +kernel) (by rw [aPut_f (by decide)]; exact iE _) ?_
  refine wPutN hk (f := 43) (by decide +kernel) (Or.inl rfl) ?_
  refine wP (ls' := [.ref 188, iv c]) (st' := [iv (-1)]) rfl rfl ?_
  exact wIret (Or.inl (by decide +kernel)) ⟨rfl, rfl⟩
theorem h69 {X : aX} {d : Nat} {k : Nat → aK} (hk : gKs k) {M : Nat → Nat → Int32} {w v : Int} (hm : 0 ≤ (M 188 38).toInt ∧ (M 188 38).toInt < 500) : zRn X (d + 1) 69 [.ref 188, iv w, iv v] (gH k M) (fun rv h' => rv = none ∧ h' = gH k (gEm M w v)) := by
  refine wEnt (n := 3) (ls := [.ref 188, iv w, iv v]) bk_69_0 (by decide +kernel) rfl rfl rfl ?_
  refine wP (ls' := [.ref 188, iv w, iv v]) (st' := [.ref 188]) rfl rfl ?_
  refine wGetR hk (r := 210) (by decide +kernel) ?_
  refine wP (ls' := [.ref 188, iv w, iv v]) (st' := [iv 2000, .ref 210]) rfl rfl ?_
  refine wP (ls' := [.ref 188, iv w, iv v]) (st' := [.ref 188, iv 2000, .ref 210]) rfl rfl ?_
  refine wGetN hk (f := 38) (e := (M 188 38).toInt) (by decide +kernel) (iE _) ?_
  refine wAdd ?_
  refine wP (ls' := [.ref 188, iv w, iv v]) (st' := [iv w, iv (2000 + (M 188 38).toInt), .ref 210]) rfl rfl ?_
  refine wIst hk (l := 2500) (by decide +kernel) (by omega) (by omega) ?_
  refine wP (ls' := [.ref 188, iv w, iv v]) (st' := [.ref 188]) rfl rfl ?_
  refine wGetR hk (r := 211) (by decide +kernel) ?_
  refine wP (ls' := [.ref 188, iv w, iv v]) (st' := [iv 2000, .ref 211]) rfl rfl ?_
  refine wP (ls' := [.ref 188, iv w, iv v]) (st' := [.ref 188, iv 2000, .ref 211]) rfl rfl ?_
  refine wGetN hk (f := 38) (e := (M 188 38).toInt) (by decide +kernel) (by rw [aPut_o (by decide)]; exact iE _) ?_
  refine wAdd ?_
  refine wP (ls' := [.ref 188, iv w, iv v]) (st' := [iv v, iv (2000 + (M 188 38).toInt), .ref 211]) rfl rfl ?_
  refine wIst hk (l := 2500) (by decide +kernel) (by omega) (by omega) ?_
  refine wP (ls' := [.ref 188, iv w, iv v]) (st' := [.ref 188]) rfl rfl ?_
  refine wP (ls' := [.ref 188, iv w, iv v]) (st' := [.ref 188, .ref 188]) rfl rfl ?_
  refine wGetN hk (f := 38) (e := (M 188 38).toInt) (by decide +kernel) (by rw [aPut_o (by decide), aPut_o (by decide)]; exact iE _) ?_
  refine wP (ls' := [.ref 188, iv w, iv v]) (st' := [iv 1, iv (M 188 38).toInt, .ref 188]) rfl rfl ?_
  refine wAdd ?_
  refine wPutN hk (f := 38) (by decide +kernel) (Or.inl rfl) ?_
  exact wRet0 (by decide +kernel) ⟨rfl, rfl⟩
theorem h70 {X : aX} {d : Nat} {k : Nat → aK} (hk : gKs k) {M : Nat → Nat → Int32} (hT : gTs M) {c : Int} (hc : 0 ≤ c) (hm0 : 0 ≤ (M 188 38).toInt) (hmc : (M 188 38).toInt + c ≤ (M 188 26).toInt) : zRn X (d + 1 + 1 + 1 + 1 + 1) 70 [.ref 188] (gH k M) (fun rv h' => ∃ e M', rv = some (iv e) ∧ h' = gH k M' ∧ gDn M M' c e ∧ (e = 0 → (M' 188 38).toInt = (M 188 38).toInt + 1 ∧ ((M 188 27).toInt = 3 → M' 210 (2000 + gMn M) = Int32.ofInt 0 ∧ M' 211 (2000 + gMn M) = Int32.ofInt (M 188 28).toInt))) := by
  have tk := hT.2
  obtain ⟨tk1, tk2, tk3, tk4, tk5, tk6, tk7⟩ := tk
  obtain ⟨tp1, tp2, tp3, tp4, tp5⟩ := hT.1
  refine wEnt (n := 2) (ls := [.ref 188, aD]) bk_70_0 (by decide +kernel) rfl rfl rfl ?_
  refine wP (ls' := [.ref 188, aD]) (st' := [.ref 188]) rfl rfl ?_
  refine wGetN hk (f := 27) (e := (M 188 27).toInt) (by decide +kernel) (iE _) ?_
  refine wP (ls' := [.ref 188, aD]) (st' := [iv 2, iv (M 188 27).toInt]) rfl rfl ?_
  refine wIfc (n1 := 3) rfl bk_70_3 bk_70_1 (by first | exact iG _ | omega) (by omega) (fun g0 => ?_) (fun g0 => ?_)
  · replace g0 : ¬ ((M 188 27).toInt : Int) = 2 := g0
    refine wP (ls' := [.ref 188, aD]) (st' := [iv 0]) rfl rfl ?_
    refine zW_fall bk_70_4 ?_
    refine wP (ls' := [.ref 188, iv 0]) (st' := []) rfl rfl ?_
    refine wP (ls' := [.ref 188, iv 0]) (st' := [iv 0]) rfl rfl ?_
    refine wIf0 (n1 := 7) rfl bk_70_7 bk_70_5 (by omega) (fun g1 => ?_) (fun g1 => ?_)
    · replace g1 : ¬ (0 : Int) = 0 := g1
      exact absurd g1 (by omega)
    · replace g1 : ¬ (¬ (0 : Int) = 0) := g1
      refine wP (ls' := [.ref 188, iv 0]) (st' := [.ref 188]) rfl rfl ?_
      refine wGetN hk (f := 27) (e := (M 188 27).toInt) (by decide +kernel) (iE _) ?_
      refine wP (ls' := [.ref 188, iv 0]) (st' := [iv 3, iv (M 188 27).toInt]) rfl rfl ?_
      refine wIfc (n1 := 7) rfl bk_70_7 bk_70_6 (by first | exact iG _ | omega) (by omega) (fun g2 => ?_) (fun g2 => ?_)
      · replace g2 : ((M 188 27).toInt : Int) = 3 := g2
        refine wP (ls' := [.ref 188, iv 0]) (st' := [.ref 188]) rfl rfl ?_
        refine wP (ls' := [.ref 188, iv 0]) (st' := [iv 0, .ref 188]) rfl rfl ?_
        refine wIf0 (n1 := 9) rfl bk_70_9 bk_70_8 (by omega) (fun g3 => ?_) (fun g3 => ?_)
        · replace g3 : (0 : Int) = 0 := g3
          refine wP (ls' := [.ref 188, iv 0]) (st' := [iv 0, .ref 188]) rfl rfl ?_
          refine zW_fall bk_70_10 ?_
          refine wP (ls' := [.ref 188, iv 0]) (st' := [iv 0, iv 0, .ref 188]) rfl rfl ?_
          refine wIf0 (n1 := 12) rfl bk_70_12 bk_70_11 (by omega) (fun g4 => ?_) (fun g4 => ?_)
          · replace g4 : (0 : Int) = 0 := g4
            refine wP (ls' := [.ref 188, iv 0]) (st' := [.ref 188, iv 0, .ref 188]) rfl rfl ?_
            refine wGetN hk (f := 28) (e := (M 188 28).toInt) (by decide +kernel) (iE _) ?_
            refine zW_fall bk_70_13 ?_
            refine wCall hk (q := 69) (na := 2) (a := 188) (as := [iv 0, iv (M 188 28).toInt]) (t := []) rfl (by decide +kernel) (by decide) (by decide +kernel) (Nat.le_of_ble_eq_true rfl) rfl rfl (zRn.mono (h69 hk ⟨by omega, by omega⟩) (fun rv h' hq => ?_))
            obtain ⟨rfl, rfl⟩ := hq
            refine ⟨rfl, ?_⟩
            show zW X _ 70 13 [.aload 0, .invokevirtual 1532065, .bipush 0, .ireturn] [.ref 188, iv 0] [] (gH k (gEm M 0 (M 188 28).toInt)) _
            refine wP (ls' := [.ref 188, iv 0]) (st' := [.ref 188]) rfl rfl ?_
            refine wCall hk (q := 65) (na := 0) (a := 188) (as := []) (t := []) rfl (by decide +kernel) (by decide) (by decide +kernel) (Nat.le_of_ble_eq_true rfl) rfl rfl (zRn.mono (h65p hk (gEm_ts hT).1) (fun rv h' hq => ?_))
            obtain ⟨M2, rfl, rfl, hR⟩ := hq
            refine ⟨rfl, ?_⟩
            show zW X _ 70 13 [.bipush 0, .ireturn] [.ref 188, iv 0] [] (gH k M2) _
            refine wP (ls' := [.ref 188, iv 0]) (st' := [iv 0]) rfl rfl ?_
            obtain ⟨t1, t2, t3, t4, t5, t6⟩ := gRd_s hR (gEm_ts hT).1
            have hm := gEm_m (w := 0) (v := (M 188 28).toInt) (M := M) ⟨by omega, by omega⟩
            rw [gEm_f (by decide)] at t6
            have ee := (gEm_unit (w := 0) (v := (M 188 28).toInt) (M := M) ⟨by omega, by omega⟩ (by omega)).trans (gEff.of_eq t3 t4 t5) (by omega)
            refine wIret (Or.inl (by decide +kernel)) ⟨0, _, rfl, rfl, ⟨t1, (gEm_fr (by omega)).trans t2, by rw [t3]; omega, by rw [t3]; omega, by omega, Or.inr ⟨rfl, by rw [t3]; omega, by omega, ee⟩⟩, fun _ => ⟨by rw [t3]; omega, fun z => ?_⟩⟩
            rw [t4, t5]
            refine ⟨?_, ?_⟩
            · rcases gEm_o (M := M) (w := 0) (v := (M 188 28).toInt) with q | q
              · first | exact q | omega
              · omega
            · rcases gEm_a (M := M) (w := 0) (v := (M 188 28).toInt) with q | q
              · first | exact q | omega
              · omega
          · replace g4 : ¬ ((0 : Int) = 0) := g4
            exact absurd g4 (by omega)
        · replace g3 : ¬ ((0 : Int) = 0) := g3
          exact absurd g3 (by omega)
      · replace g2 : ¬ (((M 188 27).toInt : Int) = 3) := g2
        refine wP (ls' := [.ref 188, iv 0]) (st' := [.ref 188]) rfl rfl ?_
        refine wP (ls' := [.ref 188, iv 0]) (st' := [iv 1, .ref 188]) rfl rfl ?_
        refine wCall hk (q := 66) (na := 1) (a := 188) (as := [iv 1]) (t := []) rfl (by decide +kernel) (by decide) (by decide +kernel) (Nat.le_of_ble_eq_true rfl) rfl rfl (zRn.mono (h66 hk) (fun rv h' hq => ?_))
        obtain ⟨rfl, rfl⟩ := hq
        refine ⟨rfl, ?_⟩
        show zW X _ 70 6 [.ireturn] [.ref 188, iv 0] [iv (-1)] (gH k (gFa M 1)) _
        obtain ⟨f1, f2, f3, f4, f5⟩ := gFa_s (c := 1) hT
        exact wIret (Or.inl (by decide +kernel)) ⟨-1, _, rfl, rfl, ⟨f1, f2, by rw [f3]; omega, by rw [f3]; omega, by rw [show gFa M 1 188 26 = M 188 26 from by unfold gFa; rw [aPut_f (by decide), aPut_f (by decide)]]; exact Int.le_refl _, Or.inl rfl⟩, fun q => absurd q (by decide)⟩
  · replace g0 : ¬ (¬ ((M 188 27).toInt : Int) = 2) := g0
    refine wP (ls' := [.ref 188, aD]) (st' := [.ref 188]) rfl rfl ?_
    refine wGetN hk (f := 28) (e := (M 188 28).toInt) (by decide +kernel) (iE _) ?_
    refine wP (ls' := [.ref 188, aD]) (st' := [iv 15, iv (M 188 28).toInt]) rfl rfl ?_
    refine wIfc (n1 := 3) rfl bk_70_3 bk_70_2 (by first | exact iG _ | omega) (by omega) (fun g1 => ?_) (fun g1 => ?_)
    · replace g1 : ((M 188 28).toInt : Int) < 15 := g1
      refine wP (ls' := [.ref 188, aD]) (st' := [iv 0]) rfl rfl ?_
      refine zW_fall bk_70_4 ?_
      refine wP (ls' := [.ref 188, iv 0]) (st' := []) rfl rfl ?_
      refine wP (ls' := [.ref 188, iv 0]) (st' := [iv 0]) rfl rfl ?_
      refine wIf0 (n1 := 7) rfl bk_70_7 bk_70_5 (by omega) (fun g2 => ?_) (fun g2 => ?_)
      · replace g2 : ¬ (0 : Int) = 0 := g2
        exact absurd g2 (by omega)
      · replace g2 : ¬ (¬ (0 : Int) = 0) := g2
        refine wP (ls' := [.ref 188, iv 0]) (st' := [.ref 188]) rfl rfl ?_
        refine wGetN hk (f := 27) (e := (M 188 27).toInt) (by decide +kernel) (iE _) ?_
        refine wP (ls' := [.ref 188, iv 0]) (st' := [iv 3, iv (M 188 27).toInt]) rfl rfl ?_
        refine wIfc (n1 := 7) rfl bk_70_7 bk_70_6 (by first | exact iG _ | omega) (by omega) (fun g3 => ?_) (fun g3 => ?_)
        · replace g3 : ((M 188 27).toInt : Int) = 3 := g3
          refine wP (ls' := [.ref 188, iv 0]) (st' := [.ref 188]) rfl rfl ?_
          refine wP (ls' := [.ref 188, iv 0]) (st' := [iv 0, .ref 188]) rfl rfl ?_
          refine wIf0 (n1 := 9) rfl bk_70_9 bk_70_8 (by omega) (fun g4 => ?_) (fun g4 => ?_)
          · replace g4 : (0 : Int) = 0 := g4
            refine wP (ls' := [.ref 188, iv 0]) (st' := [iv 0, .ref 188]) rfl rfl ?_
            refine zW_fall bk_70_10 ?_
            refine wP (ls' := [.ref 188, iv 0]) (st' := [iv 0, iv 0, .ref 188]) rfl rfl ?_
            refine wIf0 (n1 := 12) rfl bk_70_12 bk_70_11 (by omega) (fun g5 => ?_) (fun g5 => ?_)
            · replace g5 : (0 : Int) = 0 := g5
              refine wP (ls' := [.ref 188, iv 0]) (st' := [.ref 188, iv 0, .ref 188]) rfl rfl ?_
              refine wGetN hk (f := 28) (e := (M 188 28).toInt) (by decide +kernel) (iE _) ?_
              refine zW_fall bk_70_13 ?_
              refine wCall hk (q := 69) (na := 2) (a := 188) (as := [iv 0, iv (M 188 28).toInt]) (t := []) rfl (by decide +kernel) (by decide) (by decide +kernel) (Nat.le_of_ble_eq_true rfl) rfl rfl (zRn.mono (h69 hk ⟨by omega, by omega⟩) (fun rv h' hq => ?_))
              obtain ⟨rfl, rfl⟩ := hq
              refine ⟨rfl, ?_⟩
              show zW X _ 70 13 [.aload 0, .invokevirtual 1532065, .bipush 0, .ireturn] [.ref 188, iv 0] [] (gH k (gEm M 0 (M 188 28).toInt)) _
              refine wP (ls' := [.ref 188, iv 0]) (st' := [.ref 188]) rfl rfl ?_
              refine wCall hk (q := 65) (na := 0) (a := 188) (as := []) (t := []) rfl (by decide +kernel) (by decide) (by decide +kernel) (Nat.le_of_ble_eq_true rfl) rfl rfl (zRn.mono (h65p hk (gEm_ts hT).1) (fun rv h' hq => ?_))
              obtain ⟨M2, rfl, rfl, hR⟩ := hq
              refine ⟨rfl, ?_⟩
              show zW X _ 70 13 [.bipush 0, .ireturn] [.ref 188, iv 0] [] (gH k M2) _
              refine wP (ls' := [.ref 188, iv 0]) (st' := [iv 0]) rfl rfl ?_
              obtain ⟨t1, t2, t3, t4, t5, t6⟩ := gRd_s hR (gEm_ts hT).1
              have hm := gEm_m (w := 0) (v := (M 188 28).toInt) (M := M) ⟨by omega, by omega⟩
              rw [gEm_f (by decide)] at t6
              have ee := (gEm_unit (w := 0) (v := (M 188 28).toInt) (M := M) ⟨by omega, by omega⟩ (by omega)).trans (gEff.of_eq t3 t4 t5) (by omega)
              refine wIret (Or.inl (by decide +kernel)) ⟨0, _, rfl, rfl, ⟨t1, (gEm_fr (by omega)).trans t2, by rw [t3]; omega, by rw [t3]; omega, by omega, Or.inr ⟨rfl, by rw [t3]; omega, by omega, ee⟩⟩, fun _ => ⟨by rw [t3]; omega, fun z => ?_⟩⟩
              rw [t4, t5]
              refine ⟨?_, ?_⟩
              · rcases gEm_o (M := M) (w := 0) (v := (M 188 28).toInt) with q | q
                · first | exact q | omega
                · omega
              · rcases gEm_a (M := M) (w := 0) (v := (M 188 28).toInt) with q | q
                · first | exact q | omega
                · omega
            · replace g5 : ¬ ((0 : Int) = 0) := g5
              exact absurd g5 (by omega)
          · replace g4 : ¬ ((0 : Int) = 0) := g4
            exact absurd g4 (by omega)
        · replace g3 : ¬ (((M 188 27).toInt : Int) = 3) := g3
          refine wP (ls' := [.ref 188, iv 0]) (st' := [.ref 188]) rfl rfl ?_
          refine wP (ls' := [.ref 188, iv 0]) (st' := [iv 1, .ref 188]) rfl rfl ?_
          refine wCall hk (q := 66) (na := 1) (a := 188) (as := [iv 1]) (t := []) rfl (by decide +kernel) (by decide) (by decide +kernel) (Nat.le_of_ble_eq_true rfl) rfl rfl (zRn.mono (h66 hk) (fun rv h' hq => ?_))
          obtain ⟨rfl, rfl⟩ := hq
          refine ⟨rfl, ?_⟩
          show zW X _ 70 6 [.ireturn] [.ref 188, iv 0] [iv (-1)] (gH k (gFa M 1)) _
          obtain ⟨f1, f2, f3, f4, f5⟩ := gFa_s (c := 1) hT
          exact wIret (Or.inl (by decide +kernel)) ⟨-1, _, rfl, rfl, ⟨f1, f2, by rw [f3]; omega, by rw [f3]; omega, by rw [show gFa M 1 188 26 = M 188 26 from by unfold gFa; rw [aPut_f (by decide), aPut_f (by decide)]]; exact Int.le_refl _, Or.inl rfl⟩, fun q => absurd q (by decide)⟩
    · replace g1 : ¬ (((M 188 28).toInt : Int) < 15) := g1
      refine wP (ls' := [.ref 188, aD]) (st' := [iv 1]) rfl rfl ?_
      refine wGoto (n1 := 4) rfl bk_70_4 ?_
      refine wP (ls' := [.ref 188, iv 1]) (st' := []) rfl rfl ?_
      refine wP (ls' := [.ref 188, iv 1]) (st' := [iv 1]) rfl rfl ?_
      refine wIf0 (n1 := 7) rfl bk_70_7 bk_70_5 (by omega) (fun g2 => ?_) (fun g2 => ?_)
      · replace g2 : ¬ (1 : Int) = 0 := g2
        refine wP (ls' := [.ref 188, iv 1]) (st' := [.ref 188]) rfl rfl ?_
        refine wP (ls' := [.ref 188, iv 1]) (st' := [iv 1, .ref 188]) rfl rfl ?_
        refine wIf0 (n1 := 9) rfl bk_70_9 bk_70_8 (by omega) (fun g3 => ?_) (fun g3 => ?_)
        · replace g3 : (1 : Int) = 0 := g3
          exact absurd g3 (by omega)
        · replace g3 : ¬ ((1 : Int) = 0) := g3
          refine wP (ls' := [.ref 188, iv 1]) (st' := [iv 1, .ref 188]) rfl rfl ?_
          refine wGoto (n1 := 10) rfl bk_70_10 ?_
          refine wP (ls' := [.ref 188, iv 1]) (st' := [iv 1, iv 1, .ref 188]) rfl rfl ?_
          refine wIf0 (n1 := 12) rfl bk_70_12 bk_70_11 (by omega) (fun g4 => ?_) (fun g4 => ?_)
          · replace g4 : (1 : Int) = 0 := g4
            exact absurd g4 (by omega)
          · replace g4 : ¬ ((1 : Int) = 0) := g4
            refine wP (ls' := [.ref 188, iv 1]) (st' := [.ref 188, iv 1, .ref 188]) rfl rfl ?_
            refine wGetN hk (f := 28) (e := (M 188 28).toInt) (by decide +kernel) (iE _) ?_
            refine wP (ls' := [.ref 188, iv 1]) (st' := [iv 15, iv (M 188 28).toInt, iv 1, .ref 188]) rfl rfl ?_
            refine wSub ?_
            refine wGoto (n1 := 13) rfl bk_70_13 ?_
            refine wCall hk (q := 69) (na := 2) (a := 188) (as := [iv 1, iv ((M 188 28).toInt - 15)]) (t := []) rfl (by decide +kernel) (by decide) (by decide +kernel) (Nat.le_of_ble_eq_true rfl) rfl rfl (zRn.mono (h69 hk ⟨by omega, by omega⟩) (fun rv h' hq => ?_))
            obtain ⟨rfl, rfl⟩ := hq
            refine ⟨rfl, ?_⟩
            show zW X _ 70 13 [.aload 0, .invokevirtual 1532065, .bipush 0, .ireturn] [.ref 188, iv 1] [] (gH k (gEm M 1 ((M 188 28).toInt - 15))) _
            refine wP (ls' := [.ref 188, iv 1]) (st' := [.ref 188]) rfl rfl ?_
            refine wCall hk (q := 65) (na := 0) (a := 188) (as := []) (t := []) rfl (by decide +kernel) (by decide) (by decide +kernel) (Nat.le_of_ble_eq_true rfl) rfl rfl (zRn.mono (h65p hk (gEm_ts hT).1) (fun rv h' hq => ?_))
            obtain ⟨M2, rfl, rfl, hR⟩ := hq
            refine ⟨rfl, ?_⟩
            show zW X _ 70 13 [.bipush 0, .ireturn] [.ref 188, iv 1] [] (gH k M2) _
            refine wP (ls' := [.ref 188, iv 1]) (st' := [iv 0]) rfl rfl ?_
            obtain ⟨t1, t2, t3, t4, t5, t6⟩ := gRd_s hR (gEm_ts hT).1
            have hm := gEm_m (w := 1) (v := ((M 188 28).toInt - 15)) (M := M) ⟨by omega, by omega⟩
            rw [gEm_f (by decide)] at t6
            have ee := (gEm_unit (w := 1) (v := ((M 188 28).toInt - 15)) (M := M) ⟨by omega, by omega⟩ (by omega)).trans (gEff.of_eq t3 t4 t5) (by omega)
            refine wIret (Or.inl (by decide +kernel)) ⟨0, _, rfl, rfl, ⟨t1, (gEm_fr (by omega)).trans t2, by rw [t3]; omega, by rw [t3]; omega, by omega, Or.inr ⟨rfl, by rw [t3]; omega, by omega, ee⟩⟩, fun _ => ⟨by rw [t3]; omega, fun z => ?_⟩⟩
            rw [t4, t5]
            refine ⟨?_, ?_⟩
            · rcases gEm_o (M := M) (w := 1) (v := ((M 188 28).toInt - 15)) with q | q
              · first | exact q | omega
              · omega
            · rcases gEm_a (M := M) (w := 1) (v := ((M 188 28).toInt - 15)) with q | q
              · first | exact q | omega
              · omega
      · replace g2 : ¬ (¬ (1 : Int) = 0) := g2
        exact absurd g2 (by omega)
theorem h71_l {X : aX} {d : Nat} {k : Nat → aK} (hk : gKs k) {M : Nat → Nat → Int32} {c : Int} (hc : 0 ≤ c) :
    ∀ (n : Nat) (M1 : Nat → Nat → Int32) (u1 : Value) (hT : gTs M1) (hF : gFr M M1) (hm0 : 0 ≤ (M1 188 38).toInt) (hmc : (M1 188 38).toInt + c ≤ (M1 188 26).toInt) (hFr : (M 188 26).toInt < (M1 188 26).toInt) (hE : gEff M M1 0 1), (M1 188 24).toInt - (M1 188 26).toInt ≤ n → zW X (d + 1 + 1 + 1 + 1 + 1) 71 2 [.aload 0, .bipush 42, .invokevirtual 1580068, .ifCond .ne 4] [.ref 188, u1] [] (gH k M1) (fun rv h' => ∃ e M', rv = some (iv e) ∧ h' = gH k M' ∧ gDn M M' c e) := by
  intro n
  induction n with
  | zero =>
    intro M1 u1 hT hF hm0 hmc hFr hE hn
    have tk := hT.2
    obtain ⟨tk1, tk2, tk3, tk4, tk5, tk6, tk7⟩ := tk
    obtain ⟨tp1, tp2, tp3, tp4, tp5⟩ := hT.1
    refine wP (ls' := [.ref 188, u1]) (st' := [.ref 188]) rfl rfl ?_
    refine wP (ls' := [.ref 188, u1]) (st' := [iv 42, .ref 188]) rfl rfl ?_
    refine wCall hk (q := 68) (na := 1) (a := 188) (as := [iv 42]) (t := []) rfl (by decide +kernel) (by decide) (by decide +kernel) (Nat.le_of_ble_eq_true rfl) rfl rfl (zRn.mono (h68 hk (by omega)) (fun rv h' hq => ?_))
    obtain ⟨rfl, e1, rfl, r1⟩ := hq
    refine ⟨rfl, ?_⟩
    show zW X _ 71 2 [.ifCond .ne 4] [.ref 188, u1] [iv e1] (gH k M1) _
    refine wIf0 (n1 := 4) rfl bk_71_4 bk_71_3 (by omega) (fun g0 => ?_) (fun g0 => ?_)
    · replace g0 : ¬ (e1 : Int) = 0 := g0
      exfalso
      omega
    · replace g0 : ¬ (¬ (e1 : Int) = 0) := g0
      refine wP (ls' := [.ref 188, u1]) (st' := [.ref 188]) rfl rfl ?_
      refine wP (ls' := [.ref 188, u1]) (st' := [iv 47, .ref 188]) rfl rfl ?_
      refine wCall hk (q := 68) (na := 1) (a := 188) (as := [iv 47]) (t := []) rfl (by decide +kernel) (by decide) (by decide +kernel) (Nat.le_of_ble_eq_true rfl) rfl rfl (zRn.mono (h68 hk (by omega)) (fun rv h' hq => ?_))
      obtain ⟨rfl, e2, rfl, r2⟩ := hq
      refine ⟨rfl, ?_⟩
      show zW X _ 71 3 [.ifCond .eq 16] [.ref 188, u1] [iv e2] (gH k M1) _
      refine wIf0 (n1 := 16) rfl bk_71_16 bk_71_4 (by omega) (fun g1 => ?_) (fun g1 => ?_)
      · replace g1 : (e2 : Int) = 0 := g1
        refine wP (ls' := [.ref 188, u1]) (st' := [iv 0]) rfl rfl ?_
        exact wIret (Or.inl (by decide +kernel)) ⟨0, _, rfl, rfl, hT, hF, hm0, by omega, by omega, Or.inr ⟨rfl, hmc, hFr, hE⟩⟩
      · replace g1 : ¬ ((e2 : Int) = 0) := g1
        exfalso
        omega
  | succ n ih =>
    intro M1 u1 hT hF hm0 hmc hFr hE hn
    have tk := hT.2
    obtain ⟨tk1, tk2, tk3, tk4, tk5, tk6, tk7⟩ := tk
    obtain ⟨tp1, tp2, tp3, tp4, tp5⟩ := hT.1
    refine wP (ls' := [.ref 188, u1]) (st' := [.ref 188]) rfl rfl ?_
    refine wP (ls' := [.ref 188, u1]) (st' := [iv 42, .ref 188]) rfl rfl ?_
    refine wCall hk (q := 68) (na := 1) (a := 188) (as := [iv 42]) (t := []) rfl (by decide +kernel) (by decide) (by decide +kernel) (Nat.le_of_ble_eq_true rfl) rfl rfl (zRn.mono (h68 hk (by omega)) (fun rv h' hq => ?_))
    obtain ⟨rfl, e3, rfl, r3⟩ := hq
    refine ⟨rfl, ?_⟩
    show zW X _ 71 2 [.ifCond .ne 4] [.ref 188, u1] [iv e3] (gH k M1) _
    refine wIf0 (n1 := 4) rfl bk_71_4 bk_71_3 (by omega) (fun g0 => ?_) (fun g0 => ?_)
    · replace g0 : ¬ (e3 : Int) = 0 := g0
      refine wP (ls' := [.ref 188, u1]) (st' := [.ref 188]) rfl rfl ?_
      refine wP (ls' := [.ref 188, u1]) (st' := [iv 42, .ref 188]) rfl rfl ?_
      refine wCall hk (q := 68) (na := 1) (a := 188) (as := [iv 42]) (t := []) rfl (by decide +kernel) (by decide) (by decide +kernel) (Nat.le_of_ble_eq_true rfl) rfl rfl (zRn.mono (h68 hk (by omega)) (fun rv h' hq => ?_))
      obtain ⟨rfl, e4, rfl, r4⟩ := hq
      refine ⟨rfl, ?_⟩
      show zW X _ 71 4 [.istore 1, .aload 0, .invokevirtual 1532065, .iload 1, .ifCond .ne 7] [.ref 188, u1] [iv e4] (gH k M1) _
      refine wP (ls' := [.ref 188, iv e4]) (st' := []) rfl rfl ?_
      refine wP (ls' := [.ref 188, iv e4]) (st' := [.ref 188]) rfl rfl ?_
      refine wCall hk (q := 65) (na := 0) (a := 188) (as := []) (t := []) rfl (by decide +kernel) (by decide) (by decide +kernel) (Nat.le_of_ble_eq_true rfl) rfl rfl (zRn.mono (h65p hk hT.1) (fun rv h' hq => ?_))
      obtain ⟨M2, rfl, rfl, hR⟩ := hq
      obtain ⟨t1, t2, t3, t4, t5, t6⟩ := gRd_s hR hT.1
      have tb := t1.2
      obtain ⟨tb1, tb2, tb3, tb4, tb5, tb6, tb7⟩ := tb
      have t24 : (M2 188 24).toInt = (M1 188 24).toInt := by rw [t2.2.2 24 (by decide) (by decide) (by decide) (by decide) (by decide) (by decide) (by decide)]
      have tm : (M2 188 38).toInt = (M1 188 38).toInt := by rw [t3]
      refine ⟨rfl, ?_⟩
      show zW X _ 71 4 [.iload 1, .ifCond .ne 7] [.ref 188, iv e4] [] (gH k M2) _
      refine wP (ls' := [.ref 188, iv e4]) (st' := [iv e4]) rfl rfl ?_
      refine wIf0 (n1 := 7) rfl bk_71_7 bk_71_5 (by omega) (fun g1 => ?_) (fun g1 => ?_)
      · replace g1 : ¬ (e4 : Int) = 0 := g1
        refine wP (ls' := [.ref 188, iv e4]) (st' := [iv e4]) rfl rfl ?_
        refine wIf0 (n1 := 10) rfl bk_71_10 bk_71_8 (by omega) (fun g2 => ?_) (fun g2 => ?_)
        · replace g2 : ¬ (e4 : Int) = 0 := g2
          refine wP (ls' := [.ref 188, iv e4]) (st' := [.ref 188]) rfl rfl ?_
          refine wCall hk (q := 70) (na := 0) (a := 188) (as := []) (t := []) rfl (by decide +kernel) (by decide) (by decide +kernel) (Nat.le_of_ble_eq_true rfl) rfl rfl (zRn.mono (h70 hk t1 (c := c + 1) (by omega) (by omega) (by omega)) (fun rv h' hq => ?_))
          obtain ⟨e6, M3, rfl, rfl, hU, hU2⟩ := hq
          obtain ⟨u1, u2, u3, u4, uf, u5⟩ := hU
          obtain ⟨v1, v2, v3, v4, v5⟩ := u1.1
          obtain ⟨w1, w2, w3, w4, w5⟩ := u1.2
          have u24 : (M3 188 24).toInt = (M2 188 24).toInt := by rw [u2.2.2 24 (by decide) (by decide) (by decide) (by decide) (by decide) (by decide) (by decide)]
          have uz : e6 = -1 ∨ (M3 188 38).toInt + (c + 1) ≤ (M3 188 26).toInt := u5.imp id (fun z => z.2.1)
          refine ⟨rfl, ?_⟩
          show zW X _ 71 10 [.bipush (-1), .if_icmp .ne 12] [.ref 188, iv e4] [iv e6] (gH k M3) _
          refine wP (ls' := [.ref 188, iv e4]) (st' := [iv (-1), iv e6]) rfl rfl ?_
          refine wIfc (n1 := 12) rfl bk_71_12 bk_71_11 (by omega) (by omega) (fun g3 => ?_) (fun g3 => ?_)
          · replace g3 : ¬ (e6 : Int) = (-1) := g3
            refine wP (ls' := [.ref 188, iv e4]) (st' := [.ref 188]) rfl rfl ?_
            refine wP (ls' := [.ref 188, iv e4]) (st' := [iv e4, .ref 188]) rfl rfl ?_
            refine wIf0 (n1 := 14) rfl bk_71_14 bk_71_13 (by omega) (fun g4 => ?_) (fun g4 => ?_)
            · replace g4 : (e4 : Int) = 0 := g4
              refine wP (ls' := [.ref 188, iv e4]) (st' := [iv 5, .ref 188]) rfl rfl ?_
              refine zW_fall bk_71_15 ?_
              refine wP (ls' := [.ref 188, iv e4]) (st' := [iv 0, iv 5, .ref 188]) rfl rfl ?_
              refine wCall hk (q := 69) (na := 2) (a := 188) (as := [iv 5, iv 0]) (t := []) rfl (by decide +kernel) (by decide) (by decide +kernel) (Nat.le_of_ble_eq_true rfl) rfl rfl (zRn.mono (h69 hk ⟨by omega, by omega⟩) (fun rv h' hq => ?_))
              obtain ⟨rfl, rfl⟩ := hq
              refine ⟨rfl, ?_⟩
              show zW X _ 71 15 [.goto 2] [.ref 188, iv e4] [] (gH k (gEm M3 5 0)) _
              refine wGoto (n1 := 2) rfl bk_71_2 ?_
              have u5 : (M3 188 38).toInt + (c + 1) ≤ (M3 188 26).toInt ∧ gEff M2 M3 0 1 := by
                rcases u5 with q | ⟨_, q1, _, q2⟩
                · exact absurd q (by omega)
                · exact ⟨q1, q2⟩
              obtain ⟨u5, u6⟩ := u5
              have h5 : M3 210 (2000 + gMn M3 - 1) = 0 ∧ M3 211 (2000 + gMn M3 - 1) ≠ 0 := by
                obtain ⟨z1, z2⟩ := hU2 (by omega)
                obtain ⟨z3, z4⟩ := z2 (by omega)
                have zn : 2000 + gMn M3 - 1 = 2000 + gMn M2 := by unfold gMn; omega
                rw [zn, z3, z4]
                exact ⟨rfl, fun z => by have := congrArg Int32.toInt z; rw [← iE] at this; have z0 : (0 : Int32).toInt = 0 := rfl; omega⟩
              have ma := gEm_m (M := M3) (w := 5) (v := 0) ⟨by omega, by omega⟩
              have fe : gEm M3 5 0 188 26 = M3 188 26 := gEm_f (by decide)
              have fe24 : gEm M3 5 0 188 24 = M3 188 24 := gEm_f (by decide)
              have ef := ((hE.trans (gEff.of_eq t3 t4 t5) (by omega)).trans u6 (by omega)).trans (gEm_bin (M := M3) (w := 5) (v := 0) ⟨by omega, by omega⟩ (Or.inr (Or.inr (Or.inr (Or.inr (Or.inr (Or.inr (Or.inr (Or.inr ⟨rfl, h5⟩))))))))) (by omega)
              exact ih (gEm M3 5 0) _ (gEm_ts u1) (((hF.trans t2).trans u2).trans (gEm_fr (by omega))) (by omega) (by rw [fe]; omega) (by rw [fe]; omega) ef (by rw [fe, fe24]; omega)
            · replace g4 : ¬ ((e4 : Int) = 0) := g4
              refine wP (ls' := [.ref 188, iv e4]) (st' := [iv 4, .ref 188]) rfl rfl ?_
              refine wGoto (n1 := 15) rfl bk_71_15 ?_
              refine wP (ls' := [.ref 188, iv e4]) (st' := [iv 0, iv 4, .ref 188]) rfl rfl ?_
              refine wCall hk (q := 69) (na := 2) (a := 188) (as := [iv 4, iv 0]) (t := []) rfl (by decide +kernel) (by decide) (by decide +kernel) (Nat.le_of_ble_eq_true rfl) rfl rfl (zRn.mono (h69 hk ⟨by omega, by omega⟩) (fun rv h' hq => ?_))
              obtain ⟨rfl, rfl⟩ := hq
              refine ⟨rfl, ?_⟩
              show zW X _ 71 15 [.goto 2] [.ref 188, iv e4] [] (gH k (gEm M3 4 0)) _
              refine wGoto (n1 := 2) rfl bk_71_2 ?_
              have u5 : (M3 188 38).toInt + (c + 1) ≤ (M3 188 26).toInt ∧ gEff M2 M3 0 1 := by
                rcases u5 with q | ⟨_, q1, _, q2⟩
                · exact absurd q (by omega)
                · exact ⟨q1, q2⟩
              obtain ⟨u5, u6⟩ := u5
              have ma := gEm_m (M := M3) (w := 4) (v := 0) ⟨by omega, by omega⟩
              have fe : gEm M3 4 0 188 26 = M3 188 26 := gEm_f (by decide)
              have fe24 : gEm M3 4 0 188 24 = M3 188 24 := gEm_f (by decide)
              have ef := ((hE.trans (gEff.of_eq t3 t4 t5) (by omega)).trans u6 (by omega)).trans (gEm_bin (M := M3) (w := 4) (v := 0) ⟨by omega, by omega⟩ (by omega)) (by omega)
              exact ih (gEm M3 4 0) _ (gEm_ts u1) (((hF.trans t2).trans u2).trans (gEm_fr (by omega))) (by omega) (by rw [fe]; omega) (by rw [fe]; omega) ef (by rw [fe, fe24]; omega)
          · replace g3 : ¬ (¬ (e6 : Int) = (-1)) := g3
            refine wP (ls' := [.ref 188, iv e4]) (st' := [iv (-1)]) rfl rfl ?_
            exact wIret (Or.inl (by decide +kernel)) ⟨-1, _, rfl, rfl, u1, (hF.trans t2).trans u2, u3, u4, by omega, Or.inl rfl⟩
        · replace g2 : ¬ (¬ (e4 : Int) = 0) := g2
          refine wP (ls' := [.ref 188, iv e4]) (st' := [.ref 188]) rfl rfl ?_
          refine wGetN hk (f := 28) (e := (M2 188 28).toInt) (by decide +kernel) (iE _) ?_
          refine wIf0 (n1 := 10) rfl bk_71_10 bk_71_9 (by first | exact iG _ | omega) (fun g3 => ?_) (fun g3 => ?_)
          · replace g3 : ¬ ((M2 188 28).toInt : Int) = 0 := g3
            refine wP (ls' := [.ref 188, iv e4]) (st' := [.ref 188]) rfl rfl ?_
            refine wCall hk (q := 70) (na := 0) (a := 188) (as := []) (t := []) rfl (by decide +kernel) (by decide) (by decide +kernel) (Nat.le_of_ble_eq_true rfl) rfl rfl (zRn.mono (h70 hk t1 (c := c + 1) (by omega) (by omega) (by omega)) (fun rv h' hq => ?_))
            obtain ⟨e9, M3, rfl, rfl, hU, hU2⟩ := hq
            obtain ⟨u1, u2, u3, u4, uf, u5⟩ := hU
            obtain ⟨v1, v2, v3, v4, v5⟩ := u1.1
            obtain ⟨w1, w2, w3, w4, w5⟩ := u1.2
            have u24 : (M3 188 24).toInt = (M2 188 24).toInt := by rw [u2.2.2 24 (by decide) (by decide) (by decide) (by decide) (by decide) (by decide) (by decide)]
            have uz : e9 = -1 ∨ (M3 188 38).toInt + (c + 1) ≤ (M3 188 26).toInt := u5.imp id (fun z => z.2.1)
            refine ⟨rfl, ?_⟩
            show zW X _ 71 10 [.bipush (-1), .if_icmp .ne 12] [.ref 188, iv e4] [iv e9] (gH k M3) _
            refine wP (ls' := [.ref 188, iv e4]) (st' := [iv (-1), iv e9]) rfl rfl ?_
            refine wIfc (n1 := 12) rfl bk_71_12 bk_71_11 (by omega) (by omega) (fun g4 => ?_) (fun g4 => ?_)
            · replace g4 : ¬ (e9 : Int) = (-1) := g4
              refine wP (ls' := [.ref 188, iv e4]) (st' := [.ref 188]) rfl rfl ?_
              refine wP (ls' := [.ref 188, iv e4]) (st' := [iv e4, .ref 188]) rfl rfl ?_
              refine wIf0 (n1 := 14) rfl bk_71_14 bk_71_13 (by omega) (fun g5 => ?_) (fun g5 => ?_)
              · replace g5 : (e4 : Int) = 0 := g5
                refine wP (ls' := [.ref 188, iv e4]) (st' := [iv 5, .ref 188]) rfl rfl ?_
                refine zW_fall bk_71_15 ?_
                refine wP (ls' := [.ref 188, iv e4]) (st' := [iv 0, iv 5, .ref 188]) rfl rfl ?_
                refine wCall hk (q := 69) (na := 2) (a := 188) (as := [iv 5, iv 0]) (t := []) rfl (by decide +kernel) (by decide) (by decide +kernel) (Nat.le_of_ble_eq_true rfl) rfl rfl (zRn.mono (h69 hk ⟨by omega, by omega⟩) (fun rv h' hq => ?_))
                obtain ⟨rfl, rfl⟩ := hq
                refine ⟨rfl, ?_⟩
                show zW X _ 71 15 [.goto 2] [.ref 188, iv e4] [] (gH k (gEm M3 5 0)) _
                refine wGoto (n1 := 2) rfl bk_71_2 ?_
                have u5 : (M3 188 38).toInt + (c + 1) ≤ (M3 188 26).toInt ∧ gEff M2 M3 0 1 := by
                  rcases u5 with q | ⟨_, q1, _, q2⟩
                  · exact absurd q (by omega)
                  · exact ⟨q1, q2⟩
                obtain ⟨u5, u6⟩ := u5
                have h5 : M3 210 (2000 + gMn M3 - 1) = 0 ∧ M3 211 (2000 + gMn M3 - 1) ≠ 0 := by
                  obtain ⟨z1, z2⟩ := hU2 (by omega)
                  obtain ⟨z3, z4⟩ := z2 (by omega)
                  have zn : 2000 + gMn M3 - 1 = 2000 + gMn M2 := by unfold gMn; omega
                  rw [zn, z3, z4]
                  exact ⟨rfl, fun z => by have := congrArg Int32.toInt z; rw [← iE] at this; have z0 : (0 : Int32).toInt = 0 := rfl; omega⟩
                have ma := gEm_m (M := M3) (w := 5) (v := 0) ⟨by omega, by omega⟩
                have fe : gEm M3 5 0 188 26 = M3 188 26 := gEm_f (by decide)
                have fe24 : gEm M3 5 0 188 24 = M3 188 24 := gEm_f (by decide)
                have ef := ((hE.trans (gEff.of_eq t3 t4 t5) (by omega)).trans u6 (by omega)).trans (gEm_bin (M := M3) (w := 5) (v := 0) ⟨by omega, by omega⟩ (Or.inr (Or.inr (Or.inr (Or.inr (Or.inr (Or.inr (Or.inr (Or.inr ⟨rfl, h5⟩))))))))) (by omega)
                exact ih (gEm M3 5 0) _ (gEm_ts u1) (((hF.trans t2).trans u2).trans (gEm_fr (by omega))) (by omega) (by rw [fe]; omega) (by rw [fe]; omega) ef (by rw [fe, fe24]; omega)
              · replace g5 : ¬ ((e4 : Int) = 0) := g5
                refine wP (ls' := [.ref 188, iv e4]) (st' := [iv 4, .ref 188]) rfl rfl ?_
                refine wGoto (n1 := 15) rfl bk_71_15 ?_
                refine wP (ls' := [.ref 188, iv e4]) (st' := [iv 0, iv 4, .ref 188]) rfl rfl ?_
                refine wCall hk (q := 69) (na := 2) (a := 188) (as := [iv 4, iv 0]) (t := []) rfl (by decide +kernel) (by decide) (by decide +kernel) (Nat.le_of_ble_eq_true rfl) rfl rfl (zRn.mono (h69 hk ⟨by omega, by omega⟩) (fun rv h' hq => ?_))
                obtain ⟨rfl, rfl⟩ := hq
                refine ⟨rfl, ?_⟩
                show zW X _ 71 15 [.goto 2] [.ref 188, iv e4] [] (gH k (gEm M3 4 0)) _
                refine wGoto (n1 := 2) rfl bk_71_2 ?_
                have u5 : (M3 188 38).toInt + (c + 1) ≤ (M3 188 26).toInt ∧ gEff M2 M3 0 1 := by
                  rcases u5 with q | ⟨_, q1, _, q2⟩
                  · exact absurd q (by omega)
                  · exact ⟨q1, q2⟩
                obtain ⟨u5, u6⟩ := u5
                have ma := gEm_m (M := M3) (w := 4) (v := 0) ⟨by omega, by omega⟩
                have fe : gEm M3 4 0 188 26 = M3 188 26 := gEm_f (by decide)
                have fe24 : gEm M3 4 0 188 24 = M3 188 24 := gEm_f (by decide)
                have ef := ((hE.trans (gEff.of_eq t3 t4 t5) (by omega)).trans u6 (by omega)).trans (gEm_bin (M := M3) (w := 4) (v := 0) ⟨by omega, by omega⟩ (by omega)) (by omega)
                exact ih (gEm M3 4 0) _ (gEm_ts u1) (((hF.trans t2).trans u2).trans (gEm_fr (by omega))) (by omega) (by rw [fe]; omega) (by rw [fe]; omega) ef (by rw [fe, fe24]; omega)
            · replace g4 : ¬ (¬ (e9 : Int) = (-1)) := g4
              refine wP (ls' := [.ref 188, iv e4]) (st' := [iv (-1)]) rfl rfl ?_
              exact wIret (Or.inl (by decide +kernel)) ⟨-1, _, rfl, rfl, u1, (hF.trans t2).trans u2, u3, u4, by omega, Or.inl rfl⟩
          · replace g3 : ¬ (¬ ((M2 188 28).toInt : Int) = 0) := g3
            refine wP (ls' := [.ref 188, iv e4]) (st' := [.ref 188]) rfl rfl ?_
            refine wP (ls' := [.ref 188, iv e4]) (st' := [iv 2, .ref 188]) rfl rfl ?_
            refine wCall hk (q := 66) (na := 1) (a := 188) (as := [iv 2]) (t := []) rfl (by decide +kernel) (by decide) (by decide +kernel) (Nat.le_of_ble_eq_true rfl) rfl rfl (zRn.mono (h66 hk) (fun rv h' hq => ?_))
            obtain ⟨rfl, rfl⟩ := hq
            refine ⟨rfl, ?_⟩
            show zW X _ 71 9 [.ireturn] [.ref 188, iv e4] [iv (-1)] (gH k (gFa M2 2)) _
            obtain ⟨f1, f2, f3, f4, f5⟩ := gFa_s (c := 2) t1
            exact wIret (Or.inl (by decide +kernel)) ⟨-1, _, rfl, rfl, f1, (hF.trans t2).trans f2, by rw [f3]; omega, by rw [f3]; omega, by rw [show gFa M2 2 188 26 = M2 188 26 from by unfold gFa; rw [aPut_f (by decide), aPut_f (by decide)]]; omega, Or.inl rfl⟩
      · replace g1 : ¬ (¬ (e4 : Int) = 0) := g1
        refine wP (ls' := [.ref 188, iv e4]) (st' := [.ref 188]) rfl rfl ?_
        refine wGetN hk (f := 27) (e := (M2 188 27).toInt) (by decide +kernel) (iE _) ?_
        refine wP (ls' := [.ref 188, iv e4]) (st' := [iv 3, iv (M2 188 27).toInt]) rfl rfl ?_
        refine wIfc (n1 := 7) rfl bk_71_7 bk_71_6 (by first | exact iG _ | omega) (by omega) (fun g2 => ?_) (fun g2 => ?_)
        · replace g2 : ((M2 188 27).toInt : Int) = 3 := g2
          refine wP (ls' := [.ref 188, iv e4]) (st' := [iv e4]) rfl rfl ?_
          refine wIf0 (n1 := 10) rfl bk_71_10 bk_71_8 (by omega) (fun g3 => ?_) (fun g3 => ?_)
          · replace g3 : ¬ (e4 : Int) = 0 := g3
            refine wP (ls' := [.ref 188, iv e4]) (st' := [.ref 188]) rfl rfl ?_
            refine wCall hk (q := 70) (na := 0) (a := 188) (as := []) (t := []) rfl (by decide +kernel) (by decide) (by decide +kernel) (Nat.le_of_ble_eq_true rfl) rfl rfl (zRn.mono (h70 hk t1 (c := c + 1) (by omega) (by omega) (by omega)) (fun rv h' hq => ?_))
            obtain ⟨e13, M3, rfl, rfl, hU, hU2⟩ := hq
            obtain ⟨u1, u2, u3, u4, uf, u5⟩ := hU
            obtain ⟨v1, v2, v3, v4, v5⟩ := u1.1
            obtain ⟨w1, w2, w3, w4, w5⟩ := u1.2
            have u24 : (M3 188 24).toInt = (M2 188 24).toInt := by rw [u2.2.2 24 (by decide) (by decide) (by decide) (by decide) (by decide) (by decide) (by decide)]
            have uz : e13 = -1 ∨ (M3 188 38).toInt + (c + 1) ≤ (M3 188 26).toInt := u5.imp id (fun z => z.2.1)
            refine ⟨rfl, ?_⟩
            show zW X _ 71 10 [.bipush (-1), .if_icmp .ne 12] [.ref 188, iv e4] [iv e13] (gH k M3) _
            refine wP (ls' := [.ref 188, iv e4]) (st' := [iv (-1), iv e13]) rfl rfl ?_
            refine wIfc (n1 := 12) rfl bk_71_12 bk_71_11 (by omega) (by omega) (fun g4 => ?_) (fun g4 => ?_)
            · replace g4 : ¬ (e13 : Int) = (-1) := g4
              refine wP (ls' := [.ref 188, iv e4]) (st' := [.ref 188]) rfl rfl ?_
              refine wP (ls' := [.ref 188, iv e4]) (st' := [iv e4, .ref 188]) rfl rfl ?_
              refine wIf0 (n1 := 14) rfl bk_71_14 bk_71_13 (by omega) (fun g5 => ?_) (fun g5 => ?_)
              · replace g5 : (e4 : Int) = 0 := g5
                refine wP (ls' := [.ref 188, iv e4]) (st' := [iv 5, .ref 188]) rfl rfl ?_
                refine zW_fall bk_71_15 ?_
                refine wP (ls' := [.ref 188, iv e4]) (st' := [iv 0, iv 5, .ref 188]) rfl rfl ?_
                refine wCall hk (q := 69) (na := 2) (a := 188) (as := [iv 5, iv 0]) (t := []) rfl (by decide +kernel) (by decide) (by decide +kernel) (Nat.le_of_ble_eq_true rfl) rfl rfl (zRn.mono (h69 hk ⟨by omega, by omega⟩) (fun rv h' hq => ?_))
                obtain ⟨rfl, rfl⟩ := hq
                refine ⟨rfl, ?_⟩
                show zW X _ 71 15 [.goto 2] [.ref 188, iv e4] [] (gH k (gEm M3 5 0)) _
                refine wGoto (n1 := 2) rfl bk_71_2 ?_
                have u5 : (M3 188 38).toInt + (c + 1) ≤ (M3 188 26).toInt ∧ gEff M2 M3 0 1 := by
                  rcases u5 with q | ⟨_, q1, _, q2⟩
                  · exact absurd q (by omega)
                  · exact ⟨q1, q2⟩
                obtain ⟨u5, u6⟩ := u5
                have h5 : M3 210 (2000 + gMn M3 - 1) = 0 ∧ M3 211 (2000 + gMn M3 - 1) ≠ 0 := by
                  obtain ⟨z1, z2⟩ := hU2 (by omega)
                  obtain ⟨z3, z4⟩ := z2 (by omega)
                  have zn : 2000 + gMn M3 - 1 = 2000 + gMn M2 := by unfold gMn; omega
                  rw [zn, z3, z4]
                  exact ⟨rfl, fun z => by have := congrArg Int32.toInt z; rw [← iE] at this; have z0 : (0 : Int32).toInt = 0 := rfl; omega⟩
                have ma := gEm_m (M := M3) (w := 5) (v := 0) ⟨by omega, by omega⟩
                have fe : gEm M3 5 0 188 26 = M3 188 26 := gEm_f (by decide)
                have fe24 : gEm M3 5 0 188 24 = M3 188 24 := gEm_f (by decide)
                have ef := ((hE.trans (gEff.of_eq t3 t4 t5) (by omega)).trans u6 (by omega)).trans (gEm_bin (M := M3) (w := 5) (v := 0) ⟨by omega, by omega⟩ (Or.inr (Or.inr (Or.inr (Or.inr (Or.inr (Or.inr (Or.inr (Or.inr ⟨rfl, h5⟩))))))))) (by omega)
                exact ih (gEm M3 5 0) _ (gEm_ts u1) (((hF.trans t2).trans u2).trans (gEm_fr (by omega))) (by omega) (by rw [fe]; omega) (by rw [fe]; omega) ef (by rw [fe, fe24]; omega)
              · replace g5 : ¬ ((e4 : Int) = 0) := g5
                refine wP (ls' := [.ref 188, iv e4]) (st' := [iv 4, .ref 188]) rfl rfl ?_
                refine wGoto (n1 := 15) rfl bk_71_15 ?_
                refine wP (ls' := [.ref 188, iv e4]) (st' := [iv 0, iv 4, .ref 188]) rfl rfl ?_
                refine wCall hk (q := 69) (na := 2) (a := 188) (as := [iv 4, iv 0]) (t := []) rfl (by decide +kernel) (by decide) (by decide +kernel) (Nat.le_of_ble_eq_true rfl) rfl rfl (zRn.mono (h69 hk ⟨by omega, by omega⟩) (fun rv h' hq => ?_))
                obtain ⟨rfl, rfl⟩ := hq
                refine ⟨rfl, ?_⟩
                show zW X _ 71 15 [.goto 2] [.ref 188, iv e4] [] (gH k (gEm M3 4 0)) _
                refine wGoto (n1 := 2) rfl bk_71_2 ?_
                have u5 : (M3 188 38).toInt + (c + 1) ≤ (M3 188 26).toInt ∧ gEff M2 M3 0 1 := by
                  rcases u5 with q | ⟨_, q1, _, q2⟩
                  · exact absurd q (by omega)
                  · exact ⟨q1, q2⟩
                obtain ⟨u5, u6⟩ := u5
                have ma := gEm_m (M := M3) (w := 4) (v := 0) ⟨by omega, by omega⟩
                have fe : gEm M3 4 0 188 26 = M3 188 26 := gEm_f (by decide)
                have fe24 : gEm M3 4 0 188 24 = M3 188 24 := gEm_f (by decide)
                have ef := ((hE.trans (gEff.of_eq t3 t4 t5) (by omega)).trans u6 (by omega)).trans (gEm_bin (M := M3) (w := 4) (v := 0) ⟨by omega, by omega⟩ (by omega)) (by omega)
                exact ih (gEm M3 4 0) _ (gEm_ts u1) (((hF.trans t2).trans u2).trans (gEm_fr (by omega))) (by omega) (by rw [fe]; omega) (by rw [fe]; omega) ef (by rw [fe, fe24]; omega)
            · replace g4 : ¬ (¬ (e13 : Int) = (-1)) := g4
              refine wP (ls' := [.ref 188, iv e4]) (st' := [iv (-1)]) rfl rfl ?_
              exact wIret (Or.inl (by decide +kernel)) ⟨-1, _, rfl, rfl, u1, (hF.trans t2).trans u2, u3, u4, by omega, Or.inl rfl⟩
          · replace g3 : ¬ (¬ (e4 : Int) = 0) := g3
            refine wP (ls' := [.ref 188, iv e4]) (st' := [.ref 188]) rfl rfl ?_
            refine wGetN hk (f := 28) (e := (M2 188 28).toInt) (by decide +kernel) (iE _) ?_
            refine wIf0 (n1 := 10) rfl bk_71_10 bk_71_9 (by first | exact iG _ | omega) (fun g4 => ?_) (fun g4 => ?_)
            · replace g4 : ¬ ((M2 188 28).toInt : Int) = 0 := g4
              refine wP (ls' := [.ref 188, iv e4]) (st' := [.ref 188]) rfl rfl ?_
              refine wCall hk (q := 70) (na := 0) (a := 188) (as := []) (t := []) rfl (by decide +kernel) (by decide) (by decide +kernel) (Nat.le_of_ble_eq_true rfl) rfl rfl (zRn.mono (h70 hk t1 (c := c + 1) (by omega) (by omega) (by omega)) (fun rv h' hq => ?_))
              obtain ⟨e16, M3, rfl, rfl, hU, hU2⟩ := hq
              obtain ⟨u1, u2, u3, u4, uf, u5⟩ := hU
              obtain ⟨v1, v2, v3, v4, v5⟩ := u1.1
              obtain ⟨w1, w2, w3, w4, w5⟩ := u1.2
              have u24 : (M3 188 24).toInt = (M2 188 24).toInt := by rw [u2.2.2 24 (by decide) (by decide) (by decide) (by decide) (by decide) (by decide) (by decide)]
              have uz : e16 = -1 ∨ (M3 188 38).toInt + (c + 1) ≤ (M3 188 26).toInt := u5.imp id (fun z => z.2.1)
              refine ⟨rfl, ?_⟩
              show zW X _ 71 10 [.bipush (-1), .if_icmp .ne 12] [.ref 188, iv e4] [iv e16] (gH k M3) _
              refine wP (ls' := [.ref 188, iv e4]) (st' := [iv (-1), iv e16]) rfl rfl ?_
              refine wIfc (n1 := 12) rfl bk_71_12 bk_71_11 (by omega) (by omega) (fun g5 => ?_) (fun g5 => ?_)
              · replace g5 : ¬ (e16 : Int) = (-1) := g5
                refine wP (ls' := [.ref 188, iv e4]) (st' := [.ref 188]) rfl rfl ?_
                refine wP (ls' := [.ref 188, iv e4]) (st' := [iv e4, .ref 188]) rfl rfl ?_
                refine wIf0 (n1 := 14) rfl bk_71_14 bk_71_13 (by omega) (fun g6 => ?_) (fun g6 => ?_)
                · replace g6 : (e4 : Int) = 0 := g6
                  refine wP (ls' := [.ref 188, iv e4]) (st' := [iv 5, .ref 188]) rfl rfl ?_
                  refine zW_fall bk_71_15 ?_
                  refine wP (ls' := [.ref 188, iv e4]) (st' := [iv 0, iv 5, .ref 188]) rfl rfl ?_
                  refine wCall hk (q := 69) (na := 2) (a := 188) (as := [iv 5, iv 0]) (t := []) rfl (by decide +kernel) (by decide) (by decide +kernel) (Nat.le_of_ble_eq_true rfl) rfl rfl (zRn.mono (h69 hk ⟨by omega, by omega⟩) (fun rv h' hq => ?_))
                  obtain ⟨rfl, rfl⟩ := hq
                  refine ⟨rfl, ?_⟩
                  show zW X _ 71 15 [.goto 2] [.ref 188, iv e4] [] (gH k (gEm M3 5 0)) _
                  refine wGoto (n1 := 2) rfl bk_71_2 ?_
                  have u5 : (M3 188 38).toInt + (c + 1) ≤ (M3 188 26).toInt ∧ gEff M2 M3 0 1 := by
                    rcases u5 with q | ⟨_, q1, _, q2⟩
                    · exact absurd q (by omega)
                    · exact ⟨q1, q2⟩
                  obtain ⟨u5, u6⟩ := u5
                  have h5 : M3 210 (2000 + gMn M3 - 1) = 0 ∧ M3 211 (2000 + gMn M3 - 1) ≠ 0 := by
                    obtain ⟨z1, z2⟩ := hU2 (by omega)
                    obtain ⟨z3, z4⟩ := z2 (by omega)
                    have zn : 2000 + gMn M3 - 1 = 2000 + gMn M2 := by unfold gMn; omega
                    rw [zn, z3, z4]
                    exact ⟨rfl, fun z => by have := congrArg Int32.toInt z; rw [← iE] at this; have z0 : (0 : Int32).toInt = 0 := rfl; omega⟩
                  have ma := gEm_m (M := M3) (w := 5) (v := 0) ⟨by omega, by omega⟩
                  have fe : gEm M3 5 0 188 26 = M3 188 26 := gEm_f (by decide)
                  have fe24 : gEm M3 5 0 188 24 = M3 188 24 := gEm_f (by decide)
                  have ef := ((hE.trans (gEff.of_eq t3 t4 t5) (by omega)).trans u6 (by omega)).trans (gEm_bin (M := M3) (w := 5) (v := 0) ⟨by omega, by omega⟩ (Or.inr (Or.inr (Or.inr (Or.inr (Or.inr (Or.inr (Or.inr (Or.inr ⟨rfl, h5⟩))))))))) (by omega)
                  exact ih (gEm M3 5 0) _ (gEm_ts u1) (((hF.trans t2).trans u2).trans (gEm_fr (by omega))) (by omega) (by rw [fe]; omega) (by rw [fe]; omega) ef (by rw [fe, fe24]; omega)
                · replace g6 : ¬ ((e4 : Int) = 0) := g6
                  refine wP (ls' := [.ref 188, iv e4]) (st' := [iv 4, .ref 188]) rfl rfl ?_
                  refine wGoto (n1 := 15) rfl bk_71_15 ?_
                  refine wP (ls' := [.ref 188, iv e4]) (st' := [iv 0, iv 4, .ref 188]) rfl rfl ?_
                  refine wCall hk (q := 69) (na := 2) (a := 188) (as := [iv 4, iv 0]) (t := []) rfl (by decide +kernel) (by decide) (by decide +kernel) (Nat.le_of_ble_eq_true rfl) rfl rfl (zRn.mono (h69 hk ⟨by omega, by omega⟩) (fun rv h' hq => ?_))
                  obtain ⟨rfl, rfl⟩ := hq
                  refine ⟨rfl, ?_⟩
                  show zW X _ 71 15 [.goto 2] [.ref 188, iv e4] [] (gH k (gEm M3 4 0)) _
                  refine wGoto (n1 := 2) rfl bk_71_2 ?_
                  have u5 : (M3 188 38).toInt + (c + 1) ≤ (M3 188 26).toInt ∧ gEff M2 M3 0 1 := by
                    rcases u5 with q | ⟨_, q1, _, q2⟩
                    · exact absurd q (by omega)
                    · exact ⟨q1, q2⟩
                  obtain ⟨u5, u6⟩ := u5
                  have ma := gEm_m (M := M3) (w := 4) (v := 0) ⟨by omega, by omega⟩
                  have fe : gEm M3 4 0 188 26 = M3 188 26 := gEm_f (by decide)
                  have fe24 : gEm M3 4 0 188 24 = M3 188 24 := gEm_f (by decide)
                  have ef := ((hE.trans (gEff.of_eq t3 t4 t5) (by omega)).trans u6 (by omega)).trans (gEm_bin (M := M3) (w := 4) (v := 0) ⟨by omega, by omega⟩ (by omega)) (by omega)
                  exact ih (gEm M3 4 0) _ (gEm_ts u1) (((hF.trans t2).trans u2).trans (gEm_fr (by omega))) (by omega) (by rw [fe]; omega) (by rw [fe]; omega) ef (by rw [fe, fe24]; omega)
              · replace g5 : ¬ (¬ (e16 : Int) = (-1)) := g5
                refine wP (ls' := [.ref 188, iv e4]) (st' := [iv (-1)]) rfl rfl ?_
                exact wIret (Or.inl (by decide +kernel)) ⟨-1, _, rfl, rfl, u1, (hF.trans t2).trans u2, u3, u4, by omega, Or.inl rfl⟩
            · replace g4 : ¬ (¬ ((M2 188 28).toInt : Int) = 0) := g4
              refine wP (ls' := [.ref 188, iv e4]) (st' := [.ref 188]) rfl rfl ?_
              refine wP (ls' := [.ref 188, iv e4]) (st' := [iv 2, .ref 188]) rfl rfl ?_
              refine wCall hk (q := 66) (na := 1) (a := 188) (as := [iv 2]) (t := []) rfl (by decide +kernel) (by decide) (by decide +kernel) (Nat.le_of_ble_eq_true rfl) rfl rfl (zRn.mono (h66 hk) (fun rv h' hq => ?_))
              obtain ⟨rfl, rfl⟩ := hq
              refine ⟨rfl, ?_⟩
              show zW X _ 71 9 [.ireturn] [.ref 188, iv e4] [iv (-1)] (gH k (gFa M2 2)) _
              obtain ⟨f1, f2, f3, f4, f5⟩ := gFa_s (c := 2) t1
              exact wIret (Or.inl (by decide +kernel)) ⟨-1, _, rfl, rfl, f1, (hF.trans t2).trans f2, by rw [f3]; omega, by rw [f3]; omega, by rw [show gFa M2 2 188 26 = M2 188 26 from by unfold gFa; rw [aPut_f (by decide), aPut_f (by decide)]]; omega, Or.inl rfl⟩
        · replace g2 : ¬ (((M2 188 27).toInt : Int) = 3) := g2
          refine wP (ls' := [.ref 188, iv e4]) (st' := [.ref 188]) rfl rfl ?_
          refine wP (ls' := [.ref 188, iv e4]) (st' := [iv 1, .ref 188]) rfl rfl ?_
          refine wCall hk (q := 66) (na := 1) (a := 188) (as := [iv 1]) (t := []) rfl (by decide +kernel) (by decide) (by decide +kernel) (Nat.le_of_ble_eq_true rfl) rfl rfl (zRn.mono (h66 hk) (fun rv h' hq => ?_))
          obtain ⟨rfl, rfl⟩ := hq
          refine ⟨rfl, ?_⟩
          show zW X _ 71 6 [.ireturn] [.ref 188, iv e4] [iv (-1)] (gH k (gFa M2 1)) _
          obtain ⟨f1, f2, f3, f4, f5⟩ := gFa_s (c := 1) t1
          exact wIret (Or.inl (by decide +kernel)) ⟨-1, _, rfl, rfl, f1, (hF.trans t2).trans f2, by rw [f3]; omega, by rw [f3]; omega, by rw [show gFa M2 1 188 26 = M2 188 26 from by unfold gFa; rw [aPut_f (by decide), aPut_f (by decide)]]; omega, Or.inl rfl⟩
    · replace g0 : ¬ (¬ (e3 : Int) = 0) := g0
      refine wP (ls' := [.ref 188, u1]) (st' := [.ref 188]) rfl rfl ?_
      refine wP (ls' := [.ref 188, u1]) (st' := [iv 47, .ref 188]) rfl rfl ?_
      refine wCall hk (q := 68) (na := 1) (a := 188) (as := [iv 47]) (t := []) rfl (by decide +kernel) (by decide) (by decide +kernel) (Nat.le_of_ble_eq_true rfl) rfl rfl (zRn.mono (h68 hk (by omega)) (fun rv h' hq => ?_))
      obtain ⟨rfl, e21, rfl, r21⟩ := hq
      refine ⟨rfl, ?_⟩
      show zW X _ 71 3 [.ifCond .eq 16] [.ref 188, u1] [iv e21] (gH k M1) _
      refine wIf0 (n1 := 16) rfl bk_71_16 bk_71_4 (by omega) (fun g1 => ?_) (fun g1 => ?_)
      · replace g1 : (e21 : Int) = 0 := g1
        refine wP (ls' := [.ref 188, u1]) (st' := [iv 0]) rfl rfl ?_
        exact wIret (Or.inl (by decide +kernel)) ⟨0, _, rfl, rfl, hT, hF, hm0, by omega, by omega, Or.inr ⟨rfl, hmc, hFr, hE⟩⟩
      · replace g1 : ¬ ((e21 : Int) = 0) := g1
        refine wP (ls' := [.ref 188, u1]) (st' := [.ref 188]) rfl rfl ?_
        refine wP (ls' := [.ref 188, u1]) (st' := [iv 42, .ref 188]) rfl rfl ?_
        refine wCall hk (q := 68) (na := 1) (a := 188) (as := [iv 42]) (t := []) rfl (by decide +kernel) (by decide) (by decide +kernel) (Nat.le_of_ble_eq_true rfl) rfl rfl (zRn.mono (h68 hk (by omega)) (fun rv h' hq => ?_))
        obtain ⟨rfl, e22, rfl, r22⟩ := hq
        refine ⟨rfl, ?_⟩
        show zW X _ 71 4 [.istore 1, .aload 0, .invokevirtual 1532065, .iload 1, .ifCond .ne 7] [.ref 188, u1] [iv e22] (gH k M1) _
        refine wP (ls' := [.ref 188, iv e22]) (st' := []) rfl rfl ?_
        refine wP (ls' := [.ref 188, iv e22]) (st' := [.ref 188]) rfl rfl ?_
        refine wCall hk (q := 65) (na := 0) (a := 188) (as := []) (t := []) rfl (by decide +kernel) (by decide) (by decide +kernel) (Nat.le_of_ble_eq_true rfl) rfl rfl (zRn.mono (h65p hk hT.1) (fun rv h' hq => ?_))
        obtain ⟨M2, rfl, rfl, hR⟩ := hq
        obtain ⟨t1, t2, t3, t4, t5, t6⟩ := gRd_s hR hT.1
        have tb := t1.2
        obtain ⟨tb1, tb2, tb3, tb4, tb5, tb6, tb7⟩ := tb
        have t24 : (M2 188 24).toInt = (M1 188 24).toInt := by rw [t2.2.2 24 (by decide) (by decide) (by decide) (by decide) (by decide) (by decide) (by decide)]
        have tm : (M2 188 38).toInt = (M1 188 38).toInt := by rw [t3]
        refine ⟨rfl, ?_⟩
        show zW X _ 71 4 [.iload 1, .ifCond .ne 7] [.ref 188, iv e22] [] (gH k M2) _
        refine wP (ls' := [.ref 188, iv e22]) (st' := [iv e22]) rfl rfl ?_
        refine wIf0 (n1 := 7) rfl bk_71_7 bk_71_5 (by omega) (fun g2 => ?_) (fun g2 => ?_)
        · replace g2 : ¬ (e22 : Int) = 0 := g2
          refine wP (ls' := [.ref 188, iv e22]) (st' := [iv e22]) rfl rfl ?_
          refine wIf0 (n1 := 10) rfl bk_71_10 bk_71_8 (by omega) (fun g3 => ?_) (fun g3 => ?_)
          · replace g3 : ¬ (e22 : Int) = 0 := g3
            refine wP (ls' := [.ref 188, iv e22]) (st' := [.ref 188]) rfl rfl ?_
            refine wCall hk (q := 70) (na := 0) (a := 188) (as := []) (t := []) rfl (by decide +kernel) (by decide) (by decide +kernel) (Nat.le_of_ble_eq_true rfl) rfl rfl (zRn.mono (h70 hk t1 (c := c + 1) (by omega) (by omega) (by omega)) (fun rv h' hq => ?_))
            obtain ⟨e24, M3, rfl, rfl, hU, hU2⟩ := hq
            obtain ⟨u1, u2, u3, u4, uf, u5⟩ := hU
            obtain ⟨v1, v2, v3, v4, v5⟩ := u1.1
            obtain ⟨w1, w2, w3, w4, w5⟩ := u1.2
            have u24 : (M3 188 24).toInt = (M2 188 24).toInt := by rw [u2.2.2 24 (by decide) (by decide) (by decide) (by decide) (by decide) (by decide) (by decide)]
            have uz : e24 = -1 ∨ (M3 188 38).toInt + (c + 1) ≤ (M3 188 26).toInt := u5.imp id (fun z => z.2.1)
            refine ⟨rfl, ?_⟩
            show zW X _ 71 10 [.bipush (-1), .if_icmp .ne 12] [.ref 188, iv e22] [iv e24] (gH k M3) _
            refine wP (ls' := [.ref 188, iv e22]) (st' := [iv (-1), iv e24]) rfl rfl ?_
            refine wIfc (n1 := 12) rfl bk_71_12 bk_71_11 (by omega) (by omega) (fun g4 => ?_) (fun g4 => ?_)
            · replace g4 : ¬ (e24 : Int) = (-1) := g4
              refine wP (ls' := [.ref 188, iv e22]) (st' := [.ref 188]) rfl rfl ?_
              refine wP (ls' := [.ref 188, iv e22]) (st' := [iv e22, .ref 188]) rfl rfl ?_
              refine wIf0 (n1 := 14) rfl bk_71_14 bk_71_13 (by omega) (fun g5 => ?_) (fun g5 => ?_)
              · replace g5 : (e22 : Int) = 0 := g5
                refine wP (ls' := [.ref 188, iv e22]) (st' := [iv 5, .ref 188]) rfl rfl ?_
                refine zW_fall bk_71_15 ?_
                refine wP (ls' := [.ref 188, iv e22]) (st' := [iv 0, iv 5, .ref 188]) rfl rfl ?_
                refine wCall hk (q := 69) (na := 2) (a := 188) (as := [iv 5, iv 0]) (t := []) rfl (by decide +kernel) (by decide) (by decide +kernel) (Nat.le_of_ble_eq_true rfl) rfl rfl (zRn.mono (h69 hk ⟨by omega, by omega⟩) (fun rv h' hq => ?_))
                obtain ⟨rfl, rfl⟩ := hq
                refine ⟨rfl, ?_⟩
                show zW X _ 71 15 [.goto 2] [.ref 188, iv e22] [] (gH k (gEm M3 5 0)) _
                refine wGoto (n1 := 2) rfl bk_71_2 ?_
                have u5 : (M3 188 38).toInt + (c + 1) ≤ (M3 188 26).toInt ∧ gEff M2 M3 0 1 := by
                  rcases u5 with q | ⟨_, q1, _, q2⟩
                  · exact absurd q (by omega)
                  · exact ⟨q1, q2⟩
                obtain ⟨u5, u6⟩ := u5
                have h5 : M3 210 (2000 + gMn M3 - 1) = 0 ∧ M3 211 (2000 + gMn M3 - 1) ≠ 0 := by
                  obtain ⟨z1, z2⟩ := hU2 (by omega)
                  obtain ⟨z3, z4⟩ := z2 (by omega)
                  have zn : 2000 + gMn M3 - 1 = 2000 + gMn M2 := by unfold gMn; omega
                  rw [zn, z3, z4]
                  exact ⟨rfl, fun z => by have := congrArg Int32.toInt z; rw [← iE] at this; have z0 : (0 : Int32).toInt = 0 := rfl; omega⟩
                have ma := gEm_m (M := M3) (w := 5) (v := 0) ⟨by omega, by omega⟩
                have fe : gEm M3 5 0 188 26 = M3 188 26 := gEm_f (by decide)
                have fe24 : gEm M3 5 0 188 24 = M3 188 24 := gEm_f (by decide)
                have ef := ((hE.trans (gEff.of_eq t3 t4 t5) (by omega)).trans u6 (by omega)).trans (gEm_bin (M := M3) (w := 5) (v := 0) ⟨by omega, by omega⟩ (Or.inr (Or.inr (Or.inr (Or.inr (Or.inr (Or.inr (Or.inr (Or.inr ⟨rfl, h5⟩))))))))) (by omega)
                exact ih (gEm M3 5 0) _ (gEm_ts u1) (((hF.trans t2).trans u2).trans (gEm_fr (by omega))) (by omega) (by rw [fe]; omega) (by rw [fe]; omega) ef (by rw [fe, fe24]; omega)
              · replace g5 : ¬ ((e22 : Int) = 0) := g5
                refine wP (ls' := [.ref 188, iv e22]) (st' := [iv 4, .ref 188]) rfl rfl ?_
                refine wGoto (n1 := 15) rfl bk_71_15 ?_
                refine wP (ls' := [.ref 188, iv e22]) (st' := [iv 0, iv 4, .ref 188]) rfl rfl ?_
                refine wCall hk (q := 69) (na := 2) (a := 188) (as := [iv 4, iv 0]) (t := []) rfl (by decide +kernel) (by decide) (by decide +kernel) (Nat.le_of_ble_eq_true rfl) rfl rfl (zRn.mono (h69 hk ⟨by omega, by omega⟩) (fun rv h' hq => ?_))
                obtain ⟨rfl, rfl⟩ := hq
                refine ⟨rfl, ?_⟩
                show zW X _ 71 15 [.goto 2] [.ref 188, iv e22] [] (gH k (gEm M3 4 0)) _
                refine wGoto (n1 := 2) rfl bk_71_2 ?_
                have u5 : (M3 188 38).toInt + (c + 1) ≤ (M3 188 26).toInt ∧ gEff M2 M3 0 1 := by
                  rcases u5 with q | ⟨_, q1, _, q2⟩
                  · exact absurd q (by omega)
                  · exact ⟨q1, q2⟩
                obtain ⟨u5, u6⟩ := u5
                have ma := gEm_m (M := M3) (w := 4) (v := 0) ⟨by omega, by omega⟩
                have fe : gEm M3 4 0 188 26 = M3 188 26 := gEm_f (by decide)
                have fe24 : gEm M3 4 0 188 24 = M3 188 24 := gEm_f (by decide)
                have ef := ((hE.trans (gEff.of_eq t3 t4 t5) (by omega)).trans u6 (by omega)).trans (gEm_bin (M := M3) (w := 4) (v := 0) ⟨by omega, by omega⟩ (by omega)) (by omega)
                exact ih (gEm M3 4 0) _ (gEm_ts u1) (((hF.trans t2).trans u2).trans (gEm_fr (by omega))) (by omega) (by rw [fe]; omega) (by rw [fe]; omega) ef (by rw [fe, fe24]; omega)
            · replace g4 : ¬ (¬ (e24 : Int) = (-1)) := g4
              refine wP (ls' := [.ref 188, iv e22]) (st' := [iv (-1)]) rfl rfl ?_
              exact wIret (Or.inl (by decide +kernel)) ⟨-1, _, rfl, rfl, u1, (hF.trans t2).trans u2, u3, u4, by omega, Or.inl rfl⟩
          · replace g3 : ¬ (¬ (e22 : Int) = 0) := g3
            refine wP (ls' := [.ref 188, iv e22]) (st' := [.ref 188]) rfl rfl ?_
            refine wGetN hk (f := 28) (e := (M2 188 28).toInt) (by decide +kernel) (iE _) ?_
            refine wIf0 (n1 := 10) rfl bk_71_10 bk_71_9 (by first | exact iG _ | omega) (fun g4 => ?_) (fun g4 => ?_)
            · replace g4 : ¬ ((M2 188 28).toInt : Int) = 0 := g4
              refine wP (ls' := [.ref 188, iv e22]) (st' := [.ref 188]) rfl rfl ?_
              refine wCall hk (q := 70) (na := 0) (a := 188) (as := []) (t := []) rfl (by decide +kernel) (by decide) (by decide +kernel) (Nat.le_of_ble_eq_true rfl) rfl rfl (zRn.mono (h70 hk t1 (c := c + 1) (by omega) (by omega) (by omega)) (fun rv h' hq => ?_))
              obtain ⟨e27, M3, rfl, rfl, hU, hU2⟩ := hq
              obtain ⟨u1, u2, u3, u4, uf, u5⟩ := hU
              obtain ⟨v1, v2, v3, v4, v5⟩ := u1.1
              obtain ⟨w1, w2, w3, w4, w5⟩ := u1.2
              have u24 : (M3 188 24).toInt = (M2 188 24).toInt := by rw [u2.2.2 24 (by decide) (by decide) (by decide) (by decide) (by decide) (by decide) (by decide)]
              have uz : e27 = -1 ∨ (M3 188 38).toInt + (c + 1) ≤ (M3 188 26).toInt := u5.imp id (fun z => z.2.1)
              refine ⟨rfl, ?_⟩
              show zW X _ 71 10 [.bipush (-1), .if_icmp .ne 12] [.ref 188, iv e22] [iv e27] (gH k M3) _
              refine wP (ls' := [.ref 188, iv e22]) (st' := [iv (-1), iv e27]) rfl rfl ?_
              refine wIfc (n1 := 12) rfl bk_71_12 bk_71_11 (by omega) (by omega) (fun g5 => ?_) (fun g5 => ?_)
              · replace g5 : ¬ (e27 : Int) = (-1) := g5
                refine wP (ls' := [.ref 188, iv e22]) (st' := [.ref 188]) rfl rfl ?_
                refine wP (ls' := [.ref 188, iv e22]) (st' := [iv e22, .ref 188]) rfl rfl ?_
                refine wIf0 (n1 := 14) rfl bk_71_14 bk_71_13 (by omega) (fun g6 => ?_) (fun g6 => ?_)
                · replace g6 : (e22 : Int) = 0 := g6
                  refine wP (ls' := [.ref 188, iv e22]) (st' := [iv 5, .ref 188]) rfl rfl ?_
                  refine zW_fall bk_71_15 ?_
                  refine wP (ls' := [.ref 188, iv e22]) (st' := [iv 0, iv 5, .ref 188]) rfl rfl ?_
                  refine wCall hk (q := 69) (na := 2) (a := 188) (as := [iv 5, iv 0]) (t := []) rfl (by decide +kernel) (by decide) (by decide +kernel) (Nat.le_of_ble_eq_true rfl) rfl rfl (zRn.mono (h69 hk ⟨by omega, by omega⟩) (fun rv h' hq => ?_))
                  obtain ⟨rfl, rfl⟩ := hq
                  refine ⟨rfl, ?_⟩
                  show zW X _ 71 15 [.goto 2] [.ref 188, iv e22] [] (gH k (gEm M3 5 0)) _
                  refine wGoto (n1 := 2) rfl bk_71_2 ?_
                  have u5 : (M3 188 38).toInt + (c + 1) ≤ (M3 188 26).toInt ∧ gEff M2 M3 0 1 := by
                    rcases u5 with q | ⟨_, q1, _, q2⟩
                    · exact absurd q (by omega)
                    · exact ⟨q1, q2⟩
                  obtain ⟨u5, u6⟩ := u5
                  have h5 : M3 210 (2000 + gMn M3 - 1) = 0 ∧ M3 211 (2000 + gMn M3 - 1) ≠ 0 := by
                    obtain ⟨z1, z2⟩ := hU2 (by omega)
                    obtain ⟨z3, z4⟩ := z2 (by omega)
                    have zn : 2000 + gMn M3 - 1 = 2000 + gMn M2 := by unfold gMn; omega
                    rw [zn, z3, z4]
                    exact ⟨rfl, fun z => by have := congrArg Int32.toInt z; rw [← iE] at this; have z0 : (0 : Int32).toInt = 0 := rfl; omega⟩
                  have ma := gEm_m (M := M3) (w := 5) (v := 0) ⟨by omega, by omega⟩
                  have fe : gEm M3 5 0 188 26 = M3 188 26 := gEm_f (by decide)
                  have fe24 : gEm M3 5 0 188 24 = M3 188 24 := gEm_f (by decide)
                  have ef := ((hE.trans (gEff.of_eq t3 t4 t5) (by omega)).trans u6 (by omega)).trans (gEm_bin (M := M3) (w := 5) (v := 0) ⟨by omega, by omega⟩ (Or.inr (Or.inr (Or.inr (Or.inr (Or.inr (Or.inr (Or.inr (Or.inr ⟨rfl, h5⟩))))))))) (by omega)
                  exact ih (gEm M3 5 0) _ (gEm_ts u1) (((hF.trans t2).trans u2).trans (gEm_fr (by omega))) (by omega) (by rw [fe]; omega) (by rw [fe]; omega) ef (by rw [fe, fe24]; omega)
                · replace g6 : ¬ ((e22 : Int) = 0) := g6
                  refine wP (ls' := [.ref 188, iv e22]) (st' := [iv 4, .ref 188]) rfl rfl ?_
                  refine wGoto (n1 := 15) rfl bk_71_15 ?_
                  refine wP (ls' := [.ref 188, iv e22]) (st' := [iv 0, iv 4, .ref 188]) rfl rfl ?_
                  refine wCall hk (q := 69) (na := 2) (a := 188) (as := [iv 4, iv 0]) (t := []) rfl (by decide +kernel) (by decide) (by decide +kernel) (Nat.le_of_ble_eq_true rfl) rfl rfl (zRn.mono (h69 hk ⟨by omega, by omega⟩) (fun rv h' hq => ?_))
                  obtain ⟨rfl, rfl⟩ := hq
                  refine ⟨rfl, ?_⟩
                  show zW X _ 71 15 [.goto 2] [.ref 188, iv e22] [] (gH k (gEm M3 4 0)) _
                  refine wGoto (n1 := 2) rfl bk_71_2 ?_
                  have u5 : (M3 188 38).toInt + (c + 1) ≤ (M3 188 26).toInt ∧ gEff M2 M3 0 1 := by
                    rcases u5 with q | ⟨_, q1, _, q2⟩
                    · exact absurd q (by omega)
                    · exact ⟨q1, q2⟩
                  obtain ⟨u5, u6⟩ := u5
                  have ma := gEm_m (M := M3) (w := 4) (v := 0) ⟨by omega, by omega⟩
                  have fe : gEm M3 4 0 188 26 = M3 188 26 := gEm_f (by decide)
                  have fe24 : gEm M3 4 0 188 24 = M3 188 24 := gEm_f (by decide)
                  have ef := ((hE.trans (gEff.of_eq t3 t4 t5) (by omega)).trans u6 (by omega)).trans (gEm_bin (M := M3) (w := 4) (v := 0) ⟨by omega, by omega⟩ (by omega)) (by omega)
                  exact ih (gEm M3 4 0) _ (gEm_ts u1) (((hF.trans t2).trans u2).trans (gEm_fr (by omega))) (by omega) (by rw [fe]; omega) (by rw [fe]; omega) ef (by rw [fe, fe24]; omega)
              · replace g5 : ¬ (¬ (e27 : Int) = (-1)) := g5
                refine wP (ls' := [.ref 188, iv e22]) (st' := [iv (-1)]) rfl rfl ?_
                exact wIret (Or.inl (by decide +kernel)) ⟨-1, _, rfl, rfl, u1, (hF.trans t2).trans u2, u3, u4, by omega, Or.inl rfl⟩
            · replace g4 : ¬ (¬ ((M2 188 28).toInt : Int) = 0) := g4
              refine wP (ls' := [.ref 188, iv e22]) (st' := [.ref 188]) rfl rfl ?_
              refine wP (ls' := [.ref 188, iv e22]) (st' := [iv 2, .ref 188]) rfl rfl ?_
              refine wCall hk (q := 66) (na := 1) (a := 188) (as := [iv 2]) (t := []) rfl (by decide +kernel) (by decide) (by decide +kernel) (Nat.le_of_ble_eq_true rfl) rfl rfl (zRn.mono (h66 hk) (fun rv h' hq => ?_))
              obtain ⟨rfl, rfl⟩ := hq
              refine ⟨rfl, ?_⟩
              show zW X _ 71 9 [.ireturn] [.ref 188, iv e22] [iv (-1)] (gH k (gFa M2 2)) _
              obtain ⟨f1, f2, f3, f4, f5⟩ := gFa_s (c := 2) t1
              exact wIret (Or.inl (by decide +kernel)) ⟨-1, _, rfl, rfl, f1, (hF.trans t2).trans f2, by rw [f3]; omega, by rw [f3]; omega, by rw [show gFa M2 2 188 26 = M2 188 26 from by unfold gFa; rw [aPut_f (by decide), aPut_f (by decide)]]; omega, Or.inl rfl⟩
        · replace g2 : ¬ (¬ (e22 : Int) = 0) := g2
          refine wP (ls' := [.ref 188, iv e22]) (st' := [.ref 188]) rfl rfl ?_
          refine wGetN hk (f := 27) (e := (M2 188 27).toInt) (by decide +kernel) (iE _) ?_
          refine wP (ls' := [.ref 188, iv e22]) (st' := [iv 3, iv (M2 188 27).toInt]) rfl rfl ?_
          refine wIfc (n1 := 7) rfl bk_71_7 bk_71_6 (by first | exact iG _ | omega) (by omega) (fun g3 => ?_) (fun g3 => ?_)
          · replace g3 : ((M2 188 27).toInt : Int) = 3 := g3
            refine wP (ls' := [.ref 188, iv e22]) (st' := [iv e22]) rfl rfl ?_
            refine wIf0 (n1 := 10) rfl bk_71_10 bk_71_8 (by omega) (fun g4 => ?_) (fun g4 => ?_)
            · replace g4 : ¬ (e22 : Int) = 0 := g4
              refine wP (ls' := [.ref 188, iv e22]) (st' := [.ref 188]) rfl rfl ?_
              refine wCall hk (q := 70) (na := 0) (a := 188) (as := []) (t := []) rfl (by decide +kernel) (by decide) (by decide +kernel) (Nat.le_of_ble_eq_true rfl) rfl rfl (zRn.mono (h70 hk t1 (c := c + 1) (by omega) (by omega) (by omega)) (fun rv h' hq => ?_))
              obtain ⟨e31, M3, rfl, rfl, hU, hU2⟩ := hq
              obtain ⟨u1, u2, u3, u4, uf, u5⟩ := hU
              obtain ⟨v1, v2, v3, v4, v5⟩ := u1.1
              obtain ⟨w1, w2, w3, w4, w5⟩ := u1.2
              have u24 : (M3 188 24).toInt = (M2 188 24).toInt := by rw [u2.2.2 24 (by decide) (by decide) (by decide) (by decide) (by decide) (by decide) (by decide)]
              have uz : e31 = -1 ∨ (M3 188 38).toInt + (c + 1) ≤ (M3 188 26).toInt := u5.imp id (fun z => z.2.1)
              refine ⟨rfl, ?_⟩
              show zW X _ 71 10 [.bipush (-1), .if_icmp .ne 12] [.ref 188, iv e22] [iv e31] (gH k M3) _
              refine wP (ls' := [.ref 188, iv e22]) (st' := [iv (-1), iv e31]) rfl rfl ?_
              refine wIfc (n1 := 12) rfl bk_71_12 bk_71_11 (by omega) (by omega) (fun g5 => ?_) (fun g5 => ?_)
              · replace g5 : ¬ (e31 : Int) = (-1) := g5
                refine wP (ls' := [.ref 188, iv e22]) (st' := [.ref 188]) rfl rfl ?_
                refine wP (ls' := [.ref 188, iv e22]) (st' := [iv e22, .ref 188]) rfl rfl ?_
                refine wIf0 (n1 := 14) rfl bk_71_14 bk_71_13 (by omega) (fun g6 => ?_) (fun g6 => ?_)
                · replace g6 : (e22 : Int) = 0 := g6
                  refine wP (ls' := [.ref 188, iv e22]) (st' := [iv 5, .ref 188]) rfl rfl ?_
                  refine zW_fall bk_71_15 ?_
                  refine wP (ls' := [.ref 188, iv e22]) (st' := [iv 0, iv 5, .ref 188]) rfl rfl ?_
                  refine wCall hk (q := 69) (na := 2) (a := 188) (as := [iv 5, iv 0]) (t := []) rfl (by decide +kernel) (by decide) (by decide +kernel) (Nat.le_of_ble_eq_true rfl) rfl rfl (zRn.mono (h69 hk ⟨by omega, by omega⟩) (fun rv h' hq => ?_))
                  obtain ⟨rfl, rfl⟩ := hq
                  refine ⟨rfl, ?_⟩
                  show zW X _ 71 15 [.goto 2] [.ref 188, iv e22] [] (gH k (gEm M3 5 0)) _
                  refine wGoto (n1 := 2) rfl bk_71_2 ?_
                  have u5 : (M3 188 38).toInt + (c + 1) ≤ (M3 188 26).toInt ∧ gEff M2 M3 0 1 := by
                    rcases u5 with q | ⟨_, q1, _, q2⟩
                    · exact absurd q (by omega)
                    · exact ⟨q1, q2⟩
                  obtain ⟨u5, u6⟩ := u5
                  have h5 : M3 210 (2000 + gMn M3 - 1) = 0 ∧ M3 211 (2000 + gMn M3 - 1) ≠ 0 := by
                    obtain ⟨z1, z2⟩ := hU2 (by omega)
                    obtain ⟨z3, z4⟩ := z2 (by omega)
                    have zn : 2000 + gMn M3 - 1 = 2000 + gMn M2 := by unfold gMn; omega
                    rw [zn, z3, z4]
                    exact ⟨rfl, fun z => by have := congrArg Int32.toInt z; rw [← iE] at this; have z0 : (0 : Int32).toInt = 0 := rfl; omega⟩
                  have ma := gEm_m (M := M3) (w := 5) (v := 0) ⟨by omega, by omega⟩
                  have fe : gEm M3 5 0 188 26 = M3 188 26 := gEm_f (by decide)
                  have fe24 : gEm M3 5 0 188 24 = M3 188 24 := gEm_f (by decide)
                  have ef := ((hE.trans (gEff.of_eq t3 t4 t5) (by omega)).trans u6 (by omega)).trans (gEm_bin (M := M3) (w := 5) (v := 0) ⟨by omega, by omega⟩ (Or.inr (Or.inr (Or.inr (Or.inr (Or.inr (Or.inr (Or.inr (Or.inr ⟨rfl, h5⟩))))))))) (by omega)
                  exact ih (gEm M3 5 0) _ (gEm_ts u1) (((hF.trans t2).trans u2).trans (gEm_fr (by omega))) (by omega) (by rw [fe]; omega) (by rw [fe]; omega) ef (by rw [fe, fe24]; omega)
                · replace g6 : ¬ ((e22 : Int) = 0) := g6
                  refine wP (ls' := [.ref 188, iv e22]) (st' := [iv 4, .ref 188]) rfl rfl ?_
                  refine wGoto (n1 := 15) rfl bk_71_15 ?_
                  refine wP (ls' := [.ref 188, iv e22]) (st' := [iv 0, iv 4, .ref 188]) rfl rfl ?_
                  refine wCall hk (q := 69) (na := 2) (a := 188) (as := [iv 4, iv 0]) (t := []) rfl (by decide +kernel) (by decide) (by decide +kernel) (Nat.le_of_ble_eq_true rfl) rfl rfl (zRn.mono (h69 hk ⟨by omega, by omega⟩) (fun rv h' hq => ?_))
                  obtain ⟨rfl, rfl⟩ := hq
                  refine ⟨rfl, ?_⟩
                  show zW X _ 71 15 [.goto 2] [.ref 188, iv e22] [] (gH k (gEm M3 4 0)) _
                  refine wGoto (n1 := 2) rfl bk_71_2 ?_
                  have u5 : (M3 188 38).toInt + (c + 1) ≤ (M3 188 26).toInt ∧ gEff M2 M3 0 1 := by
                    rcases u5 with q | ⟨_, q1, _, q2⟩
                    · exact absurd q (by omega)
                    · exact ⟨q1, q2⟩
                  obtain ⟨u5, u6⟩ := u5
                  have ma := gEm_m (M := M3) (w := 4) (v := 0) ⟨by omega, by omega⟩
                  have fe : gEm M3 4 0 188 26 = M3 188 26 := gEm_f (by decide)
                  have fe24 : gEm M3 4 0 188 24 = M3 188 24 := gEm_f (by decide)
                  have ef := ((hE.trans (gEff.of_eq t3 t4 t5) (by omega)).trans u6 (by omega)).trans (gEm_bin (M := M3) (w := 4) (v := 0) ⟨by omega, by omega⟩ (by omega)) (by omega)
                  exact ih (gEm M3 4 0) _ (gEm_ts u1) (((hF.trans t2).trans u2).trans (gEm_fr (by omega))) (by omega) (by rw [fe]; omega) (by rw [fe]; omega) ef (by rw [fe, fe24]; omega)
              · replace g5 : ¬ (¬ (e31 : Int) = (-1)) := g5
                refine wP (ls' := [.ref 188, iv e22]) (st' := [iv (-1)]) rfl rfl ?_
                exact wIret (Or.inl (by decide +kernel)) ⟨-1, _, rfl, rfl, u1, (hF.trans t2).trans u2, u3, u4, by omega, Or.inl rfl⟩
            · replace g4 : ¬ (¬ (e22 : Int) = 0) := g4
              refine wP (ls' := [.ref 188, iv e22]) (st' := [.ref 188]) rfl rfl ?_
              refine wGetN hk (f := 28) (e := (M2 188 28).toInt) (by decide +kernel) (iE _) ?_
              refine wIf0 (n1 := 10) rfl bk_71_10 bk_71_9 (by first | exact iG _ | omega) (fun g5 => ?_) (fun g5 => ?_)
              · replace g5 : ¬ ((M2 188 28).toInt : Int) = 0 := g5
                refine wP (ls' := [.ref 188, iv e22]) (st' := [.ref 188]) rfl rfl ?_
                refine wCall hk (q := 70) (na := 0) (a := 188) (as := []) (t := []) rfl (by decide +kernel) (by decide) (by decide +kernel) (Nat.le_of_ble_eq_true rfl) rfl rfl (zRn.mono (h70 hk t1 (c := c + 1) (by omega) (by omega) (by omega)) (fun rv h' hq => ?_))
                obtain ⟨e34, M3, rfl, rfl, hU, hU2⟩ := hq
                obtain ⟨u1, u2, u3, u4, uf, u5⟩ := hU
                obtain ⟨v1, v2, v3, v4, v5⟩ := u1.1
                obtain ⟨w1, w2, w3, w4, w5⟩ := u1.2
                have u24 : (M3 188 24).toInt = (M2 188 24).toInt := by rw [u2.2.2 24 (by decide) (by decide) (by decide) (by decide) (by decide) (by decide) (by decide)]
                have uz : e34 = -1 ∨ (M3 188 38).toInt + (c + 1) ≤ (M3 188 26).toInt := u5.imp id (fun z => z.2.1)
                refine ⟨rfl, ?_⟩
                show zW X _ 71 10 [.bipush (-1), .if_icmp .ne 12] [.ref 188, iv e22] [iv e34] (gH k M3) _
                refine wP (ls' := [.ref 188, iv e22]) (st' := [iv (-1), iv e34]) rfl rfl ?_
                refine wIfc (n1 := 12) rfl bk_71_12 bk_71_11 (by omega) (by omega) (fun g6 => ?_) (fun g6 => ?_)
                · replace g6 : ¬ (e34 : Int) = (-1) := g6
                  refine wP (ls' := [.ref 188, iv e22]) (st' := [.ref 188]) rfl rfl ?_
                  refine wP (ls' := [.ref 188, iv e22]) (st' := [iv e22, .ref 188]) rfl rfl ?_
                  refine wIf0 (n1 := 14) rfl bk_71_14 bk_71_13 (by omega) (fun g7 => ?_) (fun g7 => ?_)
                  · replace g7 : (e22 : Int) = 0 := g7
                    refine wP (ls' := [.ref 188, iv e22]) (st' := [iv 5, .ref 188]) rfl rfl ?_
                    refine zW_fall bk_71_15 ?_
                    refine wP (ls' := [.ref 188, iv e22]) (st' := [iv 0, iv 5, .ref 188]) rfl rfl ?_
                    refine wCall hk (q := 69) (na := 2) (a := 188) (as := [iv 5, iv 0]) (t := []) rfl (by decide +kernel) (by decide) (by decide +kernel) (Nat.le_of_ble_eq_true rfl) rfl rfl (zRn.mono (h69 hk ⟨by omega, by omega⟩) (fun rv h' hq => ?_))
                    obtain ⟨rfl, rfl⟩ := hq
                    refine ⟨rfl, ?_⟩
                    show zW X _ 71 15 [.goto 2] [.ref 188, iv e22] [] (gH k (gEm M3 5 0)) _
                    refine wGoto (n1 := 2) rfl bk_71_2 ?_
                    have u5 : (M3 188 38).toInt + (c + 1) ≤ (M3 188 26).toInt ∧ gEff M2 M3 0 1 := by
                      rcases u5 with q | ⟨_, q1, _, q2⟩
                      · exact absurd q (by omega)
                      · exact ⟨q1, q2⟩
                    obtain ⟨u5, u6⟩ := u5
                    have h5 : M3 210 (2000 + gMn M3 - 1) = 0 ∧ M3 211 (2000 + gMn M3 - 1) ≠ 0 := by
                      obtain ⟨z1, z2⟩ := hU2 (by omega)
                      obtain ⟨z3, z4⟩ := z2 (by omega)
                      have zn : 2000 + gMn M3 - 1 = 2000 + gMn M2 := by unfold gMn; omega
                      rw [zn, z3, z4]
                      exact ⟨rfl, fun z => by have := congrArg Int32.toInt z; rw [← iE] at this; have z0 : (0 : Int32).toInt = 0 := rfl; omega⟩
                    have ma := gEm_m (M := M3) (w := 5) (v := 0) ⟨by omega, by omega⟩
                    have fe : gEm M3 5 0 188 26 = M3 188 26 := gEm_f (by decide)
                    have fe24 : gEm M3 5 0 188 24 = M3 188 24 := gEm_f (by decide)
                    have ef := ((hE.trans (gEff.of_eq t3 t4 t5) (by omega)).trans u6 (by omega)).trans (gEm_bin (M := M3) (w := 5) (v := 0) ⟨by omega, by omega⟩ (Or.inr (Or.inr (Or.inr (Or.inr (Or.inr (Or.inr (Or.inr (Or.inr ⟨rfl, h5⟩))))))))) (by omega)
                    exact ih (gEm M3 5 0) _ (gEm_ts u1) (((hF.trans t2).trans u2).trans (gEm_fr (by omega))) (by omega) (by rw [fe]; omega) (by rw [fe]; omega) ef (by rw [fe, fe24]; omega)
                  · replace g7 : ¬ ((e22 : Int) = 0) := g7
                    refine wP (ls' := [.ref 188, iv e22]) (st' := [iv 4, .ref 188]) rfl rfl ?_
                    refine wGoto (n1 := 15) rfl bk_71_15 ?_
                    refine wP (ls' := [.ref 188, iv e22]) (st' := [iv 0, iv 4, .ref 188]) rfl rfl ?_
                    refine wCall hk (q := 69) (na := 2) (a := 188) (as := [iv 4, iv 0]) (t := []) rfl (by decide +kernel) (by decide) (by decide +kernel) (Nat.le_of_ble_eq_true rfl) rfl rfl (zRn.mono (h69 hk ⟨by omega, by omega⟩) (fun rv h' hq => ?_))
                    obtain ⟨rfl, rfl⟩ := hq
                    refine ⟨rfl, ?_⟩
                    show zW X _ 71 15 [.goto 2] [.ref 188, iv e22] [] (gH k (gEm M3 4 0)) _
                    refine wGoto (n1 := 2) rfl bk_71_2 ?_
                    have u5 : (M3 188 38).toInt + (c + 1) ≤ (M3 188 26).toInt ∧ gEff M2 M3 0 1 := by
                      rcases u5 with q | ⟨_, q1, _, q2⟩
                      · exact absurd q (by omega)
                      · exact ⟨q1, q2⟩
                    obtain ⟨u5, u6⟩ := u5
                    have ma := gEm_m (M := M3) (w := 4) (v := 0) ⟨by omega, by omega⟩
                    have fe : gEm M3 4 0 188 26 = M3 188 26 := gEm_f (by decide)
                    have fe24 : gEm M3 4 0 188 24 = M3 188 24 := gEm_f (by decide)
                    have ef := ((hE.trans (gEff.of_eq t3 t4 t5) (by omega)).trans u6 (by omega)).trans (gEm_bin (M := M3) (w := 4) (v := 0) ⟨by omega, by omega⟩ (by omega)) (by omega)
                    exact ih (gEm M3 4 0) _ (gEm_ts u1) (((hF.trans t2).trans u2).trans (gEm_fr (by omega))) (by omega) (by rw [fe]; omega) (by rw [fe]; omega) ef (by rw [fe, fe24]; omega)
                · replace g6 : ¬ (¬ (e34 : Int) = (-1)) := g6
                  refine wP (ls' := [.ref 188, iv e22]) (st' := [iv (-1)]) rfl rfl ?_
                  exact wIret (Or.inl (by decide +kernel)) ⟨-1, _, rfl, rfl, u1, (hF.trans t2).trans u2, u3, u4, by omega, Or.inl rfl⟩
              · replace g5 : ¬ (¬ ((M2 188 28).toInt : Int) = 0) := g5
                refine wP (ls' := [.ref 188, iv e22]) (st' := [.ref 188]) rfl rfl ?_
                refine wP (ls' := [.ref 188, iv e22]) (st' := [iv 2, .ref 188]) rfl rfl ?_
                refine wCall hk (q := 66) (na := 1) (a := 188) (as := [iv 2]) (t := []) rfl (by decide +kernel) (by decide) (by decide +kernel) (Nat.le_of_ble_eq_true rfl) rfl rfl (zRn.mono (h66 hk) (fun rv h' hq => ?_))
                obtain ⟨rfl, rfl⟩ := hq
                refine ⟨rfl, ?_⟩
                show zW X _ 71 9 [.ireturn] [.ref 188, iv e22] [iv (-1)] (gH k (gFa M2 2)) _
                obtain ⟨f1, f2, f3, f4, f5⟩ := gFa_s (c := 2) t1
                exact wIret (Or.inl (by decide +kernel)) ⟨-1, _, rfl, rfl, f1, (hF.trans t2).trans f2, by rw [f3]; omega, by rw [f3]; omega, by rw [show gFa M2 2 188 26 = M2 188 26 from by unfold gFa; rw [aPut_f (by decide), aPut_f (by decide)]]; omega, Or.inl rfl⟩
          · replace g3 : ¬ (((M2 188 27).toInt : Int) = 3) := g3
            refine wP (ls' := [.ref 188, iv e22]) (st' := [.ref 188]) rfl rfl ?_
            refine wP (ls' := [.ref 188, iv e22]) (st' := [iv 1, .ref 188]) rfl rfl ?_
            refine wCall hk (q := 66) (na := 1) (a := 188) (as := [iv 1]) (t := []) rfl (by decide +kernel) (by decide) (by decide +kernel) (Nat.le_of_ble_eq_true rfl) rfl rfl (zRn.mono (h66 hk) (fun rv h' hq => ?_))
            obtain ⟨rfl, rfl⟩ := hq
            refine ⟨rfl, ?_⟩
            show zW X _ 71 6 [.ireturn] [.ref 188, iv e22] [iv (-1)] (gH k (gFa M2 1)) _
            obtain ⟨f1, f2, f3, f4, f5⟩ := gFa_s (c := 1) t1
            exact wIret (Or.inl (by decide +kernel)) ⟨-1, _, rfl, rfl, f1, (hF.trans t2).trans f2, by rw [f3]; omega, by rw [f3]; omega, by rw [show gFa M2 1 188 26 = M2 188 26 from by unfold gFa; rw [aPut_f (by decide), aPut_f (by decide)]]; omega, Or.inl rfl⟩
theorem h71 {X : aX} {d : Nat} {k : Nat → aK} (hk : gKs k) {M : Nat → Nat → Int32} (hT : gTs M) {c : Int} (hc : 0 ≤ c) (hm0 : 0 ≤ (M 188 38).toInt) (hmc : (M 188 38).toInt + c ≤ (M 188 26).toInt) : zRn X (d + 1 + 1 + 1 + 1 + 1 + 1) 71 [.ref 188] (gH k M) (fun rv h' => ∃ e M', rv = some (iv e) ∧ h' = gH k M' ∧ gDn M M' c e) := by
  have tk := hT.2
  obtain ⟨tk1, tk2, tk3, tk4, tk5, tk6, tk7⟩ := tk
  obtain ⟨tp1, tp2, tp3, tp4, tp5⟩ := hT.1
  refine wEnt (n := 2) (ls := [.ref 188, aD]) bk_71_0 (by decide +kernel) rfl rfl rfl ?_
  refine wP (ls' := [.ref 188, aD]) (st' := [.ref 188]) rfl rfl ?_
  refine wCall hk (q := 70) (na := 0) (a := 188) (as := []) (t := []) rfl (by decide +kernel) (by decide) (by decide +kernel) (Nat.le_of_ble_eq_true rfl) rfl rfl (zRn.mono (h70 hk hT hc hm0 hmc) (fun rv h' hq => ?_))
  obtain ⟨e1, M1, rfl, rfl, hU, hU2⟩ := hq
  obtain ⟨u1, u2, u3, u4, uf, u5⟩ := hU
  refine ⟨rfl, ?_⟩
  show zW X _ 71 0 [.bipush (-1), .if_icmp .ne 2] [.ref 188, aD] [iv e1] (gH k M1) _
  refine wP (ls' := [.ref 188, aD]) (st' := [iv (-1), iv e1]) rfl rfl ?_
  refine wIfc (n1 := 2) rfl bk_71_2 bk_71_1 (by omega) (by omega) (fun g0 => ?_) (fun g0 => ?_)
  · replace g0 : ¬ (e1 : Int) = (-1) := g0
    have u5 : (M1 188 38).toInt + c ≤ (M1 188 26).toInt ∧ (M 188 26).toInt < (M1 188 26).toInt ∧ gEff M M1 0 1 := by
      rcases u5 with q | ⟨_, q1, q2, q3⟩
      · exact absurd q (by omega)
      · exact ⟨q1, q2, q3⟩
    obtain ⟨u5, us, u6⟩ := u5
    exact h71_l hk hc ((M1 188 24).toInt - (M1 188 26).toInt).toNat M1 _ u1 u2 u3 u5 us u6 (by omega)
  · replace g0 : ¬ (¬ (e1 : Int) = (-1)) := g0
    refine wP (ls' := [.ref 188, aD]) (st' := [iv (-1)]) rfl rfl ?_
    exact wIret (Or.inl (by decide +kernel)) ⟨-1, _, rfl, rfl, u1, u2, u3, u4, uf, Or.inl rfl⟩
theorem h72_l {X : aX} {d : Nat} {k : Nat → aK} (hk : gKs k) {M : Nat → Nat → Int32} {c : Int} (hc : 0 ≤ c) :
    ∀ (n : Nat) (M1 : Nat → Nat → Int32) (u1 : Value) (hT : gTs M1) (hF : gFr M M1) (hm0 : 0 ≤ (M1 188 38).toInt) (hmc : (M1 188 38).toInt + c ≤ (M1 188 26).toInt) (hFr : (M 188 26).toInt < (M1 188 26).toInt) (hE : gEff M M1 0 1), (M1 188 24).toInt - (M1 188 26).toInt ≤ n → zW X (d + 1 + 1 + 1 + 1 + 1 + 1) 72 2 [.aload 0, .bipush 43, .invokevirtual 1580068, .ifCond .ne 4] [.ref 188, u1] [] (gH k M1) (fun rv h' => ∃ e M', rv = some (iv e) ∧ h' = gH k M' ∧ gDn M M' c e) := by
  intro n
  induction n with
  | zero =>
    intro M1 u1 hT hF hm0 hmc hFr hE hn
    have tk := hT.2
    obtain ⟨tk1, tk2, tk3, tk4, tk5, tk6, tk7⟩ := tk
    obtain ⟨tp1, tp2, tp3, tp4, tp5⟩ := hT.1
    refine wP (ls' := [.ref 188, u1]) (st' := [.ref 188]) rfl rfl ?_
    refine wP (ls' := [.ref 188, u1]) (st' := [iv 43, .ref 188]) rfl rfl ?_
    refine wCall hk (q := 68) (na := 1) (a := 188) (as := [iv 43]) (t := []) rfl (by decide +kernel) (by decide) (by decide +kernel) (Nat.le_of_ble_eq_true rfl) rfl rfl (zRn.mono (h68 hk (by omega)) (fun rv h' hq => ?_))
    obtain ⟨rfl, e39, rfl, r39⟩ := hq
    refine ⟨rfl, ?_⟩
    show zW X _ 72 2 [.ifCond .ne 4] [.ref 188, u1] [iv e39] (gH k M1) _
    refine wIf0 (n1 := 4) rfl bk_72_4 bk_72_3 (by omega) (fun g0 => ?_) (fun g0 => ?_)
    · replace g0 : ¬ (e39 : Int) = 0 := g0
      exfalso
      omega
    · replace g0 : ¬ (¬ (e39 : Int) = 0) := g0
      refine wP (ls' := [.ref 188, u1]) (st' := [.ref 188]) rfl rfl ?_
      refine wP (ls' := [.ref 188, u1]) (st' := [iv 45, .ref 188]) rfl rfl ?_
      refine wCall hk (q := 68) (na := 1) (a := 188) (as := [iv 45]) (t := []) rfl (by decide +kernel) (by decide) (by decide +kernel) (Nat.le_of_ble_eq_true rfl) rfl rfl (zRn.mono (h68 hk (by omega)) (fun rv h' hq => ?_))
      obtain ⟨rfl, e40, rfl, r40⟩ := hq
      refine ⟨rfl, ?_⟩
      show zW X _ 72 3 [.ifCond .eq 10] [.ref 188, u1] [iv e40] (gH k M1) _
      refine wIf0 (n1 := 10) rfl bk_72_10 bk_72_4 (by omega) (fun g1 => ?_) (fun g1 => ?_)
      · replace g1 : (e40 : Int) = 0 := g1
        refine wP (ls' := [.ref 188, u1]) (st' := [iv 0]) rfl rfl ?_
        exact wIret (Or.inl (by decide +kernel)) ⟨0, _, rfl, rfl, hT, hF, hm0, by omega, by omega, Or.inr ⟨rfl, hmc, hFr, hE⟩⟩
      · replace g1 : ¬ ((e40 : Int) = 0) := g1
        exfalso
        omega
  | succ n ih =>
    intro M1 u1 hT hF hm0 hmc hFr hE hn
    have tk := hT.2
    obtain ⟨tk1, tk2, tk3, tk4, tk5, tk6, tk7⟩ := tk
    obtain ⟨tp1, tp2, tp3, tp4, tp5⟩ := hT.1
    refine wP (ls' := [.ref 188, u1]) (st' := [.ref 188]) rfl rfl ?_
    refine wP (ls' := [.ref 188, u1]) (st' := [iv 43, .ref 188]) rfl rfl ?_
    refine wCall hk (q := 68) (na := 1) (a := 188) (as := [iv 43]) (t := []) rfl (by decide +kernel) (by decide) (by decide +kernel) (Nat.le_of_ble_eq_true rfl) rfl rfl (zRn.mono (h68 hk (by omega)) (fun rv h' hq => ?_))
    obtain ⟨rfl, e41, rfl, r41⟩ := hq
    refine ⟨rfl, ?_⟩
    show zW X _ 72 2 [.ifCond .ne 4] [.ref 188, u1] [iv e41] (gH k M1) _
    refine wIf0 (n1 := 4) rfl bk_72_4 bk_72_3 (by omega) (fun g0 => ?_) (fun g0 => ?_)
    · replace g0 : ¬ (e41 : Int) = 0 := g0
      refine wP (ls' := [.ref 188, u1]) (st' := [.ref 188]) rfl rfl ?_
      refine wGetN hk (f := 28) (e := (M1 188 28).toInt) (by decide +kernel) (iE _) ?_
      refine wP (ls' := [.ref 188, u1]) (st' := [iv 43, iv (M1 188 28).toInt]) rfl rfl ?_
      refine wIfc (n1 := 6) rfl bk_72_6 bk_72_5 (by first | exact iG _ | omega) (by omega) (fun g1 => ?_) (fun g1 => ?_)
      · replace g1 : ¬ ((M1 188 28).toInt : Int) = 43 := g1
        refine wP (ls' := [.ref 188, u1]) (st' := [iv 3]) rfl rfl ?_
        refine zW_fall bk_72_7 ?_
        refine wP (ls' := [.ref 188, iv 3]) (st' := []) rfl rfl ?_
        refine wP (ls' := [.ref 188, iv 3]) (st' := [.ref 188]) rfl rfl ?_
        refine wCall hk (q := 65) (na := 0) (a := 188) (as := []) (t := []) rfl (by decide +kernel) (by decide) (by decide +kernel) (Nat.le_of_ble_eq_true rfl) rfl rfl (zRn.mono (h65p hk hT.1) (fun rv h' hq => ?_))
        obtain ⟨M2, rfl, rfl, hR⟩ := hq
        obtain ⟨t1, t2, t3, t4, t5, t6⟩ := gRd_s hR hT.1
        have tb := t1.2
        obtain ⟨tb1, tb2, tb3, tb4, tb5, tb6, tb7⟩ := tb
        have t24 : (M2 188 24).toInt = (M1 188 24).toInt := by rw [t2.2.2 24 (by decide) (by decide) (by decide) (by decide) (by decide) (by decide) (by decide)]
        have tm : (M2 188 38).toInt = (M1 188 38).toInt := by rw [t3]
        refine ⟨rfl, ?_⟩
        show zW X _ 72 7 [.aload 0, .invokevirtual 1568071, .bipush (-1), .if_icmp .ne 9] [.ref 188, iv 3] [] (gH k M2) _
        refine wP (ls' := [.ref 188, iv 3]) (st' := [.ref 188]) rfl rfl ?_
        refine wCall hk (q := 71) (na := 0) (a := 188) (as := []) (t := []) rfl (by decide +kernel) (by decide) (by decide +kernel) (Nat.le_of_ble_eq_true rfl) rfl rfl (zRn.mono (h71 hk t1 (c := c + 1) (by omega) (by omega) (by omega)) (fun rv h' hq => ?_))
        obtain ⟨e43, M3, rfl, rfl, hU⟩ := hq
        obtain ⟨u1, u2, u3, u4, uf, u5⟩ := hU
        obtain ⟨v1, v2, v3, v4, v5⟩ := u1.1
        obtain ⟨w1, w2, w3, w4, w5⟩ := u1.2
        have u24 : (M3 188 24).toInt = (M2 188 24).toInt := by rw [u2.2.2 24 (by decide) (by decide) (by decide) (by decide) (by decide) (by decide) (by decide)]
        have uz : e43 = -1 ∨ (M3 188 38).toInt + (c + 1) ≤ (M3 188 26).toInt := u5.imp id (fun z => z.2.1)
        refine ⟨rfl, ?_⟩
        show zW X _ 72 7 [.bipush (-1), .if_icmp .ne 9] [.ref 188, iv 3] [iv e43] (gH k M3) _
        refine wP (ls' := [.ref 188, iv 3]) (st' := [iv (-1), iv e43]) rfl rfl ?_
        refine wIfc (n1 := 9) rfl bk_72_9 bk_72_8 (by omega) (by omega) (fun g2 => ?_) (fun g2 => ?_)
        · replace g2 : ¬ (e43 : Int) = (-1) := g2
          refine wP (ls' := [.ref 188, iv 3]) (st' := [.ref 188]) rfl rfl ?_
          refine wP (ls' := [.ref 188, iv 3]) (st' := [iv 3, .ref 188]) rfl rfl ?_
          refine wP (ls' := [.ref 188, iv 3]) (st' := [iv 0, iv 3, .ref 188]) rfl rfl ?_
          refine wCall hk (q := 69) (na := 2) (a := 188) (as := [iv 3, iv 0]) (t := []) rfl (by decide +kernel) (by decide) (by decide +kernel) (Nat.le_of_ble_eq_true rfl) rfl rfl (zRn.mono (h69 hk ⟨by omega, by omega⟩) (fun rv h' hq => ?_))
          obtain ⟨rfl, rfl⟩ := hq
          refine ⟨rfl, ?_⟩
          show zW X _ 72 9 [.goto 2] [.ref 188, iv 3] [] (gH k (gEm M3 3 0)) _
          refine wGoto (n1 := 2) rfl bk_72_2 ?_
          have u5 : (M3 188 38).toInt + (c + 1) ≤ (M3 188 26).toInt ∧ gEff M2 M3 0 1 := by
            rcases u5 with q | ⟨_, q1, _, q2⟩
            · exact absurd q (by omega)
            · exact ⟨q1, q2⟩
          obtain ⟨u5, u6⟩ := u5
          have ma := gEm_m (M := M3) (w := 3) (v := 0) ⟨by omega, by omega⟩
          have fe : gEm M3 3 0 188 26 = M3 188 26 := gEm_f (by decide)
          have fe24 : gEm M3 3 0 188 24 = M3 188 24 := gEm_f (by decide)
          have ef := ((hE.trans (gEff.of_eq t3 t4 t5) (by omega)).trans u6 (by omega)).trans (gEm_bin (M := M3) (w := 3) (v := 0) ⟨by omega, by omega⟩ (by omega)) (by omega)
          exact ih (gEm M3 3 0) _ (gEm_ts u1) (((hF.trans t2).trans u2).trans (gEm_fr (by omega))) (by omega) (by rw [fe]; omega) (by rw [fe]; omega) ef (by rw [fe, fe24]; omega)
        · replace g2 : ¬ (¬ (e43 : Int) = (-1)) := g2
          refine wP (ls' := [.ref 188, iv 3]) (st' := [iv (-1)]) rfl rfl ?_
          exact wIret (Or.inl (by decide +kernel)) ⟨-1, _, rfl, rfl, u1, (hF.trans t2).trans u2, u3, u4, by omega, Or.inl rfl⟩
      · replace g1 : ¬ (¬ ((M1 188 28).toInt : Int) = 43) := g1
        refine wP (ls' := [.ref 188, u1]) (st' := [iv 2]) rfl rfl ?_
        refine wGoto (n1 := 7) rfl bk_72_7 ?_
        refine wP (ls' := [.ref 188, iv 2]) (st' := []) rfl rfl ?_
        refine wP (ls' := [.ref 188, iv 2]) (st' := [.ref 188]) rfl rfl ?_
        refine wCall hk (q := 65) (na := 0) (a := 188) (as := []) (t := []) rfl (by decide +kernel) (by decide) (by decide +kernel) (Nat.le_of_ble_eq_true rfl) rfl rfl (zRn.mono (h65p hk hT.1) (fun rv h' hq => ?_))
        obtain ⟨M2, rfl, rfl, hR⟩ := hq
        obtain ⟨t1, t2, t3, t4, t5, t6⟩ := gRd_s hR hT.1
        have tb := t1.2
        obtain ⟨tb1, tb2, tb3, tb4, tb5, tb6, tb7⟩ := tb
        have t24 : (M2 188 24).toInt = (M1 188 24).toInt := by rw [t2.2.2 24 (by decide) (by decide) (by decide) (by decide) (by decide) (by decide) (by decide)]
        have tm : (M2 188 38).toInt = (M1 188 38).toInt := by rw [t3]
        refine ⟨rfl, ?_⟩
        show zW X _ 72 7 [.aload 0, .invokevirtual 1568071, .bipush (-1), .if_icmp .ne 9] [.ref 188, iv 2] [] (gH k M2) _
        refine wP (ls' := [.ref 188, iv 2]) (st' := [.ref 188]) rfl rfl ?_
        refine wCall hk (q := 71) (na := 0) (a := 188) (as := []) (t := []) rfl (by decide +kernel) (by decide) (by decide +kernel) (Nat.le_of_ble_eq_true rfl) rfl rfl (zRn.mono (h71 hk t1 (c := c + 1) (by omega) (by omega) (by omega)) (fun rv h' hq => ?_))
        obtain ⟨e46, M3, rfl, rfl, hU⟩ := hq
        obtain ⟨u1, u2, u3, u4, uf, u5⟩ := hU
        obtain ⟨v1, v2, v3, v4, v5⟩ := u1.1
        obtain ⟨w1, w2, w3, w4, w5⟩ := u1.2
        have u24 : (M3 188 24).toInt = (M2 188 24).toInt := by rw [u2.2.2 24 (by decide) (by decide) (by decide) (by decide) (by decide) (by decide) (by decide)]
        have uz : e46 = -1 ∨ (M3 188 38).toInt + (c + 1) ≤ (M3 188 26).toInt := u5.imp id (fun z => z.2.1)
        refine ⟨rfl, ?_⟩
        show zW X _ 72 7 [.bipush (-1), .if_icmp .ne 9] [.ref 188, iv 2] [iv e46] (gH k M3) _
        refine wP (ls' := [.ref 188, iv 2]) (st' := [iv (-1), iv e46]) rfl rfl ?_
        refine wIfc (n1 := 9) rfl bk_72_9 bk_72_8 (by omega) (by omega) (fun g2 => ?_) (fun g2 => ?_)
        · replace g2 : ¬ (e46 : Int) = (-1) := g2
          refine wP (ls' := [.ref 188, iv 2]) (st' := [.ref 188]) rfl rfl ?_
          refine wP (ls' := [.ref 188, iv 2]) (st' := [iv 2, .ref 188]) rfl rfl ?_
          refine wP (ls' := [.ref 188, iv 2]) (st' := [iv 0, iv 2, .ref 188]) rfl rfl ?_
          refine wCall hk (q := 69) (na := 2) (a := 188) (as := [iv 2, iv 0]) (t := []) rfl (by decide +kernel) (by decide) (by decide +kernel) (Nat.le_of_ble_eq_true rfl) rfl rfl (zRn.mono (h69 hk ⟨by omega, by omega⟩) (fun rv h' hq => ?_))
          obtain ⟨rfl, rfl⟩ := hq
          refine ⟨rfl, ?_⟩
          show zW X _ 72 9 [.goto 2] [.ref 188, iv 2] [] (gH k (gEm M3 2 0)) _
          refine wGoto (n1 := 2) rfl bk_72_2 ?_
          have u5 : (M3 188 38).toInt + (c + 1) ≤ (M3 188 26).toInt ∧ gEff M2 M3 0 1 := by
            rcases u5 with q | ⟨_, q1, _, q2⟩
            · exact absurd q (by omega)
            · exact ⟨q1, q2⟩
          obtain ⟨u5, u6⟩ := u5
          have ma := gEm_m (M := M3) (w := 2) (v := 0) ⟨by omega, by omega⟩
          have fe : gEm M3 2 0 188 26 = M3 188 26 := gEm_f (by decide)
          have fe24 : gEm M3 2 0 188 24 = M3 188 24 := gEm_f (by decide)
          have ef := ((hE.trans (gEff.of_eq t3 t4 t5) (by omega)).trans u6 (by omega)).trans (gEm_bin (M := M3) (w := 2) (v := 0) ⟨by omega, by omega⟩ (by omega)) (by omega)
          exact ih (gEm M3 2 0) _ (gEm_ts u1) (((hF.trans t2).trans u2).trans (gEm_fr (by omega))) (by omega) (by rw [fe]; omega) (by rw [fe]; omega) ef (by rw [fe, fe24]; omega)
        · replace g2 : ¬ (¬ (e46 : Int) = (-1)) := g2
          refine wP (ls' := [.ref 188, iv 2]) (st' := [iv (-1)]) rfl rfl ?_
          exact wIret (Or.inl (by decide +kernel)) ⟨-1, _, rfl, rfl, u1, (hF.trans t2).trans u2, u3, u4, by omega, Or.inl rfl⟩
    · replace g0 : ¬ (¬ (e41 : Int) = 0) := g0
      refine wP (ls' := [.ref 188, u1]) (st' := [.ref 188]) rfl rfl ?_
      refine wP (ls' := [.ref 188, u1]) (st' := [iv 45, .ref 188]) rfl rfl ?_
      refine wCall hk (q := 68) (na := 1) (a := 188) (as := [iv 45]) (t := []) rfl (by decide +kernel) (by decide) (by decide +kernel) (Nat.le_of_ble_eq_true rfl) rfl rfl (zRn.mono (h68 hk (by omega)) (fun rv h' hq => ?_))
      obtain ⟨rfl, e48, rfl, r48⟩ := hq
      refine ⟨rfl, ?_⟩
      show zW X _ 72 3 [.ifCond .eq 10] [.ref 188, u1] [iv e48] (gH k M1) _
      refine wIf0 (n1 := 10) rfl bk_72_10 bk_72_4 (by omega) (fun g1 => ?_) (fun g1 => ?_)
      · replace g1 : (e48 : Int) = 0 := g1
        refine wP (ls' := [.ref 188, u1]) (st' := [iv 0]) rfl rfl ?_
        exact wIret (Or.inl (by decide +kernel)) ⟨0, _, rfl, rfl, hT, hF, hm0, by omega, by omega, Or.inr ⟨rfl, hmc, hFr, hE⟩⟩
      · replace g1 : ¬ ((e48 : Int) = 0) := g1
        refine wP (ls' := [.ref 188, u1]) (st' := [.ref 188]) rfl rfl ?_
        refine wGetN hk (f := 28) (e := (M1 188 28).toInt) (by decide +kernel) (iE _) ?_
        refine wP (ls' := [.ref 188, u1]) (st' := [iv 43, iv (M1 188 28).toInt]) rfl rfl ?_
        refine wIfc (n1 := 6) rfl bk_72_6 bk_72_5 (by first | exact iG _ | omega) (by omega) (fun g2 => ?_) (fun g2 => ?_)
        · replace g2 : ¬ ((M1 188 28).toInt : Int) = 43 := g2
          refine wP (ls' := [.ref 188, u1]) (st' := [iv 3]) rfl rfl ?_
          refine zW_fall bk_72_7 ?_
          refine wP (ls' := [.ref 188, iv 3]) (st' := []) rfl rfl ?_
          refine wP (ls' := [.ref 188, iv 3]) (st' := [.ref 188]) rfl rfl ?_
          refine wCall hk (q := 65) (na := 0) (a := 188) (as := []) (t := []) rfl (by decide +kernel) (by decide) (by decide +kernel) (Nat.le_of_ble_eq_true rfl) rfl rfl (zRn.mono (h65p hk hT.1) (fun rv h' hq => ?_))
          obtain ⟨M2, rfl, rfl, hR⟩ := hq
          obtain ⟨t1, t2, t3, t4, t5, t6⟩ := gRd_s hR hT.1
          have tb := t1.2
          obtain ⟨tb1, tb2, tb3, tb4, tb5, tb6, tb7⟩ := tb
          have t24 : (M2 188 24).toInt = (M1 188 24).toInt := by rw [t2.2.2 24 (by decide) (by decide) (by decide) (by decide) (by decide) (by decide) (by decide)]
          have tm : (M2 188 38).toInt = (M1 188 38).toInt := by rw [t3]
          refine ⟨rfl, ?_⟩
          show zW X _ 72 7 [.aload 0, .invokevirtual 1568071, .bipush (-1), .if_icmp .ne 9] [.ref 188, iv 3] [] (gH k M2) _
          refine wP (ls' := [.ref 188, iv 3]) (st' := [.ref 188]) rfl rfl ?_
          refine wCall hk (q := 71) (na := 0) (a := 188) (as := []) (t := []) rfl (by decide +kernel) (by decide) (by decide +kernel) (Nat.le_of_ble_eq_true rfl) rfl rfl (zRn.mono (h71 hk t1 (c := c + 1) (by omega) (by omega) (by omega)) (fun rv h' hq => ?_))
          obtain ⟨e50, M3, rfl, rfl, hU⟩ := hq
          obtain ⟨u1, u2, u3, u4, uf, u5⟩ := hU
          obtain ⟨v1, v2, v3, v4, v5⟩ := u1.1
          obtain ⟨w1, w2, w3, w4, w5⟩ := u1.2
          have u24 : (M3 188 24).toInt = (M2 188 24).toInt := by rw [u2.2.2 24 (by decide) (by decide) (by decide) (by decide) (by decide) (by decide) (by decide)]
          have uz : e50 = -1 ∨ (M3 188 38).toInt + (c + 1) ≤ (M3 188 26).toInt := u5.imp id (fun z => z.2.1)
          refine ⟨rfl, ?_⟩
          show zW X _ 72 7 [.bipush (-1), .if_icmp .ne 9] [.ref 188, iv 3] [iv e50] (gH k M3) _
          refine wP (ls' := [.ref 188, iv 3]) (st' := [iv (-1), iv e50]) rfl rfl ?_
          refine wIfc (n1 := 9) rfl bk_72_9 bk_72_8 (by omega) (by omega) (fun g3 => ?_) (fun g3 => ?_)
          · replace g3 : ¬ (e50 : Int) = (-1) := g3
            refine wP (ls' := [.ref 188, iv 3]) (st' := [.ref 188]) rfl rfl ?_
            refine wP (ls' := [.ref 188, iv 3]) (st' := [iv 3, .ref 188]) rfl rfl ?_
            refine wP (ls' := [.ref 188, iv 3]) (st' := [iv 0, iv 3, .ref 188]) rfl rfl ?_
            refine wCall hk (q := 69) (na := 2) (a := 188) (as := [iv 3, iv 0]) (t := []) rfl (by decide +kernel) (by decide) (by decide +kernel) (Nat.le_of_ble_eq_true rfl) rfl rfl (zRn.mono (h69 hk ⟨by omega, by omega⟩) (fun rv h' hq => ?_))
            obtain ⟨rfl, rfl⟩ := hq
            refine ⟨rfl, ?_⟩
            show zW X _ 72 9 [.goto 2] [.ref 188, iv 3] [] (gH k (gEm M3 3 0)) _
            refine wGoto (n1 := 2) rfl bk_72_2 ?_
            have u5 : (M3 188 38).toInt + (c + 1) ≤ (M3 188 26).toInt ∧ gEff M2 M3 0 1 := by
              rcases u5 with q | ⟨_, q1, _, q2⟩
              · exact absurd q (by omega)
              · exact ⟨q1, q2⟩
            obtain ⟨u5, u6⟩ := u5
            have ma := gEm_m (M := M3) (w := 3) (v := 0) ⟨by omega, by omega⟩
            have fe : gEm M3 3 0 188 26 = M3 188 26 := gEm_f (by decide)
            have fe24 : gEm M3 3 0 188 24 = M3 188 24 := gEm_f (by decide)
            have ef := ((hE.trans (gEff.of_eq t3 t4 t5) (by omega)).trans u6 (by omega)).trans (gEm_bin (M := M3) (w := 3) (v := 0) ⟨by omega, by omega⟩ (by omega)) (by omega)
            exact ih (gEm M3 3 0) _ (gEm_ts u1) (((hF.trans t2).trans u2).trans (gEm_fr (by omega))) (by omega) (by rw [fe]; omega) (by rw [fe]; omega) ef (by rw [fe, fe24]; omega)
          · replace g3 : ¬ (¬ (e50 : Int) = (-1)) := g3
            refine wP (ls' := [.ref 188, iv 3]) (st' := [iv (-1)]) rfl rfl ?_
            exact wIret (Or.inl (by decide +kernel)) ⟨-1, _, rfl, rfl, u1, (hF.trans t2).trans u2, u3, u4, by omega, Or.inl rfl⟩
        · replace g2 : ¬ (¬ ((M1 188 28).toInt : Int) = 43) := g2
          refine wP (ls' := [.ref 188, u1]) (st' := [iv 2]) rfl rfl ?_
          refine wGoto (n1 := 7) rfl bk_72_7 ?_
          refine wP (ls' := [.ref 188, iv 2]) (st' := []) rfl rfl ?_
          refine wP (ls' := [.ref 188, iv 2]) (st' := [.ref 188]) rfl rfl ?_
          refine wCall hk (q := 65) (na := 0) (a := 188) (as := []) (t := []) rfl (by decide +kernel) (by decide) (by decide +kernel) (Nat.le_of_ble_eq_true rfl) rfl rfl (zRn.mono (h65p hk hT.1) (fun rv h' hq => ?_))
          obtain ⟨M2, rfl, rfl, hR⟩ := hq
          obtain ⟨t1, t2, t3, t4, t5, t6⟩ := gRd_s hR hT.1
          have tb := t1.2
          obtain ⟨tb1, tb2, tb3, tb4, tb5, tb6, tb7⟩ := tb
          have t24 : (M2 188 24).toInt = (M1 188 24).toInt := by rw [t2.2.2 24 (by decide) (by decide) (by decide) (by decide) (by decide) (by decide) (by decide)]
          have tm : (M2 188 38).toInt = (M1 188 38).toInt := by rw [t3]
          refine ⟨rfl, ?_⟩
          show zW X _ 72 7 [.aload 0, .invokevirtual 1568071, .bipush (-1), .if_icmp .ne 9] [.ref 188, iv 2] [] (gH k M2) _
          refine wP (ls' := [.ref 188, iv 2]) (st' := [.ref 188]) rfl rfl ?_
          refine wCall hk (q := 71) (na := 0) (a := 188) (as := []) (t := []) rfl (by decide +kernel) (by decide) (by decide +kernel) (Nat.le_of_ble_eq_true rfl) rfl rfl (zRn.mono (h71 hk t1 (c := c + 1) (by omega) (by omega) (by omega)) (fun rv h' hq => ?_))
          obtain ⟨e53, M3, rfl, rfl, hU⟩ := hq
          obtain ⟨u1, u2, u3, u4, uf, u5⟩ := hU
          obtain ⟨v1, v2, v3, v4, v5⟩ := u1.1
          obtain ⟨w1, w2, w3, w4, w5⟩ := u1.2
          have u24 : (M3 188 24).toInt = (M2 188 24).toInt := by rw [u2.2.2 24 (by decide) (by decide) (by decide) (by decide) (by decide) (by decide) (by decide)]
          have uz : e53 = -1 ∨ (M3 188 38).toInt + (c + 1) ≤ (M3 188 26).toInt := u5.imp id (fun z => z.2.1)
          refine ⟨rfl, ?_⟩
          show zW X _ 72 7 [.bipush (-1), .if_icmp .ne 9] [.ref 188, iv 2] [iv e53] (gH k M3) _
          refine wP (ls' := [.ref 188, iv 2]) (st' := [iv (-1), iv e53]) rfl rfl ?_
          refine wIfc (n1 := 9) rfl bk_72_9 bk_72_8 (by omega) (by omega) (fun g3 => ?_) (fun g3 => ?_)
          · replace g3 : ¬ (e53 : Int) = (-1) := g3
            refine wP (ls' := [.ref 188, iv 2]) (st' := [.ref 188]) rfl rfl ?_
            refine wP (ls' := [.ref 188, iv 2]) (st' := [iv 2, .ref 188]) rfl rfl ?_
            refine wP (ls' := [.ref 188, iv 2]) (st' := [iv 0, iv 2, .ref 188]) rfl rfl ?_
            refine wCall hk (q := 69) (na := 2) (a := 188) (as := [iv 2, iv 0]) (t := []) rfl (by decide +kernel) (by decide) (by decide +kernel) (Nat.le_of_ble_eq_true rfl) rfl rfl (zRn.mono (h69 hk ⟨by omega, by omega⟩) (fun rv h' hq => ?_))
            obtain ⟨rfl, rfl⟩ := hq
            refine ⟨rfl, ?_⟩
            show zW X _ 72 9 [.goto 2] [.ref 188, iv 2] [] (gH k (gEm M3 2 0)) _
            refine wGoto (n1 := 2) rfl bk_72_2 ?_
            have u5 : (M3 188 38).toInt + (c + 1) ≤ (M3 188 26).toInt ∧ gEff M2 M3 0 1 := by
              rcases u5 with q | ⟨_, q1, _, q2⟩
              · exact absurd q (by omega)
              · exact ⟨q1, q2⟩
            obtain ⟨u5, u6⟩ := u5
            have ma := gEm_m (M := M3) (w := 2) (v := 0) ⟨by omega, by omega⟩
            have fe : gEm M3 2 0 188 26 = M3 188 26 := gEm_f (by decide)
            have fe24 : gEm M3 2 0 188 24 = M3 188 24 := gEm_f (by decide)
            have ef := ((hE.trans (gEff.of_eq t3 t4 t5) (by omega)).trans u6 (by omega)).trans (gEm_bin (M := M3) (w := 2) (v := 0) ⟨by omega, by omega⟩ (by omega)) (by omega)
            exact ih (gEm M3 2 0) _ (gEm_ts u1) (((hF.trans t2).trans u2).trans (gEm_fr (by omega))) (by omega) (by rw [fe]; omega) (by rw [fe]; omega) ef (by rw [fe, fe24]; omega)
          · replace g3 : ¬ (¬ (e53 : Int) = (-1)) := g3
            refine wP (ls' := [.ref 188, iv 2]) (st' := [iv (-1)]) rfl rfl ?_
            exact wIret (Or.inl (by decide +kernel)) ⟨-1, _, rfl, rfl, u1, (hF.trans t2).trans u2, u3, u4, by omega, Or.inl rfl⟩
theorem h72 {X : aX} {d : Nat} {k : Nat → aK} (hk : gKs k) {M : Nat → Nat → Int32} (hT : gTs M) {c : Int} (hc : 0 ≤ c) (hm0 : 0 ≤ (M 188 38).toInt) (hmc : (M 188 38).toInt + c ≤ (M 188 26).toInt) : zRn X (d + 1 + 1 + 1 + 1 + 1 + 1 + 1) 72 [.ref 188] (gH k M) (fun rv h' => ∃ e M', rv = some (iv e) ∧ h' = gH k M' ∧ gDn M M' c e) := by
  have tk := hT.2
  obtain ⟨tk1, tk2, tk3, tk4, tk5, tk6, tk7⟩ := tk
  obtain ⟨tp1, tp2, tp3, tp4, tp5⟩ := hT.1
  refine wEnt (n := 2) (ls := [.ref 188, aD]) bk_72_0 (by decide +kernel) rfl rfl rfl ?_
  refine wP (ls' := [.ref 188, aD]) (st' := [.ref 188]) rfl rfl ?_
  refine wCall hk (q := 71) (na := 0) (a := 188) (as := []) (t := []) rfl (by decide +kernel) (by decide) (by decide +kernel) (Nat.le_of_ble_eq_true rfl) rfl rfl (zRn.mono (h71 hk hT hc hm0 hmc) (fun rv h' hq => ?_))
  obtain ⟨e1, M1, rfl, rfl, hU⟩ := hq
  obtain ⟨u1, u2, u3, u4, uf, u5⟩ := hU
  refine ⟨rfl, ?_⟩
  show zW X _ 72 0 [.bipush (-1), .if_icmp .ne 2] [.ref 188, aD] [iv e1] (gH k M1) _
  refine wP (ls' := [.ref 188, aD]) (st' := [iv (-1), iv e1]) rfl rfl ?_
  refine wIfc (n1 := 2) rfl bk_72_2 bk_72_1 (by omega) (by omega) (fun g0 => ?_) (fun g0 => ?_)
  · replace g0 : ¬ (e1 : Int) = (-1) := g0
    have u5 : (M1 188 38).toInt + c ≤ (M1 188 26).toInt ∧ (M 188 26).toInt < (M1 188 26).toInt ∧ gEff M M1 0 1 := by
      rcases u5 with q | ⟨_, q1, q2, q3⟩
      · exact absurd q (by omega)
      · exact ⟨q1, q2, q3⟩
    obtain ⟨u5, us, u6⟩ := u5
    exact h72_l hk hc ((M1 188 24).toInt - (M1 188 26).toInt).toNat M1 _ u1 u2 u3 u5 us u6 (by omega)
  · replace g0 : ¬ (¬ (e1 : Int) = (-1)) := g0
    refine wP (ls' := [.ref 188, aD]) (st' := [iv (-1)]) rfl rfl ?_
    exact wIret (Or.inl (by decide +kernel)) ⟨-1, _, rfl, rfl, u1, u2, u3, u4, uf, Or.inl rfl⟩
theorem h73 {X : aX} {d : Nat} {k : Nat → aK} (hk : gKs k) {M : Nat → Nat → Int32} (hT : gTs M) {c : Int} (hc : 0 ≤ c) (hm0 : 0 ≤ (M 188 38).toInt) (hmc : (M 188 38).toInt + c ≤ (M 188 26).toInt) : zRn X (d + 1 + 1 + 1 + 1 + 1 + 1 + 1 + 1) 73 [.ref 188] (gH k M) (fun rv h' => ∃ e M', rv = some (iv e) ∧ h' = gH k M' ∧ gDn M M' c e) := by
  have tk := hT.2
  obtain ⟨tk1, tk2, tk3, tk4, tk5, tk6, tk7⟩ := tk
  obtain ⟨tp1, tp2, tp3, tp4, tp5⟩ := hT.1
  refine wEnt (n := 2) (ls := [.ref 188, aD]) bk_73_0 (by decide +kernel) rfl rfl rfl ?_
  refine wP (ls' := [.ref 188, aD]) (st' := [.ref 188]) rfl rfl ?_
  refine wCall hk (q := 72) (na := 0) (a := 188) (as := []) (t := []) rfl (by decide +kernel) (by decide) (by decide +kernel) (Nat.le_of_ble_eq_true rfl) rfl rfl (zRn.mono (h72 hk hT hc hm0 hmc) (fun rv h' hq => ?_))
  obtain ⟨e55, M1, rfl, rfl, hU⟩ := hq
  obtain ⟨u1, u2, u3, u4, uf, u5⟩ := hU
  obtain ⟨v1, v2, v3, v4, v5⟩ := u1.1
  obtain ⟨w1, w2, w3, w4, w5, w6, w7⟩ := u1.2
  have uz : e55 = -1 ∨ (M1 188 38).toInt + c ≤ (M1 188 26).toInt ∧ (M 188 26).toInt < (M1 188 26).toInt := u5.imp id (fun z => ⟨z.2.1, z.2.2.1⟩)
  refine ⟨rfl, ?_⟩
  show zW X _ 73 0 [.bipush (-1), .if_icmp .ne 2] [.ref 188, aD] [iv e55] (gH k M1) _
  refine wP (ls' := [.ref 188, aD]) (st' := [iv (-1), iv e55]) rfl rfl ?_
  refine wIfc (n1 := 2) rfl bk_73_2 bk_73_1 (by omega) (by omega) (fun g0 => ?_) (fun g0 => ?_)
  · replace g0 : ¬ (e55 : Int) = (-1) := g0
    refine wP (ls' := [.ref 188, aD]) (st' := [.ref 188]) rfl rfl ?_
    refine wP (ls' := [.ref 188, aD]) (st' := [iv 60, .ref 188]) rfl rfl ?_
    refine wCall hk (q := 68) (na := 1) (a := 188) (as := [iv 60]) (t := []) rfl (by decide +kernel) (by decide) (by decide +kernel) (Nat.le_of_ble_eq_true rfl) rfl rfl (zRn.mono (h68 hk (by omega)) (fun rv h' hq => ?_))
    obtain ⟨rfl, e56, rfl, r56⟩ := hq
    refine ⟨rfl, ?_⟩
    show zW X _ 73 2 [.ifCond .ne 6] [.ref 188, aD] [iv e56] (gH k M1) _
    refine wIf0 (n1 := 6) rfl bk_73_6 bk_73_3 (by omega) (fun g1 => ?_) (fun g1 => ?_)
    · replace g1 : ¬ (e56 : Int) = 0 := g1
      refine wP (ls' := [.ref 188, aD]) (st' := [.ref 188]) rfl rfl ?_
      refine wGetN hk (f := 28) (e := (M1 188 28).toInt) (by decide +kernel) (iE _) ?_
      refine wP (ls' := [.ref 188, aD]) (st' := [iv 60, iv (M1 188 28).toInt]) rfl rfl ?_
      refine wIfc (n1 := 8) rfl bk_73_8 bk_73_7 (by first | exact iG _ | omega) (by omega) (fun g2 => ?_) (fun g2 => ?_)
      · replace g2 : ¬ ((M1 188 28).toInt : Int) = 60 := g2
        refine wP (ls' := [.ref 188, aD]) (st' := [.ref 188]) rfl rfl ?_
        refine wGetN hk (f := 28) (e := (M1 188 28).toInt) (by decide +kernel) (iE _) ?_
        refine wP (ls' := [.ref 188, aD]) (st' := [iv 61, iv (M1 188 28).toInt]) rfl rfl ?_
        refine wIfc (n1 := 10) rfl bk_73_10 bk_73_9 (by first | exact iG _ | omega) (by omega) (fun g3 => ?_) (fun g3 => ?_)
        · replace g3 : ¬ ((M1 188 28).toInt : Int) = 61 := g3
          refine wP (ls' := [.ref 188, aD]) (st' := [iv 8]) rfl rfl ?_
          refine zW_fall bk_73_11 ?_
          refine wP (ls' := [.ref 188, iv 8]) (st' := []) rfl rfl ?_
          refine wP (ls' := [.ref 188, iv 8]) (st' := [.ref 188]) rfl rfl ?_
          refine wCall hk (q := 65) (na := 0) (a := 188) (as := []) (t := []) rfl (by decide +kernel) (by decide) (by decide +kernel) (Nat.le_of_ble_eq_true rfl) rfl rfl (zRn.mono (h65p hk u1.1) (fun rv h' hq => ?_))
          obtain ⟨M2, rfl, rfl, hR⟩ := hq
          obtain ⟨t1, t2, t3, t4, t5, t6⟩ := gRd_s hR u1.1
          have tb := t1.2
          obtain ⟨tb1, tb2, tb3, tb4, tb5, tb6, tb7⟩ := tb
          have tm : (M2 188 38).toInt = (M1 188 38).toInt := by rw [t3]
          refine ⟨rfl, ?_⟩
          show zW X _ 73 11 [.aload 0, .invokevirtual 1564072, .bipush (-1), .if_icmp .ne 13] [.ref 188, iv 8] [] (gH k M2) _
          refine wP (ls' := [.ref 188, iv 8]) (st' := [.ref 188]) rfl rfl ?_
          refine wCall hk (q := 72) (na := 0) (a := 188) (as := []) (t := []) rfl (by decide +kernel) (by decide) (by decide +kernel) (Nat.le_of_ble_eq_true rfl) rfl rfl (zRn.mono (h72 hk t1 (c := c + 1) (by omega) (by omega) (by omega)) (fun rv h' hq => ?_))
          obtain ⟨e58, M3, rfl, rfl, hU3⟩ := hq
          obtain ⟨x1, x2, x3, x4, xf, x5⟩ := hU3
          obtain ⟨y1, y2, y3, y4, y5⟩ := x1.1
          obtain ⟨z1, z2, z3, z4, z5⟩ := x1.2
          have xz : e58 = -1 ∨ (M3 188 38).toInt + (c + 1) ≤ (M3 188 26).toInt := x5.imp id (fun z => z.2.1)
          refine ⟨rfl, ?_⟩
          show zW X _ 73 11 [.bipush (-1), .if_icmp .ne 13] [.ref 188, iv 8] [iv e58] (gH k M3) _
          refine wP (ls' := [.ref 188, iv 8]) (st' := [iv (-1), iv e58]) rfl rfl ?_
          refine wIfc (n1 := 13) rfl bk_73_13 bk_73_12 (by omega) (by omega) (fun g4 => ?_) (fun g4 => ?_)
          · replace g4 : ¬ (e58 : Int) = (-1) := g4
            refine wP (ls' := [.ref 188, iv 8]) (st' := [.ref 188]) rfl rfl ?_
            refine wP (ls' := [.ref 188, iv 8]) (st' := [iv 8, .ref 188]) rfl rfl ?_
            refine wP (ls' := [.ref 188, iv 8]) (st' := [iv 0, iv 8, .ref 188]) rfl rfl ?_
            refine wCall hk (q := 69) (na := 2) (a := 188) (as := [iv 8, iv 0]) (t := []) rfl (by decide +kernel) (by decide) (by decide +kernel) (Nat.le_of_ble_eq_true rfl) rfl rfl (zRn.mono (h69 hk ⟨by omega, by omega⟩) (fun rv h' hq => ?_))
            obtain ⟨rfl, rfl⟩ := hq
            refine ⟨rfl, ?_⟩
            show zW X _ 73 13 [.bipush 0, .ireturn] [.ref 188, iv 8] [] (gH k (gEm M3 8 0)) _
            refine wP (ls' := [.ref 188, iv 8]) (st' := [iv 0]) rfl rfl ?_
            have u6 : gEff M M1 0 1 := by
              rcases u5 with q | ⟨_, _, _, q3⟩
              · exact absurd q (by omega)
              · exact q3
            have x6 : (M3 188 38).toInt + (c + 1) ≤ (M3 188 26).toInt ∧ gEff M2 M3 0 1 := by
              rcases x5 with q | ⟨_, q1, _, q3⟩
              · exact absurd q (by omega)
              · exact ⟨q1, q3⟩
            obtain ⟨x6, x7⟩ := x6
            have ma := gEm_m (M := M3) (w := 8) (v := 0) ⟨by omega, by omega⟩
            have fe : gEm M3 8 0 188 26 = M3 188 26 := gEm_f (by decide)
            have ef := ((u6.trans (gEff.of_eq t3 t4 t5) (by omega)).trans x7 (by omega)).trans (gEm_bin (M := M3) (w := 8) (v := 0) ⟨by omega, by omega⟩ (by omega)) (by omega)
            exact wIret (Or.inl (by decide +kernel)) ⟨0, _, rfl, rfl, gEm_ts x1, ((u2.trans t2).trans x2).trans (gEm_fr (by omega)), by omega, by omega, by rw [fe]; omega, Or.inr ⟨rfl, by rw [fe]; omega, by rw [fe]; omega, ef⟩⟩
          · replace g4 : ¬ (¬ (e58 : Int) = (-1)) := g4
            refine wP (ls' := [.ref 188, iv 8]) (st' := [iv (-1)]) rfl rfl ?_
            exact wIret (Or.inl (by decide +kernel)) ⟨-1, _, rfl, rfl, x1, (u2.trans t2).trans x2, x3, x4, by omega, Or.inl rfl⟩
        · replace g3 : ¬ (¬ ((M1 188 28).toInt : Int) = 61) := g3
          refine wP (ls' := [.ref 188, aD]) (st' := [iv 7]) rfl rfl ?_
          refine wGoto (n1 := 11) rfl bk_73_11 ?_
          refine wP (ls' := [.ref 188, iv 7]) (st' := []) rfl rfl ?_
          refine wP (ls' := [.ref 188, iv 7]) (st' := [.ref 188]) rfl rfl ?_
          refine wCall hk (q := 65) (na := 0) (a := 188) (as := []) (t := []) rfl (by decide +kernel) (by decide) (by decide +kernel) (Nat.le_of_ble_eq_true rfl) rfl rfl (zRn.mono (h65p hk u1.1) (fun rv h' hq => ?_))
          obtain ⟨M2, rfl, rfl, hR⟩ := hq
          obtain ⟨t1, t2, t3, t4, t5, t6⟩ := gRd_s hR u1.1
          have tb := t1.2
          obtain ⟨tb1, tb2, tb3, tb4, tb5, tb6, tb7⟩ := tb
          have tm : (M2 188 38).toInt = (M1 188 38).toInt := by rw [t3]
          refine ⟨rfl, ?_⟩
          show zW X _ 73 11 [.aload 0, .invokevirtual 1564072, .bipush (-1), .if_icmp .ne 13] [.ref 188, iv 7] [] (gH k M2) _
          refine wP (ls' := [.ref 188, iv 7]) (st' := [.ref 188]) rfl rfl ?_
          refine wCall hk (q := 72) (na := 0) (a := 188) (as := []) (t := []) rfl (by decide +kernel) (by decide) (by decide +kernel) (Nat.le_of_ble_eq_true rfl) rfl rfl (zRn.mono (h72 hk t1 (c := c + 1) (by omega) (by omega) (by omega)) (fun rv h' hq => ?_))
          obtain ⟨e61, M3, rfl, rfl, hU3⟩ := hq
          obtain ⟨x1, x2, x3, x4, xf, x5⟩ := hU3
          obtain ⟨y1, y2, y3, y4, y5⟩ := x1.1
          obtain ⟨z1, z2, z3, z4, z5⟩ := x1.2
          have xz : e61 = -1 ∨ (M3 188 38).toInt + (c + 1) ≤ (M3 188 26).toInt := x5.imp id (fun z => z.2.1)
          refine ⟨rfl, ?_⟩
          show zW X _ 73 11 [.bipush (-1), .if_icmp .ne 13] [.ref 188, iv 7] [iv e61] (gH k M3) _
          refine wP (ls' := [.ref 188, iv 7]) (st' := [iv (-1), iv e61]) rfl rfl ?_
          refine wIfc (n1 := 13) rfl bk_73_13 bk_73_12 (by omega) (by omega) (fun g4 => ?_) (fun g4 => ?_)
          · replace g4 : ¬ (e61 : Int) = (-1) := g4
            refine wP (ls' := [.ref 188, iv 7]) (st' := [.ref 188]) rfl rfl ?_
            refine wP (ls' := [.ref 188, iv 7]) (st' := [iv 7, .ref 188]) rfl rfl ?_
            refine wP (ls' := [.ref 188, iv 7]) (st' := [iv 0, iv 7, .ref 188]) rfl rfl ?_
            refine wCall hk (q := 69) (na := 2) (a := 188) (as := [iv 7, iv 0]) (t := []) rfl (by decide +kernel) (by decide) (by decide +kernel) (Nat.le_of_ble_eq_true rfl) rfl rfl (zRn.mono (h69 hk ⟨by omega, by omega⟩) (fun rv h' hq => ?_))
            obtain ⟨rfl, rfl⟩ := hq
            refine ⟨rfl, ?_⟩
            show zW X _ 73 13 [.bipush 0, .ireturn] [.ref 188, iv 7] [] (gH k (gEm M3 7 0)) _
            refine wP (ls' := [.ref 188, iv 7]) (st' := [iv 0]) rfl rfl ?_
            have u6 : gEff M M1 0 1 := by
              rcases u5 with q | ⟨_, _, _, q3⟩
              · exact absurd q (by omega)
              · exact q3
            have x6 : (M3 188 38).toInt + (c + 1) ≤ (M3 188 26).toInt ∧ gEff M2 M3 0 1 := by
              rcases x5 with q | ⟨_, q1, _, q3⟩
              · exact absurd q (by omega)
              · exact ⟨q1, q3⟩
            obtain ⟨x6, x7⟩ := x6
            have ma := gEm_m (M := M3) (w := 7) (v := 0) ⟨by omega, by omega⟩
            have fe : gEm M3 7 0 188 26 = M3 188 26 := gEm_f (by decide)
            have ef := ((u6.trans (gEff.of_eq t3 t4 t5) (by omega)).trans x7 (by omega)).trans (gEm_bin (M := M3) (w := 7) (v := 0) ⟨by omega, by omega⟩ (by omega)) (by omega)
            exact wIret (Or.inl (by decide +kernel)) ⟨0, _, rfl, rfl, gEm_ts x1, ((u2.trans t2).trans x2).trans (gEm_fr (by omega)), by omega, by omega, by rw [fe]; omega, Or.inr ⟨rfl, by rw [fe]; omega, by rw [fe]; omega, ef⟩⟩
          · replace g4 : ¬ (¬ (e61 : Int) = (-1)) := g4
            refine wP (ls' := [.ref 188, iv 7]) (st' := [iv (-1)]) rfl rfl ?_
            exact wIret (Or.inl (by decide +kernel)) ⟨-1, _, rfl, rfl, x1, (u2.trans t2).trans x2, x3, x4, by omega, Or.inl rfl⟩
      · replace g2 : ¬ (¬ ((M1 188 28).toInt : Int) = 60) := g2
        refine wP (ls' := [.ref 188, aD]) (st' := [iv 6]) rfl rfl ?_
        refine wGoto (n1 := 11) rfl bk_73_11 ?_
        refine wP (ls' := [.ref 188, iv 6]) (st' := []) rfl rfl ?_
        refine wP (ls' := [.ref 188, iv 6]) (st' := [.ref 188]) rfl rfl ?_
        refine wCall hk (q := 65) (na := 0) (a := 188) (as := []) (t := []) rfl (by decide +kernel) (by decide) (by decide +kernel) (Nat.le_of_ble_eq_true rfl) rfl rfl (zRn.mono (h65p hk u1.1) (fun rv h' hq => ?_))
        obtain ⟨M2, rfl, rfl, hR⟩ := hq
        obtain ⟨t1, t2, t3, t4, t5, t6⟩ := gRd_s hR u1.1
        have tb := t1.2
        obtain ⟨tb1, tb2, tb3, tb4, tb5, tb6, tb7⟩ := tb
        have tm : (M2 188 38).toInt = (M1 188 38).toInt := by rw [t3]
        refine ⟨rfl, ?_⟩
        show zW X _ 73 11 [.aload 0, .invokevirtual 1564072, .bipush (-1), .if_icmp .ne 13] [.ref 188, iv 6] [] (gH k M2) _
        refine wP (ls' := [.ref 188, iv 6]) (st' := [.ref 188]) rfl rfl ?_
        refine wCall hk (q := 72) (na := 0) (a := 188) (as := []) (t := []) rfl (by decide +kernel) (by decide) (by decide +kernel) (Nat.le_of_ble_eq_true rfl) rfl rfl (zRn.mono (h72 hk t1 (c := c + 1) (by omega) (by omega) (by omega)) (fun rv h' hq => ?_))
        obtain ⟨e64, M3, rfl, rfl, hU3⟩ := hq
        obtain ⟨x1, x2, x3, x4, xf, x5⟩ := hU3
        obtain ⟨y1, y2, y3, y4, y5⟩ := x1.1
        obtain ⟨z1, z2, z3, z4, z5⟩ := x1.2
        have xz : e64 = -1 ∨ (M3 188 38).toInt + (c + 1) ≤ (M3 188 26).toInt := x5.imp id (fun z => z.2.1)
        refine ⟨rfl, ?_⟩
        show zW X _ 73 11 [.bipush (-1), .if_icmp .ne 13] [.ref 188, iv 6] [iv e64] (gH k M3) _
        refine wP (ls' := [.ref 188, iv 6]) (st' := [iv (-1), iv e64]) rfl rfl ?_
        refine wIfc (n1 := 13) rfl bk_73_13 bk_73_12 (by omega) (by omega) (fun g3 => ?_) (fun g3 => ?_)
        · replace g3 : ¬ (e64 : Int) = (-1) := g3
          refine wP (ls' := [.ref 188, iv 6]) (st' := [.ref 188]) rfl rfl ?_
          refine wP (ls' := [.ref 188, iv 6]) (st' := [iv 6, .ref 188]) rfl rfl ?_
          refine wP (ls' := [.ref 188, iv 6]) (st' := [iv 0, iv 6, .ref 188]) rfl rfl ?_
          refine wCall hk (q := 69) (na := 2) (a := 188) (as := [iv 6, iv 0]) (t := []) rfl (by decide +kernel) (by decide) (by decide +kernel) (Nat.le_of_ble_eq_true rfl) rfl rfl (zRn.mono (h69 hk ⟨by omega, by omega⟩) (fun rv h' hq => ?_))
          obtain ⟨rfl, rfl⟩ := hq
          refine ⟨rfl, ?_⟩
          show zW X _ 73 13 [.bipush 0, .ireturn] [.ref 188, iv 6] [] (gH k (gEm M3 6 0)) _
          refine wP (ls' := [.ref 188, iv 6]) (st' := [iv 0]) rfl rfl ?_
          have u6 : gEff M M1 0 1 := by
            rcases u5 with q | ⟨_, _, _, q3⟩
            · exact absurd q (by omega)
            · exact q3
          have x6 : (M3 188 38).toInt + (c + 1) ≤ (M3 188 26).toInt ∧ gEff M2 M3 0 1 := by
            rcases x5 with q | ⟨_, q1, _, q3⟩
            · exact absurd q (by omega)
            · exact ⟨q1, q3⟩
          obtain ⟨x6, x7⟩ := x6
          have ma := gEm_m (M := M3) (w := 6) (v := 0) ⟨by omega, by omega⟩
          have fe : gEm M3 6 0 188 26 = M3 188 26 := gEm_f (by decide)
          have ef := ((u6.trans (gEff.of_eq t3 t4 t5) (by omega)).trans x7 (by omega)).trans (gEm_bin (M := M3) (w := 6) (v := 0) ⟨by omega, by omega⟩ (by omega)) (by omega)
          exact wIret (Or.inl (by decide +kernel)) ⟨0, _, rfl, rfl, gEm_ts x1, ((u2.trans t2).trans x2).trans (gEm_fr (by omega)), by omega, by omega, by rw [fe]; omega, Or.inr ⟨rfl, by rw [fe]; omega, by rw [fe]; omega, ef⟩⟩
        · replace g3 : ¬ (¬ (e64 : Int) = (-1)) := g3
          refine wP (ls' := [.ref 188, iv 6]) (st' := [iv (-1)]) rfl rfl ?_
          exact wIret (Or.inl (by decide +kernel)) ⟨-1, _, rfl, rfl, x1, (u2.trans t2).trans x2, x3, x4, by omega, Or.inl rfl⟩
    · replace g1 : ¬ (¬ (e56 : Int) = 0) := g1
      refine wP (ls' := [.ref 188, aD]) (st' := [.ref 188]) rfl rfl ?_
      refine wP (ls' := [.ref 188, aD]) (st' := [iv 61, .ref 188]) rfl rfl ?_
      refine wCall hk (q := 68) (na := 1) (a := 188) (as := [iv 61]) (t := []) rfl (by decide +kernel) (by decide) (by decide +kernel) (Nat.le_of_ble_eq_true rfl) rfl rfl (zRn.mono (h68 hk (by omega)) (fun rv h' hq => ?_))
      obtain ⟨rfl, e66, rfl, r66⟩ := hq
      refine ⟨rfl, ?_⟩
      show zW X _ 73 3 [.ifCond .ne 6] [.ref 188, aD] [iv e66] (gH k M1) _
      refine wIf0 (n1 := 6) rfl bk_73_6 bk_73_4 (by omega) (fun g2 => ?_) (fun g2 => ?_)
      · replace g2 : ¬ (e66 : Int) = 0 := g2
        refine wP (ls' := [.ref 188, aD]) (st' := [.ref 188]) rfl rfl ?_
        refine wGetN hk (f := 28) (e := (M1 188 28).toInt) (by decide +kernel) (iE _) ?_
        refine wP (ls' := [.ref 188, aD]) (st' := [iv 60, iv (M1 188 28).toInt]) rfl rfl ?_
        refine wIfc (n1 := 8) rfl bk_73_8 bk_73_7 (by first | exact iG _ | omega) (by omega) (fun g3 => ?_) (fun g3 => ?_)
        · replace g3 : ¬ ((M1 188 28).toInt : Int) = 60 := g3
          refine wP (ls' := [.ref 188, aD]) (st' := [.ref 188]) rfl rfl ?_
          refine wGetN hk (f := 28) (e := (M1 188 28).toInt) (by decide +kernel) (iE _) ?_
          refine wP (ls' := [.ref 188, aD]) (st' := [iv 61, iv (M1 188 28).toInt]) rfl rfl ?_
          refine wIfc (n1 := 10) rfl bk_73_10 bk_73_9 (by first | exact iG _ | omega) (by omega) (fun g4 => ?_) (fun g4 => ?_)
          · replace g4 : ¬ ((M1 188 28).toInt : Int) = 61 := g4
            refine wP (ls' := [.ref 188, aD]) (st' := [iv 8]) rfl rfl ?_
            refine zW_fall bk_73_11 ?_
            refine wP (ls' := [.ref 188, iv 8]) (st' := []) rfl rfl ?_
            refine wP (ls' := [.ref 188, iv 8]) (st' := [.ref 188]) rfl rfl ?_
            refine wCall hk (q := 65) (na := 0) (a := 188) (as := []) (t := []) rfl (by decide +kernel) (by decide) (by decide +kernel) (Nat.le_of_ble_eq_true rfl) rfl rfl (zRn.mono (h65p hk u1.1) (fun rv h' hq => ?_))
            obtain ⟨M2, rfl, rfl, hR⟩ := hq
            obtain ⟨t1, t2, t3, t4, t5, t6⟩ := gRd_s hR u1.1
            have tb := t1.2
            obtain ⟨tb1, tb2, tb3, tb4, tb5, tb6, tb7⟩ := tb
            have tm : (M2 188 38).toInt = (M1 188 38).toInt := by rw [t3]
            refine ⟨rfl, ?_⟩
            show zW X _ 73 11 [.aload 0, .invokevirtual 1564072, .bipush (-1), .if_icmp .ne 13] [.ref 188, iv 8] [] (gH k M2) _
            refine wP (ls' := [.ref 188, iv 8]) (st' := [.ref 188]) rfl rfl ?_
            refine wCall hk (q := 72) (na := 0) (a := 188) (as := []) (t := []) rfl (by decide +kernel) (by decide) (by decide +kernel) (Nat.le_of_ble_eq_true rfl) rfl rfl (zRn.mono (h72 hk t1 (c := c + 1) (by omega) (by omega) (by omega)) (fun rv h' hq => ?_))
            obtain ⟨e68, M3, rfl, rfl, hU3⟩ := hq
            obtain ⟨x1, x2, x3, x4, xf, x5⟩ := hU3
            obtain ⟨y1, y2, y3, y4, y5⟩ := x1.1
            obtain ⟨z1, z2, z3, z4, z5⟩ := x1.2
            have xz : e68 = -1 ∨ (M3 188 38).toInt + (c + 1) ≤ (M3 188 26).toInt := x5.imp id (fun z => z.2.1)
            refine ⟨rfl, ?_⟩
            show zW X _ 73 11 [.bipush (-1), .if_icmp .ne 13] [.ref 188, iv 8] [iv e68] (gH k M3) _
            refine wP (ls' := [.ref 188, iv 8]) (st' := [iv (-1), iv e68]) rfl rfl ?_
            refine wIfc (n1 := 13) rfl bk_73_13 bk_73_12 (by omega) (by omega) (fun g5 => ?_) (fun g5 => ?_)
            · replace g5 : ¬ (e68 : Int) = (-1) := g5
              refine wP (ls' := [.ref 188, iv 8]) (st' := [.ref 188]) rfl rfl ?_
              refine wP (ls' := [.ref 188, iv 8]) (st' := [iv 8, .ref 188]) rfl rfl ?_
              refine wP (ls' := [.ref 188, iv 8]) (st' := [iv 0, iv 8, .ref 188]) rfl rfl ?_
              refine wCall hk (q := 69) (na := 2) (a := 188) (as := [iv 8, iv 0]) (t := []) rfl (by decide +kernel) (by decide) (by decide +kernel) (Nat.le_of_ble_eq_true rfl) rfl rfl (zRn.mono (h69 hk ⟨by omega, by omega⟩) (fun rv h' hq => ?_))
              obtain ⟨rfl, rfl⟩ := hq
              refine ⟨rfl, ?_⟩
              show zW X _ 73 13 [.bipush 0, .ireturn] [.ref 188, iv 8] [] (gH k (gEm M3 8 0)) _
              refine wP (ls' := [.ref 188, iv 8]) (st' := [iv 0]) rfl rfl ?_
              have u6 : gEff M M1 0 1 := by
                rcases u5 with q | ⟨_, _, _, q3⟩
                · exact absurd q (by omega)
                · exact q3
              have x6 : (M3 188 38).toInt + (c + 1) ≤ (M3 188 26).toInt ∧ gEff M2 M3 0 1 := by
                rcases x5 with q | ⟨_, q1, _, q3⟩
                · exact absurd q (by omega)
                · exact ⟨q1, q3⟩
              obtain ⟨x6, x7⟩ := x6
              have ma := gEm_m (M := M3) (w := 8) (v := 0) ⟨by omega, by omega⟩
              have fe : gEm M3 8 0 188 26 = M3 188 26 := gEm_f (by decide)
              have ef := ((u6.trans (gEff.of_eq t3 t4 t5) (by omega)).trans x7 (by omega)).trans (gEm_bin (M := M3) (w := 8) (v := 0) ⟨by omega, by omega⟩ (by omega)) (by omega)
              exact wIret (Or.inl (by decide +kernel)) ⟨0, _, rfl, rfl, gEm_ts x1, ((u2.trans t2).trans x2).trans (gEm_fr (by omega)), by omega, by omega, by rw [fe]; omega, Or.inr ⟨rfl, by rw [fe]; omega, by rw [fe]; omega, ef⟩⟩
            · replace g5 : ¬ (¬ (e68 : Int) = (-1)) := g5
              refine wP (ls' := [.ref 188, iv 8]) (st' := [iv (-1)]) rfl rfl ?_
              exact wIret (Or.inl (by decide +kernel)) ⟨-1, _, rfl, rfl, x1, (u2.trans t2).trans x2, x3, x4, by omega, Or.inl rfl⟩
          · replace g4 : ¬ (¬ ((M1 188 28).toInt : Int) = 61) := g4
            refine wP (ls' := [.ref 188, aD]) (st' := [iv 7]) rfl rfl ?_
            refine wGoto (n1 := 11) rfl bk_73_11 ?_
            refine wP (ls' := [.ref 188, iv 7]) (st' := []) rfl rfl ?_
            refine wP (ls' := [.ref 188, iv 7]) (st' := [.ref 188]) rfl rfl ?_
            refine wCall hk (q := 65) (na := 0) (a := 188) (as := []) (t := []) rfl (by decide +kernel) (by decide) (by decide +kernel) (Nat.le_of_ble_eq_true rfl) rfl rfl (zRn.mono (h65p hk u1.1) (fun rv h' hq => ?_))
            obtain ⟨M2, rfl, rfl, hR⟩ := hq
            obtain ⟨t1, t2, t3, t4, t5, t6⟩ := gRd_s hR u1.1
            have tb := t1.2
            obtain ⟨tb1, tb2, tb3, tb4, tb5, tb6, tb7⟩ := tb
            have tm : (M2 188 38).toInt = (M1 188 38).toInt := by rw [t3]
            refine ⟨rfl, ?_⟩
            show zW X _ 73 11 [.aload 0, .invokevirtual 1564072, .bipush (-1), .if_icmp .ne 13] [.ref 188, iv 7] [] (gH k M2) _
            refine wP (ls' := [.ref 188, iv 7]) (st' := [.ref 188]) rfl rfl ?_
            refine wCall hk (q := 72) (na := 0) (a := 188) (as := []) (t := []) rfl (by decide +kernel) (by decide) (by decide +kernel) (Nat.le_of_ble_eq_true rfl) rfl rfl (zRn.mono (h72 hk t1 (c := c + 1) (by omega) (by omega) (by omega)) (fun rv h' hq => ?_))
            obtain ⟨e71, M3, rfl, rfl, hU3⟩ := hq
            obtain ⟨x1, x2, x3, x4, xf, x5⟩ := hU3
            obtain ⟨y1, y2, y3, y4, y5⟩ := x1.1
            obtain ⟨z1, z2, z3, z4, z5⟩ := x1.2
            have xz : e71 = -1 ∨ (M3 188 38).toInt + (c + 1) ≤ (M3 188 26).toInt := x5.imp id (fun z => z.2.1)
            refine ⟨rfl, ?_⟩
            show zW X _ 73 11 [.bipush (-1), .if_icmp .ne 13] [.ref 188, iv 7] [iv e71] (gH k M3) _
            refine wP (ls' := [.ref 188, iv 7]) (st' := [iv (-1), iv e71]) rfl rfl ?_
            refine wIfc (n1 := 13) rfl bk_73_13 bk_73_12 (by omega) (by omega) (fun g5 => ?_) (fun g5 => ?_)
            · replace g5 : ¬ (e71 : Int) = (-1) := g5
              refine wP (ls' := [.ref 188, iv 7]) (st' := [.ref 188]) rfl rfl ?_
              refine wP (ls' := [.ref 188, iv 7]) (st' := [iv 7, .ref 188]) rfl rfl ?_
              refine wP (ls' := [.ref 188, iv 7]) (st' := [iv 0, iv 7, .ref 188]) rfl rfl ?_
              refine wCall hk (q := 69) (na := 2) (a := 188) (as := [iv 7, iv 0]) (t := []) rfl (by decide +kernel) (by decide) (by decide +kernel) (Nat.le_of_ble_eq_true rfl) rfl rfl (zRn.mono (h69 hk ⟨by omega, by omega⟩) (fun rv h' hq => ?_))
              obtain ⟨rfl, rfl⟩ := hq
              refine ⟨rfl, ?_⟩
              show zW X _ 73 13 [.bipush 0, .ireturn] [.ref 188, iv 7] [] (gH k (gEm M3 7 0)) _
              refine wP (ls' := [.ref 188, iv 7]) (st' := [iv 0]) rfl rfl ?_
              have u6 : gEff M M1 0 1 := by
                rcases u5 with q | ⟨_, _, _, q3⟩
                · exact absurd q (by omega)
                · exact q3
              have x6 : (M3 188 38).toInt + (c + 1) ≤ (M3 188 26).toInt ∧ gEff M2 M3 0 1 := by
                rcases x5 with q | ⟨_, q1, _, q3⟩
                · exact absurd q (by omega)
                · exact ⟨q1, q3⟩
              obtain ⟨x6, x7⟩ := x6
              have ma := gEm_m (M := M3) (w := 7) (v := 0) ⟨by omega, by omega⟩
              have fe : gEm M3 7 0 188 26 = M3 188 26 := gEm_f (by decide)
              have ef := ((u6.trans (gEff.of_eq t3 t4 t5) (by omega)).trans x7 (by omega)).trans (gEm_bin (M := M3) (w := 7) (v := 0) ⟨by omega, by omega⟩ (by omega)) (by omega)
              exact wIret (Or.inl (by decide +kernel)) ⟨0, _, rfl, rfl, gEm_ts x1, ((u2.trans t2).trans x2).trans (gEm_fr (by omega)), by omega, by omega, by rw [fe]; omega, Or.inr ⟨rfl, by rw [fe]; omega, by rw [fe]; omega, ef⟩⟩
            · replace g5 : ¬ (¬ (e71 : Int) = (-1)) := g5
              refine wP (ls' := [.ref 188, iv 7]) (st' := [iv (-1)]) rfl rfl ?_
              exact wIret (Or.inl (by decide +kernel)) ⟨-1, _, rfl, rfl, x1, (u2.trans t2).trans x2, x3, x4, by omega, Or.inl rfl⟩
        · replace g3 : ¬ (¬ ((M1 188 28).toInt : Int) = 60) := g3
          refine wP (ls' := [.ref 188, aD]) (st' := [iv 6]) rfl rfl ?_
          refine wGoto (n1 := 11) rfl bk_73_11 ?_
          refine wP (ls' := [.ref 188, iv 6]) (st' := []) rfl rfl ?_
          refine wP (ls' := [.ref 188, iv 6]) (st' := [.ref 188]) rfl rfl ?_
          refine wCall hk (q := 65) (na := 0) (a := 188) (as := []) (t := []) rfl (by decide +kernel) (by decide) (by decide +kernel) (Nat.le_of_ble_eq_true rfl) rfl rfl (zRn.mono (h65p hk u1.1) (fun rv h' hq => ?_))
          obtain ⟨M2, rfl, rfl, hR⟩ := hq
          obtain ⟨t1, t2, t3, t4, t5, t6⟩ := gRd_s hR u1.1
          have tb := t1.2
          obtain ⟨tb1, tb2, tb3, tb4, tb5, tb6, tb7⟩ := tb
          have tm : (M2 188 38).toInt = (M1 188 38).toInt := by rw [t3]
          refine ⟨rfl, ?_⟩
          show zW X _ 73 11 [.aload 0, .invokevirtual 1564072, .bipush (-1), .if_icmp .ne 13] [.ref 188, iv 6] [] (gH k M2) _
          refine wP (ls' := [.ref 188, iv 6]) (st' := [.ref 188]) rfl rfl ?_
          refine wCall hk (q := 72) (na := 0) (a := 188) (as := []) (t := []) rfl (by decide +kernel) (by decide) (by decide +kernel) (Nat.le_of_ble_eq_true rfl) rfl rfl (zRn.mono (h72 hk t1 (c := c + 1) (by omega) (by omega) (by omega)) (fun rv h' hq => ?_))
          obtain ⟨e74, M3, rfl, rfl, hU3⟩ := hq
          obtain ⟨x1, x2, x3, x4, xf, x5⟩ := hU3
          obtain ⟨y1, y2, y3, y4, y5⟩ := x1.1
          obtain ⟨z1, z2, z3, z4, z5⟩ := x1.2
          have xz : e74 = -1 ∨ (M3 188 38).toInt + (c + 1) ≤ (M3 188 26).toInt := x5.imp id (fun z => z.2.1)
          refine ⟨rfl, ?_⟩
          show zW X _ 73 11 [.bipush (-1), .if_icmp .ne 13] [.ref 188, iv 6] [iv e74] (gH k M3) _
          refine wP (ls' := [.ref 188, iv 6]) (st' := [iv (-1), iv e74]) rfl rfl ?_
          refine wIfc (n1 := 13) rfl bk_73_13 bk_73_12 (by omega) (by omega) (fun g4 => ?_) (fun g4 => ?_)
          · replace g4 : ¬ (e74 : Int) = (-1) := g4
            refine wP (ls' := [.ref 188, iv 6]) (st' := [.ref 188]) rfl rfl ?_
            refine wP (ls' := [.ref 188, iv 6]) (st' := [iv 6, .ref 188]) rfl rfl ?_
            refine wP (ls' := [.ref 188, iv 6]) (st' := [iv 0, iv 6, .ref 188]) rfl rfl ?_
            refine wCall hk (q := 69) (na := 2) (a := 188) (as := [iv 6, iv 0]) (t := []) rfl (by decide +kernel) (by decide) (by decide +kernel) (Nat.le_of_ble_eq_true rfl) rfl rfl (zRn.mono (h69 hk ⟨by omega, by omega⟩) (fun rv h' hq => ?_))
            obtain ⟨rfl, rfl⟩ := hq
            refine ⟨rfl, ?_⟩
            show zW X _ 73 13 [.bipush 0, .ireturn] [.ref 188, iv 6] [] (gH k (gEm M3 6 0)) _
            refine wP (ls' := [.ref 188, iv 6]) (st' := [iv 0]) rfl rfl ?_
            have u6 : gEff M M1 0 1 := by
              rcases u5 with q | ⟨_, _, _, q3⟩
              · exact absurd q (by omega)
              · exact q3
            have x6 : (M3 188 38).toInt + (c + 1) ≤ (M3 188 26).toInt ∧ gEff M2 M3 0 1 := by
              rcases x5 with q | ⟨_, q1, _, q3⟩
              · exact absurd q (by omega)
              · exact ⟨q1, q3⟩
            obtain ⟨x6, x7⟩ := x6
            have ma := gEm_m (M := M3) (w := 6) (v := 0) ⟨by omega, by omega⟩
            have fe : gEm M3 6 0 188 26 = M3 188 26 := gEm_f (by decide)
            have ef := ((u6.trans (gEff.of_eq t3 t4 t5) (by omega)).trans x7 (by omega)).trans (gEm_bin (M := M3) (w := 6) (v := 0) ⟨by omega, by omega⟩ (by omega)) (by omega)
            exact wIret (Or.inl (by decide +kernel)) ⟨0, _, rfl, rfl, gEm_ts x1, ((u2.trans t2).trans x2).trans (gEm_fr (by omega)), by omega, by omega, by rw [fe]; omega, Or.inr ⟨rfl, by rw [fe]; omega, by rw [fe]; omega, ef⟩⟩
          · replace g4 : ¬ (¬ (e74 : Int) = (-1)) := g4
            refine wP (ls' := [.ref 188, iv 6]) (st' := [iv (-1)]) rfl rfl ?_
            exact wIret (Or.inl (by decide +kernel)) ⟨-1, _, rfl, rfl, x1, (u2.trans t2).trans x2, x3, x4, by omega, Or.inl rfl⟩
      · replace g2 : ¬ (¬ (e66 : Int) = 0) := g2
        refine wP (ls' := [.ref 188, aD]) (st' := [.ref 188]) rfl rfl ?_
        refine wP (ls' := [.ref 188, aD]) (st' := [iv 62, .ref 188]) rfl rfl ?_
        refine wCall hk (q := 68) (na := 1) (a := 188) (as := [iv 62]) (t := []) rfl (by decide +kernel) (by decide) (by decide +kernel) (Nat.le_of_ble_eq_true rfl) rfl rfl (zRn.mono (h68 hk (by omega)) (fun rv h' hq => ?_))
        obtain ⟨rfl, e76, rfl, r76⟩ := hq
        refine ⟨rfl, ?_⟩
        show zW X _ 73 4 [.ifCond .ne 6] [.ref 188, aD] [iv e76] (gH k M1) _
        refine wIf0 (n1 := 6) rfl bk_73_6 bk_73_5 (by omega) (fun g3 => ?_) (fun g3 => ?_)
        · replace g3 : ¬ (e76 : Int) = 0 := g3
          refine wP (ls' := [.ref 188, aD]) (st' := [.ref 188]) rfl rfl ?_
          refine wGetN hk (f := 28) (e := (M1 188 28).toInt) (by decide +kernel) (iE _) ?_
          refine wP (ls' := [.ref 188, aD]) (st' := [iv 60, iv (M1 188 28).toInt]) rfl rfl ?_
          refine wIfc (n1 := 8) rfl bk_73_8 bk_73_7 (by first | exact iG _ | omega) (by omega) (fun g4 => ?_) (fun g4 => ?_)
          · replace g4 : ¬ ((M1 188 28).toInt : Int) = 60 := g4
            refine wP (ls' := [.ref 188, aD]) (st' := [.ref 188]) rfl rfl ?_
            refine wGetN hk (f := 28) (e := (M1 188 28).toInt) (by decide +kernel) (iE _) ?_
            refine wP (ls' := [.ref 188, aD]) (st' := [iv 61, iv (M1 188 28).toInt]) rfl rfl ?_
            refine wIfc (n1 := 10) rfl bk_73_10 bk_73_9 (by first | exact iG _ | omega) (by omega) (fun g5 => ?_) (fun g5 => ?_)
            · replace g5 : ¬ ((M1 188 28).toInt : Int) = 61 := g5
              refine wP (ls' := [.ref 188, aD]) (st' := [iv 8]) rfl rfl ?_
              refine zW_fall bk_73_11 ?_
              refine wP (ls' := [.ref 188, iv 8]) (st' := []) rfl rfl ?_
              refine wP (ls' := [.ref 188, iv 8]) (st' := [.ref 188]) rfl rfl ?_
              refine wCall hk (q := 65) (na := 0) (a := 188) (as := []) (t := []) rfl (by decide +kernel) (by decide) (by decide +kernel) (Nat.le_of_ble_eq_true rfl) rfl rfl (zRn.mono (h65p hk u1.1) (fun rv h' hq => ?_))
              obtain ⟨M2, rfl, rfl, hR⟩ := hq
              obtain ⟨t1, t2, t3, t4, t5, t6⟩ := gRd_s hR u1.1
              have tb := t1.2
              obtain ⟨tb1, tb2, tb3, tb4, tb5, tb6, tb7⟩ := tb
              have tm : (M2 188 38).toInt = (M1 188 38).toInt := by rw [t3]
              refine ⟨rfl, ?_⟩
              show zW X _ 73 11 [.aload 0, .invokevirtual 1564072, .bipush (-1), .if_icmp .ne 13] [.ref 188, iv 8] [] (gH k M2) _
              refine wP (ls' := [.ref 188, iv 8]) (st' := [.ref 188]) rfl rfl ?_
              refine wCall hk (q := 72) (na := 0) (a := 188) (as := []) (t := []) rfl (by decide +kernel) (by decide) (by decide +kernel) (Nat.le_of_ble_eq_true rfl) rfl rfl (zRn.mono (h72 hk t1 (c := c + 1) (by omega) (by omega) (by omega)) (fun rv h' hq => ?_))
              obtain ⟨e78, M3, rfl, rfl, hU3⟩ := hq
              obtain ⟨x1, x2, x3, x4, xf, x5⟩ := hU3
              obtain ⟨y1, y2, y3, y4, y5⟩ := x1.1
              obtain ⟨z1, z2, z3, z4, z5⟩ := x1.2
              have xz : e78 = -1 ∨ (M3 188 38).toInt + (c + 1) ≤ (M3 188 26).toInt := x5.imp id (fun z => z.2.1)
              refine ⟨rfl, ?_⟩
              show zW X _ 73 11 [.bipush (-1), .if_icmp .ne 13] [.ref 188, iv 8] [iv e78] (gH k M3) _
              refine wP (ls' := [.ref 188, iv 8]) (st' := [iv (-1), iv e78]) rfl rfl ?_
              refine wIfc (n1 := 13) rfl bk_73_13 bk_73_12 (by omega) (by omega) (fun g6 => ?_) (fun g6 => ?_)
              · replace g6 : ¬ (e78 : Int) = (-1) := g6
                refine wP (ls' := [.ref 188, iv 8]) (st' := [.ref 188]) rfl rfl ?_
                refine wP (ls' := [.ref 188, iv 8]) (st' := [iv 8, .ref 188]) rfl rfl ?_
                refine wP (ls' := [.ref 188, iv 8]) (st' := [iv 0, iv 8, .ref 188]) rfl rfl ?_
                refine wCall hk (q := 69) (na := 2) (a := 188) (as := [iv 8, iv 0]) (t := []) rfl (by decide +kernel) (by decide) (by decide +kernel) (Nat.le_of_ble_eq_true rfl) rfl rfl (zRn.mono (h69 hk ⟨by omega, by omega⟩) (fun rv h' hq => ?_))
                obtain ⟨rfl, rfl⟩ := hq
                refine ⟨rfl, ?_⟩
                show zW X _ 73 13 [.bipush 0, .ireturn] [.ref 188, iv 8] [] (gH k (gEm M3 8 0)) _
                refine wP (ls' := [.ref 188, iv 8]) (st' := [iv 0]) rfl rfl ?_
                have u6 : gEff M M1 0 1 := by
                  rcases u5 with q | ⟨_, _, _, q3⟩
                  · exact absurd q (by omega)
                  · exact q3
                have x6 : (M3 188 38).toInt + (c + 1) ≤ (M3 188 26).toInt ∧ gEff M2 M3 0 1 := by
                  rcases x5 with q | ⟨_, q1, _, q3⟩
                  · exact absurd q (by omega)
                  · exact ⟨q1, q3⟩
                obtain ⟨x6, x7⟩ := x6
                have ma := gEm_m (M := M3) (w := 8) (v := 0) ⟨by omega, by omega⟩
                have fe : gEm M3 8 0 188 26 = M3 188 26 := gEm_f (by decide)
                have ef := ((u6.trans (gEff.of_eq t3 t4 t5) (by omega)).trans x7 (by omega)).trans (gEm_bin (M := M3) (w := 8) (v := 0) ⟨by omega, by omega⟩ (by omega)) (by omega)
                exact wIret (Or.inl (by decide +kernel)) ⟨0, _, rfl, rfl, gEm_ts x1, ((u2.trans t2).trans x2).trans (gEm_fr (by omega)), by omega, by omega, by rw [fe]; omega, Or.inr ⟨rfl, by rw [fe]; omega, by rw [fe]; omega, ef⟩⟩
              · replace g6 : ¬ (¬ (e78 : Int) = (-1)) := g6
                refine wP (ls' := [.ref 188, iv 8]) (st' := [iv (-1)]) rfl rfl ?_
                exact wIret (Or.inl (by decide +kernel)) ⟨-1, _, rfl, rfl, x1, (u2.trans t2).trans x2, x3, x4, by omega, Or.inl rfl⟩
            · replace g5 : ¬ (¬ ((M1 188 28).toInt : Int) = 61) := g5
              refine wP (ls' := [.ref 188, aD]) (st' := [iv 7]) rfl rfl ?_
              refine wGoto (n1 := 11) rfl bk_73_11 ?_
              refine wP (ls' := [.ref 188, iv 7]) (st' := []) rfl rfl ?_
              refine wP (ls' := [.ref 188, iv 7]) (st' := [.ref 188]) rfl rfl ?_
              refine wCall hk (q := 65) (na := 0) (a := 188) (as := []) (t := []) rfl (by decide +kernel) (by decide) (by decide +kernel) (Nat.le_of_ble_eq_true rfl) rfl rfl (zRn.mono (h65p hk u1.1) (fun rv h' hq => ?_))
              obtain ⟨M2, rfl, rfl, hR⟩ := hq
              obtain ⟨t1, t2, t3, t4, t5, t6⟩ := gRd_s hR u1.1
              have tb := t1.2
              obtain ⟨tb1, tb2, tb3, tb4, tb5, tb6, tb7⟩ := tb
              have tm : (M2 188 38).toInt = (M1 188 38).toInt := by rw [t3]
              refine ⟨rfl, ?_⟩
              show zW X _ 73 11 [.aload 0, .invokevirtual 1564072, .bipush (-1), .if_icmp .ne 13] [.ref 188, iv 7] [] (gH k M2) _
              refine wP (ls' := [.ref 188, iv 7]) (st' := [.ref 188]) rfl rfl ?_
              refine wCall hk (q := 72) (na := 0) (a := 188) (as := []) (t := []) rfl (by decide +kernel) (by decide) (by decide +kernel) (Nat.le_of_ble_eq_true rfl) rfl rfl (zRn.mono (h72 hk t1 (c := c + 1) (by omega) (by omega) (by omega)) (fun rv h' hq => ?_))
              obtain ⟨e81, M3, rfl, rfl, hU3⟩ := hq
              obtain ⟨x1, x2, x3, x4, xf, x5⟩ := hU3
              obtain ⟨y1, y2, y3, y4, y5⟩ := x1.1
              obtain ⟨z1, z2, z3, z4, z5⟩ := x1.2
              have xz : e81 = -1 ∨ (M3 188 38).toInt + (c + 1) ≤ (M3 188 26).toInt := x5.imp id (fun z => z.2.1)
              refine ⟨rfl, ?_⟩
              show zW X _ 73 11 [.bipush (-1), .if_icmp .ne 13] [.ref 188, iv 7] [iv e81] (gH k M3) _
              refine wP (ls' := [.ref 188, iv 7]) (st' := [iv (-1), iv e81]) rfl rfl ?_
              refine wIfc (n1 := 13) rfl bk_73_13 bk_73_12 (by omega) (by omega) (fun g6 => ?_) (fun g6 => ?_)
              · replace g6 : ¬ (e81 : Int) = (-1) := g6
                refine wP (ls' := [.ref 188, iv 7]) (st' := [.ref 188]) rfl rfl ?_
                refine wP (ls' := [.ref 188, iv 7]) (st' := [iv 7, .ref 188]) rfl rfl ?_
                refine wP (ls' := [.ref 188, iv 7]) (st' := [iv 0, iv 7, .ref 188]) rfl rfl ?_
                refine wCall hk (q := 69) (na := 2) (a := 188) (as := [iv 7, iv 0]) (t := []) rfl (by decide +kernel) (by decide) (by decide +kernel) (Nat.le_of_ble_eq_true rfl) rfl rfl (zRn.mono (h69 hk ⟨by omega, by omega⟩) (fun rv h' hq => ?_))
                obtain ⟨rfl, rfl⟩ := hq
                refine ⟨rfl, ?_⟩
                show zW X _ 73 13 [.bipush 0, .ireturn] [.ref 188, iv 7] [] (gH k (gEm M3 7 0)) _
                refine wP (ls' := [.ref 188, iv 7]) (st' := [iv 0]) rfl rfl ?_
                have u6 : gEff M M1 0 1 := by
                  rcases u5 with q | ⟨_, _, _, q3⟩
                  · exact absurd q (by omega)
                  · exact q3
                have x6 : (M3 188 38).toInt + (c + 1) ≤ (M3 188 26).toInt ∧ gEff M2 M3 0 1 := by
                  rcases x5 with q | ⟨_, q1, _, q3⟩
                  · exact absurd q (by omega)
                  · exact ⟨q1, q3⟩
                obtain ⟨x6, x7⟩ := x6
                have ma := gEm_m (M := M3) (w := 7) (v := 0) ⟨by omega, by omega⟩
                have fe : gEm M3 7 0 188 26 = M3 188 26 := gEm_f (by decide)
                have ef := ((u6.trans (gEff.of_eq t3 t4 t5) (by omega)).trans x7 (by omega)).trans (gEm_bin (M := M3) (w := 7) (v := 0) ⟨by omega, by omega⟩ (by omega)) (by omega)
                exact wIret (Or.inl (by decide +kernel)) ⟨0, _, rfl, rfl, gEm_ts x1, ((u2.trans t2).trans x2).trans (gEm_fr (by omega)), by omega, by omega, by rw [fe]; omega, Or.inr ⟨rfl, by rw [fe]; omega, by rw [fe]; omega, ef⟩⟩
              · replace g6 : ¬ (¬ (e81 : Int) = (-1)) := g6
                refine wP (ls' := [.ref 188, iv 7]) (st' := [iv (-1)]) rfl rfl ?_
                exact wIret (Or.inl (by decide +kernel)) ⟨-1, _, rfl, rfl, x1, (u2.trans t2).trans x2, x3, x4, by omega, Or.inl rfl⟩
          · replace g4 : ¬ (¬ ((M1 188 28).toInt : Int) = 60) := g4
            refine wP (ls' := [.ref 188, aD]) (st' := [iv 6]) rfl rfl ?_
            refine wGoto (n1 := 11) rfl bk_73_11 ?_
            refine wP (ls' := [.ref 188, iv 6]) (st' := []) rfl rfl ?_
            refine wP (ls' := [.ref 188, iv 6]) (st' := [.ref 188]) rfl rfl ?_
            refine wCall hk (q := 65) (na := 0) (a := 188) (as := []) (t := []) rfl (by decide +kernel) (by decide) (by decide +kernel) (Nat.le_of_ble_eq_true rfl) rfl rfl (zRn.mono (h65p hk u1.1) (fun rv h' hq => ?_))
            obtain ⟨M2, rfl, rfl, hR⟩ := hq
            obtain ⟨t1, t2, t3, t4, t5, t6⟩ := gRd_s hR u1.1
            have tb := t1.2
            obtain ⟨tb1, tb2, tb3, tb4, tb5, tb6, tb7⟩ := tb
            have tm : (M2 188 38).toInt = (M1 188 38).toInt := by rw [t3]
            refine ⟨rfl, ?_⟩
            show zW X _ 73 11 [.aload 0, .invokevirtual 1564072, .bipush (-1), .if_icmp .ne 13] [.ref 188, iv 6] [] (gH k M2) _
            refine wP (ls' := [.ref 188, iv 6]) (st' := [.ref 188]) rfl rfl ?_
            refine wCall hk (q := 72) (na := 0) (a := 188) (as := []) (t := []) rfl (by decide +kernel) (by decide) (by decide +kernel) (Nat.le_of_ble_eq_true rfl) rfl rfl (zRn.mono (h72 hk t1 (c := c + 1) (by omega) (by omega) (by omega)) (fun rv h' hq => ?_))
            obtain ⟨e84, M3, rfl, rfl, hU3⟩ := hq
            obtain ⟨x1, x2, x3, x4, xf, x5⟩ := hU3
            obtain ⟨y1, y2, y3, y4, y5⟩ := x1.1
            obtain ⟨z1, z2, z3, z4, z5⟩ := x1.2
            have xz : e84 = -1 ∨ (M3 188 38).toInt + (c + 1) ≤ (M3 188 26).toInt := x5.imp id (fun z => z.2.1)
            refine ⟨rfl, ?_⟩
            show zW X _ 73 11 [.bipush (-1), .if_icmp .ne 13] [.ref 188, iv 6] [iv e84] (gH k M3) _
            refine wP (ls' := [.ref 188, iv 6]) (st' := [iv (-1), iv e84]) rfl rfl ?_
            refine wIfc (n1 := 13) rfl bk_73_13 bk_73_12 (by omega) (by omega) (fun g5 => ?_) (fun g5 => ?_)
            · replace g5 : ¬ (e84 : Int) = (-1) := g5
              refine wP (ls' := [.ref 188, iv 6]) (st' := [.ref 188]) rfl rfl ?_
              refine wP (ls' := [.ref 188, iv 6]) (st' := [iv 6, .ref 188]) rfl rfl ?_
              refine wP (ls' := [.ref 188, iv 6]) (st' := [iv 0, iv 6, .ref 188]) rfl rfl ?_
              refine wCall hk (q := 69) (na := 2) (a := 188) (as := [iv 6, iv 0]) (t := []) rfl (by decide +kernel) (by decide) (by decide +kernel) (Nat.le_of_ble_eq_true rfl) rfl rfl (zRn.mono (h69 hk ⟨by omega, by omega⟩) (fun rv h' hq => ?_))
              obtain ⟨rfl, rfl⟩ := hq
              refine ⟨rfl, ?_⟩
              show zW X _ 73 13 [.bipush 0, .ireturn] [.ref 188, iv 6] [] (gH k (gEm M3 6 0)) _
              refine wP (ls' := [.ref 188, iv 6]) (st' := [iv 0]) rfl rfl ?_
              have u6 : gEff M M1 0 1 := by
                rcases u5 with q | ⟨_, _, _, q3⟩
                · exact absurd q (by omega)
                · exact q3
              have x6 : (M3 188 38).toInt + (c + 1) ≤ (M3 188 26).toInt ∧ gEff M2 M3 0 1 := by
                rcases x5 with q | ⟨_, q1, _, q3⟩
                · exact absurd q (by omega)
                · exact ⟨q1, q3⟩
              obtain ⟨x6, x7⟩ := x6
              have ma := gEm_m (M := M3) (w := 6) (v := 0) ⟨by omega, by omega⟩
              have fe : gEm M3 6 0 188 26 = M3 188 26 := gEm_f (by decide)
              have ef := ((u6.trans (gEff.of_eq t3 t4 t5) (by omega)).trans x7 (by omega)).trans (gEm_bin (M := M3) (w := 6) (v := 0) ⟨by omega, by omega⟩ (by omega)) (by omega)
              exact wIret (Or.inl (by decide +kernel)) ⟨0, _, rfl, rfl, gEm_ts x1, ((u2.trans t2).trans x2).trans (gEm_fr (by omega)), by omega, by omega, by rw [fe]; omega, Or.inr ⟨rfl, by rw [fe]; omega, by rw [fe]; omega, ef⟩⟩
            · replace g5 : ¬ (¬ (e84 : Int) = (-1)) := g5
              refine wP (ls' := [.ref 188, iv 6]) (st' := [iv (-1)]) rfl rfl ?_
              exact wIret (Or.inl (by decide +kernel)) ⟨-1, _, rfl, rfl, x1, (u2.trans t2).trans x2, x3, x4, by omega, Or.inl rfl⟩
        · replace g3 : ¬ (¬ (e76 : Int) = 0) := g3
          refine wP (ls' := [.ref 188, aD]) (st' := [.ref 188]) rfl rfl ?_
          refine wP (ls' := [.ref 188, aD]) (st' := [iv 1, .ref 188]) rfl rfl ?_
          refine wCall hk (q := 66) (na := 1) (a := 188) (as := [iv 1]) (t := []) rfl (by decide +kernel) (by decide) (by decide +kernel) (Nat.le_of_ble_eq_true rfl) rfl rfl (zRn.mono (h66 hk) (fun rv h' hq => ?_))
          obtain ⟨rfl, rfl⟩ := hq
          refine ⟨rfl, ?_⟩
          show zW X _ 73 5 [.ireturn] [.ref 188, aD] [iv (-1)] (gH k (gFa M1 1)) _
          obtain ⟨f1, f2, f3, f4, f5⟩ := gFa_s (c := 1) u1
          exact wIret (Or.inl (by decide +kernel)) ⟨-1, _, rfl, rfl, f1, u2.trans f2, by rw [f3]; omega, by rw [f3]; omega, by rw [show gFa M1 1 188 26 = M1 188 26 from by unfold gFa; rw [aPut_f (by decide), aPut_f (by decide)]]; omega, Or.inl rfl⟩
  · replace g0 : ¬ (¬ (e55 : Int) = (-1)) := g0
    refine wP (ls' := [.ref 188, aD]) (st' := [iv (-1)]) rfl rfl ?_
    exact wIret (Or.inl (by decide +kernel)) ⟨-1, _, rfl, rfl, u1, u2, u3, u4, uf, Or.inl rfl⟩
