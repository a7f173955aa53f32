/-! claims of the reference, by hand -/
theorem bk_76_0 : (aMC 76)[0]? = some [.bipush 0, .istore 1, .aload 0, .bipush 0, .putfield 128312164, .bipush 1, .istore 2] := by decide +kernel
theorem bk_76_1 : (aMC 76)[1]? = some [.iload 2, .ifCond .eq 15] := by decide +kernel
theorem bk_76_2 : (aMC 76)[2]? = some [.aload 0, .bipush 14, .invokevirtual 1584067, .istore 3, .iload 3, .ifCond .ne 4] := by decide +kernel
theorem bk_76_3 : (aMC 76)[3]? = some [.aload 0, .bipush 40, .invokevirtual 1580068, .ifCond .eq 12] := by decide +kernel
theorem bk_76_4 : (aMC 76)[4]? = some [.aload 0, .getfield 128112156, .bipush 8, .if_icmp .ne 6] := by decide +kernel
theorem bk_76_5 : (aMC 76)[5]? = some [.aload 0, .bipush 3, .invokevirtual 1560066, .ireturn] := by decide +kernel
theorem bk_76_6 : (aMC 76)[6]? = some [.aload 0, .aload 0, .getfield 128112156, .bipush 1, .iadd, .putfield 128112156, .iload 3, .ifCond .ne 8] := by decide +kernel
theorem bk_76_7 : (aMC 76)[7]? = some [.iload 1, .bipush 1, .iadd, .istore 1] := by decide +kernel
theorem bk_76_8 : (aMC 76)[8]? = some [.aload 0, .iload 3, .ifCond .eq 10] := by decide +kernel
theorem bk_76_9 : (aMC 76)[9]? = some [.bipush 9, .goto 11] := by decide +kernel
theorem bk_76_10 : (aMC 76)[10]? = some [.bipush 12] := by decide +kernel
theorem bk_76_11 : (aMC 76)[11]? = some [.invokevirtual 1592074, .aload 0, .invokevirtual 1532065, .goto 1] := by decide +kernel
theorem bk_76_12 : (aMC 76)[12]? = some [.aload 0, .invokevirtual 1596073, .bipush (-1), .if_icmp .ne 14] := by decide +kernel
theorem bk_76_13 : (aMC 76)[13]? = some [.bipush (-1), .ireturn] := by decide +kernel
theorem bk_76_14 : (aMC 76)[14]? = some [.aload 0, .bipush 9, .invokevirtual 1600075, .bipush 0, .istore 2, .goto 1] := by decide +kernel
theorem bk_76_15 : (aMC 76)[15]? = some [.aload 0, .bipush 13, .invokevirtual 1584067, .ifCond .eq 17] := by decide +kernel
theorem bk_76_16 : (aMC 76)[16]? = some [.aload 0, .bipush 10, .invokevirtual 1600075, .aload 0, .bipush 10, .invokevirtual 1592074, .aload 0, .invokevirtual 1532065, .bipush 1, .istore 2, .goto 1] := by decide +kernel
theorem bk_76_17 : (aMC 76)[17]? = some [.aload 0, .bipush 12, .invokevirtual 1584067, .ifCond .eq 19] := by decide +kernel
theorem bk_76_18 : (aMC 76)[18]? = some [.aload 0, .bipush 10, .invokevirtual 1600075, .aload 0, .bipush 11, .invokevirtual 1600075, .aload 0, .bipush 11, .invokevirtual 1592074, .aload 0, .invokevirtual 1532065, .bipush 1, .istore 2, .goto 1] := by decide +kernel
theorem bk_76_19 : (aMC 76)[19]? = some [.aload 0, .bipush 10, .invokevirtual 1600075, .aload 0, .bipush 11, .invokevirtual 1600075, .iload 1, .ifCond .ne 21] := by decide +kernel
theorem bk_76_20 : (aMC 76)[20]? = some [.bipush 0, .ireturn] := by decide +kernel
theorem bk_76_21 : (aMC 76)[21]? = some [.aload 0, .bipush 41, .invokevirtual 1580068, .ifCond .ne 23] := by decide +kernel
theorem bk_76_22 : (aMC 76)[22]? = some [.aload 0, .bipush 1, .invokevirtual 1560066, .ireturn] := by decide +kernel
theorem bk_76_23 : (aMC 76)[23]? = some [.aload 0, .aload 0, .getfield 128312164, .bipush 1, .isub, .putfield 128312164, .iload 1, .bipush 1, .isub, .istore 1, .aload 0, .aload 0, .getfield 128112156, .bipush 1, .isub, .putfield 128112156, .aload 0, .bipush 9, .invokevirtual 1600075, .aload 0, .invokevirtual 1532065, .goto 1] := by decide +kernel
set_option maxHeartbeats 4000000 in
theorem h76_l {X : aX} {d : Nat} {k : Nat → aK} (hk : gKs k) {M0 : Nat → Nat → Int32} {c : Int} (hc : 0 ≤ c) :
    ∀ (nn : Nat) (n o b t r : Nat) (i1 i2 : Int) (M1 : Nat → Nat → Int32) (u3 : Value) (hW : gWu M0 M1 n o b t r (b + (1 - i2))) (hi1 : i1 = r) (hi2 : i2 = 0 ∨ i2 = 1) (hd0 : i2 = 0 → t ≠ 3) (hS : (M1 188 38).toInt + ((o : Int) - r + b + c) ≤ (M1 188 26).toInt) (hn : (M1 188 24).toInt - (M1 188 26).toInt ≤ nn), zW X (d + 1 + 1 + 1 + 1 + 1 + 1 + 1 + 1 + 1) 76 1 [.iload 2, .ifCond .eq 15] [.ref 188, iv i1, iv i2, u3] [] (gH k M1) (fun rv h' => ∃ e M', rv = some (iv e) ∧ h' = gH k M' ∧ gTs M' ∧ gFw M0 M' ∧ 0 ≤ (M' 188 38).toInt ∧ (M' 188 38).toInt ≤ 500 ∧ 0 ≤ (M' 188 39).toInt ∧ (M' 188 39).toInt ≤ 8 ∧ 0 ≤ (M' 188 41).toInt ∧ (M' 188 41).toInt ≤ 40 ∧ (e = -1 ∨ e = 0 ∧ (M' 188 38).toInt + c ≤ (M' 188 26).toInt ∧ (M' 188 39).toInt = 0 ∧ gEff M0 M' 0 1)) := by
  intro nn
  induction nn with
  | zero =>
    intro n o b t r i1 i2 M1 u3 hW hi1 hi2 hd0 hS hn
    obtain ⟨s1, s2, s3, s4, s5, s6, s7, s8⟩ := id hW
    have hTs := s1
    have ln := (gSk_le s6).1
    obtain ⟨-, l2, l3, -, l5⟩ := gSk_le s6
    have ln : n ≤ 27 := by split at ln <;> omega
    obtain ⟨p1, p2, p3, p4, p5⟩ := s1.1
    obtain ⟨q1, q2, q3, q4, q5, -, -⟩ := s1.2
    have hWd : i2 = 0 → gWu M0 M1 n o b t r (b + 1) := fun z => by
      rwa [z, show (b : Int) + (1 - 0) = b + 1 by omega] at hW
    refine wP (ls' := [.ref 188, iv i1, iv i2, u3]) (st' := [iv i2]) rfl rfl ?_
    refine wIf0 (n1 := 15) rfl bk_76_15 bk_76_2 (by omega) (fun g0 => ?_) (fun g0 => ?_)
    · replace g0 : (i2 : Int) = 0 := g0
      have hWd := hWd g0
      have hd0 := hd0 g0
      clear hi2
      refine wP (ls' := [.ref 188, iv i1, iv i2, u3]) (st' := [.ref 188]) rfl rfl ?_
      refine wP (ls' := [.ref 188, iv i1, iv i2, u3]) (st' := [iv 13, .ref 188]) rfl rfl ?_
      refine wCall hk (q := 67) (na := 1) (a := 188) (as := [iv 13]) (t := []) rfl (by decide +kernel) (by decide) (by decide +kernel) (Nat.le_of_ble_eq_true rfl) rfl rfl (zRn.mono (h67 hk (by omega)) (fun rv h' hq => ?_))
      obtain ⟨rfl, e1, rfl, r1⟩ := hq
      refine ⟨rfl, ?_⟩
      show zW X _ 76 15 [.ifCond .eq 17] [.ref 188, iv i1, iv i2, u3] [iv e1] (gH k M1) _
      refine wIf0 (n1 := 17) rfl bk_76_17 bk_76_16 (by omega) (fun g1 => ?_) (fun g1 => ?_)
      · replace g1 : (e1 : Int) = 0 := g1
        clear r1
        refine wP (ls' := [.ref 188, iv i1, iv i2, u3]) (st' := [.ref 188]) rfl rfl ?_
        refine wP (ls' := [.ref 188, iv i1, iv i2, u3]) (st' := [iv 12, .ref 188]) rfl rfl ?_
        refine wCall hk (q := 67) (na := 1) (a := 188) (as := [iv 12]) (t := []) rfl (by decide +kernel) (by decide) (by decide +kernel) (Nat.le_of_ble_eq_true rfl) rfl rfl (zRn.mono (h67 hk (by omega)) (fun rv h' hq => ?_))
        obtain ⟨rfl, e2, rfl, r2⟩ := hq
        refine ⟨rfl, ?_⟩
        show zW X _ 76 17 [.ifCond .eq 19] [.ref 188, iv i1, iv i2, u3] [iv e2] (gH k M1) _
        refine wIf0 (n1 := 19) rfl bk_76_19 bk_76_18 (by omega) (fun g2 => ?_) (fun g2 => ?_)
        · replace g2 : (e2 : Int) = 0 := g2
          clear r2
          refine wP (ls' := [.ref 188, iv i1, iv i2, u3]) (st' := [.ref 188]) rfl rfl ?_
          refine wP (ls' := [.ref 188, iv i1, iv i2, u3]) (st' := [iv 10, .ref 188]) rfl rfl ?_
          refine wCall hk (q := 75) (na := 1) (a := 188) (as := [iv 10]) (t := []) rfl (by decide +kernel) (by decide) (by decide +kernel) (Nat.le_of_ble_eq_true rfl) rfl rfl (zRn.mono (h75 hk (Or.inr (Or.inl rfl)) hc hWd hS ⟨fun _ => hd0, fun z => absurd z (by decide)⟩) (fun rv h' hq => ?_))
          obtain ⟨M2, n2, o2, b2, t2, rfl, rfl, wq, hS2, hK2, -, hT2, -⟩ := hq
          have hT2 := hT2 rfl
          have k24 := congrArg Int32.toInt (hK2 24 (by decide) (by decide))
          have k25 := congrArg Int32.toInt (hK2 25 (by decide) (by decide))
          have k26 := congrArg Int32.toInt (hK2 26 (by decide) (by decide))
          have k27 := congrArg Int32.toInt (hK2 27 (by decide) (by decide))
          have k28 := congrArg Int32.toInt (hK2 28 (by decide) (by decide))
          have ln2 := (gSk_le wq.2.2.2.2.2.1).1
          obtain ⟨-, j2, j3, -, j5⟩ := gSk_le wq.2.2.2.2.2.1
          have jo := wq.2.2.2.2.1
          have ln2 : n2 ≤ 26 := by split at ln2 <;> omega
          refine ⟨rfl, ?_⟩
          show zW X _ 76 19 [.aload 0, .bipush 11, .invokevirtual 1600075, .iload 1, .ifCond .ne 21] [.ref 188, iv i1, iv i2, u3] [] (gH k M2) _
          refine wP (ls' := [.ref 188, iv i1, iv i2, u3]) (st' := [.ref 188]) rfl rfl ?_
          refine wP (ls' := [.ref 188, iv i1, iv i2, u3]) (st' := [iv 11, .ref 188]) rfl rfl ?_
          refine wCall hk (q := 75) (na := 1) (a := 188) (as := [iv 11]) (t := []) rfl (by decide +kernel) (by decide) (by decide +kernel) (Nat.le_of_ble_eq_true rfl) rfl rfl (zRn.mono (h75 hk (Or.inr (Or.inr rfl)) hc wq hS2 ⟨fun z => absurd z (by decide), fun _ => hT2⟩) (fun rv h' hq => ?_))
          clear hT2 ln2 j2 j3 j5 jo
          obtain ⟨M3, n3, o3, b3, t3, rfl, rfl, wq3, hS3, hK3, -, -, hT3⟩ := hq
          have hT2 := hT3 rfl
          have k24b := congrArg Int32.toInt (hK3 24 (by decide) (by decide))
          have k25b := congrArg Int32.toInt (hK3 25 (by decide) (by decide))
          have k26b := congrArg Int32.toInt (hK3 26 (by decide) (by decide))
          have k27b := congrArg Int32.toInt (hK3 27 (by decide) (by decide))
          have k28b := congrArg Int32.toInt (hK3 28 (by decide) (by decide))
          clear wq hS2
          have wq := wq3
          have hS2 := hS3
          clear wq3 hS3
          have ln2 := (gSk_le wq.2.2.2.2.2.1).1
          obtain ⟨-, j2, j3, -, j5⟩ := gSk_le wq.2.2.2.2.2.1
          have jo := wq.2.2.2.2.1
          have ln2 : n3 ≤ 26 := by split at ln2 <;> omega
          skip
          refine ⟨rfl, ?_⟩
          show zW X _ 76 19 [.iload 1, .ifCond .ne 21] [.ref 188, iv i1, iv i2, u3] [] (gH k M3) _
          refine wP (ls' := [.ref 188, iv i1, iv i2, u3]) (st' := [iv i1]) rfl rfl ?_
          refine wIf0 (n1 := 21) rfl bk_76_21 bk_76_20 (by omega) (fun g3 => ?_) (fun g3 => ?_)
          · replace g3 : ¬ (i1 : Int) = 0 := g3
            refine wP (ls' := [.ref 188, iv i1, iv i2, u3]) (st' := [.ref 188]) rfl rfl ?_
            refine wP (ls' := [.ref 188, iv i1, iv i2, u3]) (st' := [iv 41, .ref 188]) rfl rfl ?_
            refine wCall hk (q := 68) (na := 1) (a := 188) (as := [iv 41]) (t := []) rfl (by decide +kernel) (by decide) (by decide +kernel) (Nat.le_of_ble_eq_true rfl) rfl rfl (zRn.mono (h68 hk (by omega)) (fun rv h' hq => ?_))
            obtain ⟨rfl, e5, rfl, r5⟩ := hq
            have rz : 0 < r := by omega
            obtain ⟨m, rfl⟩ : ∃ m, n3 = m + 1 := ⟨n3 - 1, by
              have := (gSk_le wq.2.2.2.2.2.1).2.2.2.1
              omega⟩
            obtain ⟨o9, b9, t9, r9, hs9, dd⟩ := gSk_dn wq.2.2.2.2.2.1
            have dz : o3 = o9 + 1 ∧ b3 = b9 ∧ r = r9 + 1 := by
              rcases dd with ⟨_, d⟩ | ⟨_, d⟩ | ⟨_, d⟩ | ⟨_, d⟩ <;> omega
            obtain ⟨dz1, dz2, dz3⟩ := dz
            clear dd
            obtain ⟨a1, a2, a3, a4, a5, a6, a7, a8⟩ := id wq
            have w6 : gWu M0 (aPut (aPut M3 188 41 (Int32.ofInt ((M3 188 41).toInt - 1))) 188 39 (Int32.ofInt ((M3 188 39).toInt - 1))) m o9 b3 t9 r9 (b3 + 1) := by
              refine ⟨gTs_put (gTs_put a1 (by decide) (fun _ => by decide)) (by decide) (fun _ => by decide), a2.trans ((gFw_put (Or.inr ⟨rfl, Or.inr rfl⟩)).trans (gFw_put (Or.inr ⟨rfl, Or.inl rfl⟩))), ?_, ?_, by omega, ?_, ?_, (a8.put (by omega) (by decide) (by decide) (fun _ => by decide)).put (by omega) (by decide) (by decide) (fun _ => by decide)⟩
              · rw [aPut_f (by decide), aPut_e, iR (by omega) (by omega)]; omega
              · rw [aPut_e, iR (by omega) (by omega)]; omega
              · rw [aPut_r (by decide), aPut_r (by decide), dz2]; exact hs9
              · rw [aPut_f (by decide), aPut_f (by decide)]; exact a7
            have w6s : ((aPut (aPut M3 188 41 (Int32.ofInt ((M3 188 41).toInt - 1))) 188 39 (Int32.ofInt ((M3 188 39).toInt - 1))) 188 38).toInt + ((o9 : Int) - r9 + b3 + c) ≤ ((aPut (aPut M3 188 41 (Int32.ofInt ((M3 188 41).toInt - 1))) 188 39 (Int32.ofInt ((M3 188 39).toInt - 1))) 188 26).toInt := by
              rw [aPut_f (by decide), aPut_f (by decide), aPut_f (by decide), aPut_f (by decide)]
              omega
            refine ⟨rfl, ?_⟩
            show zW X _ 76 21 [.ifCond .ne 23] [.ref 188, iv i1, iv i2, u3] [iv e5] (gH k M3) _
            refine wIf0 (n1 := 23) rfl bk_76_23 bk_76_22 (by omega) (fun g4 => ?_) (fun g4 => ?_)
            · replace g4 : ¬ (e5 : Int) = 0 := g4
              obtain ⟨-, r5a, r5b⟩ := r5.resolve_right (fun z => g4 z.1)
              refine wP (ls' := [.ref 188, iv i1, iv i2, u3]) (st' := [.ref 188]) rfl rfl ?_
              refine wP (ls' := [.ref 188, iv i1, iv i2, u3]) (st' := [.ref 188, .ref 188]) rfl rfl ?_
              refine wGetN hk (f := 41) (e := (M3 188 41).toInt) (by decide +kernel) (iE _) ?_
              refine wP (ls' := [.ref 188, iv i1, iv i2, u3]) (st' := [iv 1, iv (M3 188 41).toInt, .ref 188]) rfl rfl ?_
              refine wSub ?_
              refine wPutN hk (f := 41) (by decide +kernel) (Or.inl rfl) ?_
              refine wP (ls' := [.ref 188, iv i1, iv i2, u3]) (st' := [iv i1]) rfl rfl ?_
              refine wP (ls' := [.ref 188, iv i1, iv i2, u3]) (st' := [iv 1, iv i1]) rfl rfl ?_
              refine wSub ?_
              refine wP (ls' := [.ref 188, iv (i1 - 1), iv i2, u3]) (st' := []) rfl rfl ?_
              refine wP (ls' := [.ref 188, iv (i1 - 1), iv i2, u3]) (st' := [.ref 188]) rfl rfl ?_
              refine wP (ls' := [.ref 188, iv (i1 - 1), iv i2, u3]) (st' := [.ref 188, .ref 188]) rfl rfl ?_
              refine wGetN hk (f := 39) (e := (M3 188 39).toInt) (by decide +kernel) (by rw [aPut_f (by decide)]; exact iE _) ?_
              refine wP (ls' := [.ref 188, iv (i1 - 1), iv i2, u3]) (st' := [iv 1, iv (M3 188 39).toInt, .ref 188]) rfl rfl ?_
              refine wSub ?_
              refine wPutN hk (f := 39) (by decide +kernel) (Or.inl rfl) ?_
              refine wP (ls' := [.ref 188, iv (i1 - 1), iv i2, u3]) (st' := [.ref 188]) rfl rfl ?_
              refine wP (ls' := [.ref 188, iv (i1 - 1), iv i2, u3]) (st' := [iv 9, .ref 188]) rfl rfl ?_
              refine wCall hk (q := 75) (na := 1) (a := 188) (as := [iv 9]) (t := []) rfl (by decide +kernel) (by decide) (by decide +kernel) (Nat.le_of_ble_eq_true rfl) rfl rfl (zRn.mono (h75 hk (Or.inl rfl) hc w6 w6s ⟨fun z => absurd z (by decide), fun z => absurd z (by decide)⟩) (fun rv h' hq => ?_))
              obtain ⟨M7, n4, o4, b4, t4, rfl, rfl, wq, hS3, hK3, ht9, -, -⟩ := hq
              have ht9 := ht9 rfl
              have k24 := congrArg Int32.toInt (hK3 24 (by decide) (by decide))
              have k25 := congrArg Int32.toInt (hK3 25 (by decide) (by decide))
              have k26 := congrArg Int32.toInt (hK3 26 (by decide) (by decide))
              have k27 := congrArg Int32.toInt (hK3 27 (by decide) (by decide))
              rw [aPut_f (by decide), aPut_f (by decide)] at k24 k25 k26 k27
              obtain ⟨y1, y2, y3, y4, -, -, -⟩ := wq.1.2
              obtain ⟨-, j2, j3, -, j5⟩ := gSk_le wq.2.2.2.2.2.1
              have jo := wq.2.2.2.2.1
              refine ⟨rfl, ?_⟩
              show zW X _ 76 23 [.aload 0, .invokevirtual 1532065, .goto 1] [.ref 188, iv (i1 - 1), iv i2, u3] [] (gH k M7) _
              refine wP (ls' := [.ref 188, iv (i1 - 1), iv i2, u3]) (st' := [.ref 188]) rfl rfl ?_
              refine wCall hk (q := 65) (na := 0) (a := 188) (as := []) (t := []) rfl (by decide +kernel) (by decide) (by decide +kernel) (Nat.le_of_ble_eq_true rfl) rfl rfl (zRn.mono (h65p hk wq.1.1) (fun rv h' hq => ?_))
              obtain ⟨M9, rfl, rfl, hR⟩ := hq
              obtain ⟨wr, wm, wf, w24⟩ := gWu_rd wq (by omega) hR
              have wm := congrArg Int32.toInt wm
              have w24 := congrArg Int32.toInt w24
              obtain ⟨x1, x2, x3, x4, -, -, -⟩ := wr.1.2
              obtain ⟨pp1, pp2, pp3, pp4, pp5⟩ := wr.1.1
              refine ⟨rfl, ?_⟩
              show zW X _ 76 23 [.goto 1] [.ref 188, iv (i1 - 1), iv i2, u3] [] (gH k M9) _
              refine wGoto (n1 := 1) rfl bk_76_1 ?_
              exfalso
              omega
            · replace g4 : ¬ (¬ (e5 : Int) = 0) := g4
              clear r5
              refine wP (ls' := [.ref 188, iv i1, iv i2, u3]) (st' := [.ref 188]) rfl rfl ?_
              refine wP (ls' := [.ref 188, iv i1, iv i2, u3]) (st' := [iv 1, .ref 188]) rfl rfl ?_
              refine wCall hk (q := 66) (na := 1) (a := 188) (as := [iv 1]) (t := []) rfl (by decide +kernel) (by decide) (by decide +kernel) (Nat.le_of_ble_eq_true rfl) rfl rfl (zRn.mono (h66 hk) (fun rv h' hq => ?_))
              obtain ⟨rfl, rfl⟩ := hq
              refine ⟨rfl, ?_⟩
              show zW X _ 76 22 [.ireturn] [.ref 188, iv i1, iv i2, u3] [iv (-1)] (gH k (gFa M3 1)) _
              obtain ⟨g1_, g2_, g3_, g4_, g5_, g6_, g7_, g8_⟩ := wq
              obtain ⟨f1, f2, f3, f4, f5⟩ := gFa_s (c := 1) g1_
              exact wIret (Or.inl (by decide +kernel)) ⟨-1, _, rfl, rfl, f1, g2_.trans f2.fw, by rw [f3]; omega, by rw [f3]; omega, by rw [f2.2.2 39 (by decide) (by decide) (by decide) (by decide) (by decide) (by decide) (by decide)]; omega, by rw [f2.2.2 39 (by decide) (by decide) (by decide) (by decide) (by decide) (by decide) (by decide)]; omega, by rw [f2.2.2 41 (by decide) (by decide) (by decide) (by decide) (by decide) (by decide) (by decide)]; omega, by rw [f2.2.2 41 (by decide) (by decide) (by decide) (by decide) (by decide) (by decide) (by decide)]; omega, Or.inl rfl⟩
          · replace g3 : ¬ (¬ (i1 : Int) = 0) := g3
            refine wP (ls' := [.ref 188, iv i1, iv i2, u3]) (st' := [iv 0]) rfl rfl ?_
            obtain ⟨g1_, g2_, g3_, g4_, g5_, g6_, g7_, g8_⟩ := wq
            have n0 : n3 = 0 := by
              rcases Nat.eq_zero_or_pos n3 with z | z
              · exact z
              · exfalso
                obtain ⟨m, rfl⟩ : ∃ m, n3 = m + 1 := ⟨n3 - 1, by omega⟩
                obtain ⟨o9, b9, t9, r9, -, dd⟩ := gSk_dn g6_
                rcases dd with ⟨_, d⟩ | ⟨_, d⟩ | ⟨_, d⟩ | ⟨_, d⟩ <;> omega
            obtain ⟨z1, z2, z3, z4⟩ := (gSk_le g6_).2.2.2.1 n0
            exact wIret (Or.inl (by decide +kernel)) ⟨0, _, rfl, rfl, g1_, g2_, g7_, by omega, by omega, by omega, by omega, by omega, Or.inr ⟨rfl, by omega, by omega, by rw [z2] at g8_; simpa using g8_⟩⟩
        · replace g2 : ¬ ((e2 : Int) = 0) := g2
          obtain ⟨-, r2a, r2b⟩ := r2.resolve_right (fun z => g2 z.1)
          refine wP (ls' := [.ref 188, iv i1, iv i2, u3]) (st' := [.ref 188]) rfl rfl ?_
          refine wP (ls' := [.ref 188, iv i1, iv i2, u3]) (st' := [iv 10, .ref 188]) rfl rfl ?_
          refine wCall hk (q := 75) (na := 1) (a := 188) (as := [iv 10]) (t := []) rfl (by decide +kernel) (by decide) (by decide +kernel) (Nat.le_of_ble_eq_true rfl) rfl rfl (zRn.mono (h75 hk (Or.inr (Or.inl rfl)) hc hWd hS ⟨fun _ => hd0, fun z => absurd z (by decide)⟩) (fun rv h' hq => ?_))
          obtain ⟨M2, n2, o2, b2, t2, rfl, rfl, wq, hS2, hK2, -, hT2, -⟩ := hq
          have hT2 := hT2 rfl
          have k24 := congrArg Int32.toInt (hK2 24 (by decide) (by decide))
          have k25 := congrArg Int32.toInt (hK2 25 (by decide) (by decide))
          have k26 := congrArg Int32.toInt (hK2 26 (by decide) (by decide))
          have k27 := congrArg Int32.toInt (hK2 27 (by decide) (by decide))
          have k28 := congrArg Int32.toInt (hK2 28 (by decide) (by decide))
          have ln2 := (gSk_le wq.2.2.2.2.2.1).1
          obtain ⟨-, j2, j3, -, j5⟩ := gSk_le wq.2.2.2.2.2.1
          have jo := wq.2.2.2.2.1
          have ln2 : n2 ≤ 26 := by split at ln2 <;> omega
          refine ⟨rfl, ?_⟩
          show zW X _ 76 18 [.aload 0, .bipush 11, .invokevirtual 1600075, .aload 0, .bipush 11, .invokevirtual 1592074, .aload 0, .invokevirtual 1532065, .bipush 1, .istore 2, .goto 1] [.ref 188, iv i1, iv i2, u3] [] (gH k M2) _
          refine wP (ls' := [.ref 188, iv i1, iv i2, u3]) (st' := [.ref 188]) rfl rfl ?_
          refine wP (ls' := [.ref 188, iv i1, iv i2, u3]) (st' := [iv 11, .ref 188]) rfl rfl ?_
          refine wCall hk (q := 75) (na := 1) (a := 188) (as := [iv 11]) (t := []) rfl (by decide +kernel) (by decide) (by decide +kernel) (Nat.le_of_ble_eq_true rfl) rfl rfl (zRn.mono (h75 hk (Or.inr (Or.inr rfl)) hc wq hS2 ⟨fun z => absurd z (by decide), fun _ => hT2⟩) (fun rv h' hq => ?_))
          clear hT2 ln2 j2 j3 j5 jo
          obtain ⟨M3, n3, o3, b3, t3, rfl, rfl, wq3, hS3, hK3, -, -, hT3⟩ := hq
          have hT2 := hT3 rfl
          have k24b := congrArg Int32.toInt (hK3 24 (by decide) (by decide))
          have k25b := congrArg Int32.toInt (hK3 25 (by decide) (by decide))
          have k26b := congrArg Int32.toInt (hK3 26 (by decide) (by decide))
          have k27b := congrArg Int32.toInt (hK3 27 (by decide) (by decide))
          have k28b := congrArg Int32.toInt (hK3 28 (by decide) (by decide))
          clear wq hS2
          have wq := wq3
          have hS2 := hS3
          clear wq3 hS3
          have ln2 := (gSk_le wq.2.2.2.2.2.1).1
          obtain ⟨-, j2, j3, -, j5⟩ := gSk_le wq.2.2.2.2.2.1
          have jo := wq.2.2.2.2.1
          have ln2 : n3 ≤ 26 := by split at ln2 <;> omega
          skip
          refine ⟨rfl, ?_⟩
          show zW X _ 76 18 [.aload 0, .bipush 11, .invokevirtual 1592074, .aload 0, .invokevirtual 1532065, .bipush 1, .istore 2, .goto 1] [.ref 188, iv i1, iv i2, u3] [] (gH k M3) _
          refine wP (ls' := [.ref 188, iv i1, iv i2, u3]) (st' := [.ref 188]) rfl rfl ?_
          refine wP (ls' := [.ref 188, iv i1, iv i2, u3]) (st' := [iv 11, .ref 188]) rfl rfl ?_
          refine wCall hk (q := 74) (na := 1) (a := 188) (as := [iv 11]) (t := []) rfl (by decide +kernel) (by decide) (by decide +kernel) (Nat.le_of_ble_eq_true rfl) rfl rfl (zRn.mono (h74 hk ⟨by have := wq.2.2.1; omega, by have := wq.2.2.1; omega⟩) (fun rv h' hq => ?_))
          obtain ⟨rfl, rfl⟩ := hq
          have sk := gWa_sk (M := M3) (w := 11) wq.2.2.1
          have sp : gSk (gWa M3 11 212) (n3 + 1) = some (o3, b3 + 1, 1, r) := by
            rw [gSk_up (by rw [sk.1]; exact wq.2.2.2.2.2.1), sk.2]
            rw [hT2]; rfl
          have wu := gWu_pb wq (by omega) (by omega) sp
          refine ⟨rfl, ?_⟩
          show zW X _ 76 18 [.aload 0, .invokevirtual 1532065, .bipush 1, .istore 2, .goto 1] [.ref 188, iv i1, iv i2, u3] [] (gH k (gWa M3 11)) _
          refine wP (ls' := [.ref 188, iv i1, iv i2, u3]) (st' := [.ref 188]) rfl rfl ?_
          refine wCall hk (q := 65) (na := 0) (a := 188) (as := []) (t := []) rfl (by decide +kernel) (by decide) (by decide +kernel) (Nat.le_of_ble_eq_true rfl) rfl rfl (zRn.mono (h65p hk wu.1.1) (fun rv h' hq => ?_))
          obtain ⟨M9, rfl, rfl, hR⟩ := hq
          obtain ⟨wr, wm, wf, w24⟩ := gWu_rd wu (by omega) hR
          obtain ⟨y1, y2, y3, y4, -, -, -⟩ := wr.1.2
          obtain ⟨pp1, pp2, pp3, pp4, pp5⟩ := wr.1.1
          rw [gWa_f (by decide)] at wm wf w24
          have wm := congrArg Int32.toInt wm
          have w24 := congrArg Int32.toInt w24
          refine ⟨rfl, ?_⟩
          show zW X _ 76 18 [.bipush 1, .istore 2, .goto 1] [.ref 188, iv i1, iv i2, u3] [] (gH k M9) _
          refine wP (ls' := [.ref 188, iv i1, iv i2, u3]) (st' := [iv 1]) rfl rfl ?_
          refine wP (ls' := [.ref 188, iv i1, iv 1, u3]) (st' := []) rfl rfl ?_
          refine wGoto (n1 := 1) rfl bk_76_1 ?_
          exfalso
          omega
      · replace g1 : ¬ ((e1 : Int) = 0) := g1
        obtain ⟨-, r1a, r1b⟩ := r1.resolve_right (fun z => g1 z.1)
        refine wP (ls' := [.ref 188, iv i1, iv i2, u3]) (st' := [.ref 188]) rfl rfl ?_
        refine wP (ls' := [.ref 188, iv i1, iv i2, u3]) (st' := [iv 10, .ref 188]) rfl rfl ?_
        refine wCall hk (q := 75) (na := 1) (a := 188) (as := [iv 10]) (t := []) rfl (by decide +kernel) (by decide) (by decide +kernel) (Nat.le_of_ble_eq_true rfl) rfl rfl (zRn.mono (h75 hk (Or.inr (Or.inl rfl)) hc hWd hS ⟨fun _ => hd0, fun z => absurd z (by decide)⟩) (fun rv h' hq => ?_))
        obtain ⟨M2, n2, o2, b2, t2, rfl, rfl, wq, hS2, hK2, -, hT2, -⟩ := hq
        have hT2 := hT2 rfl
        have k24 := congrArg Int32.toInt (hK2 24 (by decide) (by decide))
        have k25 := congrArg Int32.toInt (hK2 25 (by decide) (by decide))
        have k26 := congrArg Int32.toInt (hK2 26 (by decide) (by decide))
        have k27 := congrArg Int32.toInt (hK2 27 (by decide) (by decide))
        have k28 := congrArg Int32.toInt (hK2 28 (by decide) (by decide))
        have ln2 := (gSk_le wq.2.2.2.2.2.1).1
        obtain ⟨-, j2, j3, -, j5⟩ := gSk_le wq.2.2.2.2.2.1
        have jo := wq.2.2.2.2.1
        have ln2 : n2 ≤ 26 := by split at ln2 <;> omega
        refine ⟨rfl, ?_⟩
        show zW X _ 76 16 [.aload 0, .bipush 10, .invokevirtual 1592074, .aload 0, .invokevirtual 1532065, .bipush 1, .istore 2, .goto 1] [.ref 188, iv i1, iv i2, u3] [] (gH k M2) _
        refine wP (ls' := [.ref 188, iv i1, iv i2, u3]) (st' := [.ref 188]) rfl rfl ?_
        refine wP (ls' := [.ref 188, iv i1, iv i2, u3]) (st' := [iv 10, .ref 188]) rfl rfl ?_
        refine wCall hk (q := 74) (na := 1) (a := 188) (as := [iv 10]) (t := []) rfl (by decide +kernel) (by decide) (by decide +kernel) (Nat.le_of_ble_eq_true rfl) rfl rfl (zRn.mono (h74 hk ⟨by have := wq.2.2.1; omega, by have := wq.2.2.1; omega⟩) (fun rv h' hq => ?_))
        obtain ⟨rfl, rfl⟩ := hq
        have sk := gWa_sk (M := M2) (w := 10) wq.2.2.1
        have sp : gSk (gWa M2 10 212) (n2 + 1) = some (o2, b2 + 1, 2, r) := by
          rw [gSk_up (by rw [sk.1]; exact wq.2.2.2.2.2.1), sk.2]
          rcases hT2 with z | z <;> rw [z] <;> rfl
        have wu := gWu_pb wq (by omega) (by omega) sp
        refine ⟨rfl, ?_⟩
        show zW X _ 76 16 [.aload 0, .invokevirtual 1532065, .bipush 1, .istore 2, .goto 1] [.ref 188, iv i1, iv i2, u3] [] (gH k (gWa M2 10)) _
        refine wP (ls' := [.ref 188, iv i1, iv i2, u3]) (st' := [.ref 188]) rfl rfl ?_
        refine wCall hk (q := 65) (na := 0) (a := 188) (as := []) (t := []) rfl (by decide +kernel) (by decide) (by decide +kernel) (Nat.le_of_ble_eq_true rfl) rfl rfl (zRn.mono (h65p hk wu.1.1) (fun rv h' hq => ?_))
        obtain ⟨M9, rfl, rfl, hR⟩ := hq
        obtain ⟨wr, wm, wf, w24⟩ := gWu_rd wu (by omega) hR
        obtain ⟨y1, y2, y3, y4, -, -, -⟩ := wr.1.2
        obtain ⟨pp1, pp2, pp3, pp4, pp5⟩ := wr.1.1
        rw [gWa_f (by decide)] at wm wf w24
        have wm := congrArg Int32.toInt wm
        have w24 := congrArg Int32.toInt w24
        refine ⟨rfl, ?_⟩
        show zW X _ 76 16 [.bipush 1, .istore 2, .goto 1] [.ref 188, iv i1, iv i2, u3] [] (gH k M9) _
        refine wP (ls' := [.ref 188, iv i1, iv i2, u3]) (st' := [iv 1]) rfl rfl ?_
        refine wP (ls' := [.ref 188, iv i1, iv 1, u3]) (st' := []) rfl rfl ?_
        refine wGoto (n1 := 1) rfl bk_76_1 ?_
        exfalso
        omega
    · replace g0 : ¬ ((i2 : Int) = 0) := g0
      have i2v : i2 = 1 := by omega
      clear hi2 hd0 hWd
      refine wP (ls' := [.ref 188, iv i1, iv i2, u3]) (st' := [.ref 188]) rfl rfl ?_
      refine wP (ls' := [.ref 188, iv i1, iv i2, u3]) (st' := [iv 14, .ref 188]) rfl rfl ?_
      refine wCall hk (q := 67) (na := 1) (a := 188) (as := [iv 14]) (t := []) rfl (by decide +kernel) (by decide) (by decide +kernel) (Nat.le_of_ble_eq_true rfl) rfl rfl (zRn.mono (h67 hk (by omega)) (fun rv h' hq => ?_))
      obtain ⟨rfl, e16, rfl, r16⟩ := hq
      refine ⟨rfl, ?_⟩
      show zW X _ 76 2 [.istore 3, .iload 3, .ifCond .ne 4] [.ref 188, iv i1, iv i2, u3] [iv e16] (gH k M1) _
      refine wP (ls' := [.ref 188, iv i1, iv i2, iv e16]) (st' := []) rfl rfl ?_
      refine wP (ls' := [.ref 188, iv i1, iv i2, iv e16]) (st' := [iv e16]) rfl rfl ?_
      refine wIf0 (n1 := 4) rfl bk_76_4 bk_76_3 (by omega) (fun g1 => ?_) (fun g1 => ?_)
      · replace g1 : ¬ (e16 : Int) = 0 := g1
        obtain ⟨-, r16a, r16b⟩ := r16.resolve_right (fun z => g1 z.1)
        refine wP (ls' := [.ref 188, iv i1, iv i2, iv e16]) (st' := [.ref 188]) rfl rfl ?_
        refine wGetN hk (f := 39) (e := (M1 188 39).toInt) (by decide +kernel) (iE _) ?_
        refine wP (ls' := [.ref 188, iv i1, iv i2, iv e16]) (st' := [iv 8, iv (M1 188 39).toInt]) rfl rfl ?_
        refine wIfc (n1 := 6) rfl bk_76_6 bk_76_5 (by first | exact iG _ | omega) (by omega) (fun g2 => ?_) (fun g2 => ?_)
        · replace g2 : ¬ ((M1 188 39).toInt : Int) = 8 := g2
          refine wP (ls' := [.ref 188, iv i1, iv i2, iv e16]) (st' := [.ref 188]) rfl rfl ?_
          refine wP (ls' := [.ref 188, iv i1, iv i2, iv e16]) (st' := [.ref 188, .ref 188]) rfl rfl ?_
          refine wGetN hk (f := 39) (e := (M1 188 39).toInt) (by decide +kernel) (iE _) ?_
          refine wP (ls' := [.ref 188, iv i1, iv i2, iv e16]) (st' := [iv 1, iv (M1 188 39).toInt, .ref 188]) rfl rfl ?_
          refine wAdd ?_
          refine wPutN hk (f := 39) (by decide +kernel) (Or.inl rfl) ?_
          refine wP (ls' := [.ref 188, iv i1, iv i2, iv e16]) (st' := [iv e16]) rfl rfl ?_
          refine wIf0 (n1 := 8) rfl bk_76_8 bk_76_7 (by omega) (fun g3 => ?_) (fun g3 => ?_)
          · replace g3 : ¬ (e16 : Int) = 0 := g3
            refine wP (ls' := [.ref 188, iv i1, iv i2, iv e16]) (st' := [.ref 188]) rfl rfl ?_
            refine wP (ls' := [.ref 188, iv i1, iv i2, iv e16]) (st' := [iv e16, .ref 188]) rfl rfl ?_
            refine wIf0 (n1 := 10) rfl bk_76_10 bk_76_9 (by omega) (fun g4 => ?_) (fun g4 => ?_)
            · replace g4 : (e16 : Int) = 0 := g4
              exact absurd g4 (by omega)
            · replace g4 : ¬ ((e16 : Int) = 0) := g4
              refine wP (ls' := [.ref 188, iv i1, iv i2, iv e16]) (st' := [iv 9, .ref 188]) rfl rfl ?_
              refine wGoto (n1 := 11) rfl bk_76_11 ?_
              refine wCall hk (q := 74) (na := 1) (a := 188) (as := [iv 9]) (t := []) rfl (by decide +kernel) (by decide) (by decide +kernel) (Nat.le_of_ble_eq_true rfl) rfl rfl (zRn.mono (h74 hk ⟨by rw [aPut_f (by decide)]; omega, by rw [aPut_f (by decide)]; omega⟩) (fun rv h' hq => ?_))
              obtain ⟨rfl, rfl⟩ := hq
              have sk := gWa_sk (M := M1) (w := 9) s3
              have sp : gSk (gWa M1 9 212) (n + 1) = some (o + 1, b, 3, r) := by
                rw [gSk_up (by rw [sk.1]; exact s6), sk.2]
                rfl
              have wu := gWu_po hW (by omega) (by omega) (by omega) sp
              refine ⟨rfl, ?_⟩
              show zW X _ 76 11 [.aload 0, .invokevirtual 1532065, .goto 1] [.ref 188, iv i1, iv i2, iv e16] [] (gH k (gWa (aPut M1 188 39 (Int32.ofInt ((M1 188 39).toInt + 1))) 9)) _
              refine wP (ls' := [.ref 188, iv i1, iv i2, iv e16]) (st' := [.ref 188]) rfl rfl ?_
              refine wCall hk (q := 65) (na := 0) (a := 188) (as := []) (t := []) rfl (by decide +kernel) (by decide) (by decide +kernel) (Nat.le_of_ble_eq_true rfl) rfl rfl (zRn.mono (h65p hk wu.1.1) (fun rv h' hq => ?_))
              obtain ⟨M9, rfl, rfl, hR⟩ := hq
              obtain ⟨wr, wm, wf, w24⟩ := gWu_rd wu (by omega) hR
              obtain ⟨y1, y2, y3, y4, -, -, -⟩ := wr.1.2
              obtain ⟨pp1, pp2, pp3, pp4, pp5⟩ := wr.1.1
              rw [gWa_f (by decide), aPut_f (by decide)] at wm wf w24
              have wm := congrArg Int32.toInt wm
              have w24 := congrArg Int32.toInt w24
              refine ⟨rfl, ?_⟩
              show zW X _ 76 11 [.goto 1] [.ref 188, iv i1, iv i2, iv e16] [] (gH k M9) _
              refine wGoto (n1 := 1) rfl bk_76_1 ?_
              exfalso
              omega
          · replace g3 : ¬ (¬ (e16 : Int) = 0) := g3
            exact absurd g3 (by omega)
        · replace g2 : ¬ (¬ ((M1 188 39).toInt : Int) = 8) := g2
          refine wP (ls' := [.ref 188, iv i1, iv i2, iv e16]) (st' := [.ref 188]) rfl rfl ?_
          refine wP (ls' := [.ref 188, iv i1, iv i2, iv e16]) (st' := [iv 3, .ref 188]) rfl rfl ?_
          refine wCall hk (q := 66) (na := 1) (a := 188) (as := [iv 3]) (t := []) rfl (by decide +kernel) (by decide) (by decide +kernel) (Nat.le_of_ble_eq_true rfl) rfl rfl (zRn.mono (h66 hk) (fun rv h' hq => ?_))
          obtain ⟨rfl, rfl⟩ := hq
          refine ⟨rfl, ?_⟩
          show zW X _ 76 5 [.ireturn] [.ref 188, iv i1, iv i2, iv e16] [iv (-1)] (gH k (gFa M1 3)) _
          obtain ⟨f1, f2, f3, f4, f5⟩ := gFa_s (c := 3) s1
          exact wIret (Or.inl (by decide +kernel)) ⟨-1, _, rfl, rfl, f1, s2.trans f2.fw, by rw [f3]; omega, by rw [f3]; omega, by rw [f2.2.2 39 (by decide) (by decide) (by decide) (by decide) (by decide) (by decide) (by decide)]; omega, by rw [f2.2.2 39 (by decide) (by decide) (by decide) (by decide) (by decide) (by decide) (by decide)]; omega, by rw [f2.2.2 41 (by decide) (by decide) (by decide) (by decide) (by decide) (by decide) (by decide)]; omega, by rw [f2.2.2 41 (by decide) (by decide) (by decide) (by decide) (by decide) (by decide) (by decide)]; omega, Or.inl rfl⟩
      · replace g1 : ¬ (¬ (e16 : Int) = 0) := g1
        clear r16
        refine wP (ls' := [.ref 188, iv i1, iv i2, iv e16]) (st' := [.ref 188]) rfl rfl ?_
        refine wP (ls' := [.ref 188, iv i1, iv i2, iv e16]) (st' := [iv 40, .ref 188]) rfl rfl ?_
        refine wCall hk (q := 68) (na := 1) (a := 188) (as := [iv 40]) (t := []) rfl (by decide +kernel) (by decide) (by decide +kernel) (Nat.le_of_ble_eq_true rfl) rfl rfl (zRn.mono (h68 hk (by omega)) (fun rv h' hq => ?_))
        obtain ⟨rfl, e20, rfl, r20⟩ := hq
        refine ⟨rfl, ?_⟩
        show zW X _ 76 3 [.ifCond .eq 12] [.ref 188, iv i1, iv i2, iv e16] [iv e20] (gH k M1) _
        refine wIf0 (n1 := 12) rfl bk_76_12 bk_76_4 (by omega) (fun g2 => ?_) (fun g2 => ?_)
        · replace g2 : (e20 : Int) = 0 := g2
          clear r20
          refine wP (ls' := [.ref 188, iv i1, iv i2, iv e16]) (st' := [.ref 188]) rfl rfl ?_
          refine wCall hk (q := 73) (na := 0) (a := 188) (as := []) (t := []) rfl (by decide +kernel) (by decide) (by decide +kernel) (Nat.le_of_ble_eq_true rfl) rfl rfl (zRn.mono (h73 hk hTs (c := (o : Int) - r + b + c) (by omega) (by omega) (by omega)) (fun rv h' hq => ?_))
          obtain ⟨e21, M2, rfl, rfl, hU⟩ := hq
          have hU0 := hU
          obtain ⟨u1, u2, u3, u4, uf, u5⟩ := hU
          have uz : e21 = -1 ∨ (M2 188 38).toInt + ((o : Int) - r + b + c) ≤ (M2 188 26).toInt ∧ (M1 188 26).toInt < (M2 188 26).toInt := u5.imp id (fun z => ⟨z.2.1, z.2.2.1⟩)
          have u39 := u2.2.2 39 (by decide) (by decide) (by decide) (by decide) (by decide) (by decide) (by decide)
          have u41 := u2.2.2 41 (by decide) (by decide) (by decide) (by decide) (by decide) (by decide) (by decide)
          have u24 := u2.2.2 24 (by decide) (by decide) (by decide) (by decide) (by decide) (by decide) (by decide)
          obtain ⟨vp1, vp2, vp3, vp4, vp5⟩ := u1.1
          have v39 := congrArg Int32.toInt u39
          have v41 := congrArg Int32.toInt u41
          have v24 := congrArg Int32.toInt u24
          have wd1 : ¬ e21 = -1 → gWu M0 M2 n o b t r (b + 1) := fun z => by
            rcases u5 with q | ⟨_, _, _, q⟩
            · exact absurd q z
            · have := gDn_wu hW (by omega) hU0 q
              rwa [show (b : Int) + (1 - i2) + 1 = b + 1 by omega] at this
          refine ⟨rfl, ?_⟩
          show zW X _ 76 12 [.bipush (-1), .if_icmp .ne 14] [.ref 188, iv i1, iv i2, iv e16] [iv e21] (gH k M2) _
          refine wP (ls' := [.ref 188, iv i1, iv i2, iv e16]) (st' := [iv (-1), iv e21]) rfl rfl ?_
          refine wIfc (n1 := 14) rfl bk_76_14 bk_76_13 (by omega) (by omega) (fun g3 => ?_) (fun g3 => ?_)
          · replace g3 : ¬ (e21 : Int) = (-1) := g3
            have uz := uz.resolve_left g3
            have wd1 := wd1 g3
            clear u5
            refine wP (ls' := [.ref 188, iv i1, iv i2, iv e16]) (st' := [.ref 188]) rfl rfl ?_
            refine wP (ls' := [.ref 188, iv i1, iv i2, iv e16]) (st' := [iv 9, .ref 188]) rfl rfl ?_
            refine wCall hk (q := 75) (na := 1) (a := 188) (as := [iv 9]) (t := []) rfl (by decide +kernel) (by decide) (by decide +kernel) (Nat.le_of_ble_eq_true rfl) rfl rfl (zRn.mono (h75 hk (Or.inl rfl) hc wd1 (by omega) ⟨fun z => absurd z (by decide), fun z => absurd z (by decide)⟩) (fun rv h' hq => ?_))
            obtain ⟨M3, n3, o3, b3, t3, rfl, rfl, wq, hS3, hK3, ht9, -, -⟩ := hq
            have ht9 := ht9 rfl
            have k24 := congrArg Int32.toInt (hK3 24 (by decide) (by decide))
            have k25 := congrArg Int32.toInt (hK3 25 (by decide) (by decide))
            have k26 := congrArg Int32.toInt (hK3 26 (by decide) (by decide))
            have k27 := congrArg Int32.toInt (hK3 27 (by decide) (by decide))
            obtain ⟨y1, y2, y3, y4, -, -, -⟩ := wq.1.2
            obtain ⟨-, j2, j3, -, j5⟩ := gSk_le wq.2.2.2.2.2.1
            have jo := wq.2.2.2.2.1
            refine ⟨rfl, ?_⟩
            show zW X _ 76 14 [.bipush 0, .istore 2, .goto 1] [.ref 188, iv i1, iv i2, iv e16] [] (gH k M3) _
            refine wP (ls' := [.ref 188, iv i1, iv i2, iv e16]) (st' := [iv 0]) rfl rfl ?_
            refine wP (ls' := [.ref 188, iv i1, iv 0, iv e16]) (st' := []) rfl rfl ?_
            refine wGoto (n1 := 1) rfl bk_76_1 ?_
            exfalso
            omega
          · replace g3 : ¬ (¬ (e21 : Int) = (-1)) := g3
            clear uz wd1
            refine wP (ls' := [.ref 188, iv i1, iv i2, iv e16]) (st' := [iv (-1)]) rfl rfl ?_
            exact wIret (Or.inl (by decide +kernel)) ⟨-1, _, rfl, rfl, u1, s2.trans u2.fw, u3, u4, by rw [u39]; omega, by rw [u39]; omega, by rw [u41]; omega, by rw [u41]; omega, Or.inl rfl⟩
        · replace g2 : ¬ ((e20 : Int) = 0) := g2
          obtain ⟨-, r20a, r20b⟩ := r20.resolve_right (fun z => g2 z.1)
          refine wP (ls' := [.ref 188, iv i1, iv i2, iv e16]) (st' := [.ref 188]) rfl rfl ?_
          refine wGetN hk (f := 39) (e := (M1 188 39).toInt) (by decide +kernel) (iE _) ?_
          refine wP (ls' := [.ref 188, iv i1, iv i2, iv e16]) (st' := [iv 8, iv (M1 188 39).toInt]) rfl rfl ?_
          refine wIfc (n1 := 6) rfl bk_76_6 bk_76_5 (by first | exact iG _ | omega) (by omega) (fun g3 => ?_) (fun g3 => ?_)
          · replace g3 : ¬ ((M1 188 39).toInt : Int) = 8 := g3
            refine wP (ls' := [.ref 188, iv i1, iv i2, iv e16]) (st' := [.ref 188]) rfl rfl ?_
            refine wP (ls' := [.ref 188, iv i1, iv i2, iv e16]) (st' := [.ref 188, .ref 188]) rfl rfl ?_
            refine wGetN hk (f := 39) (e := (M1 188 39).toInt) (by decide +kernel) (iE _) ?_
            refine wP (ls' := [.ref 188, iv i1, iv i2, iv e16]) (st' := [iv 1, iv (M1 188 39).toInt, .ref 188]) rfl rfl ?_
            refine wAdd ?_
            refine wPutN hk (f := 39) (by decide +kernel) (Or.inl rfl) ?_
            refine wP (ls' := [.ref 188, iv i1, iv i2, iv e16]) (st' := [iv e16]) rfl rfl ?_
            refine wIf0 (n1 := 8) rfl bk_76_8 bk_76_7 (by omega) (fun g4 => ?_) (fun g4 => ?_)
            · replace g4 : ¬ (e16 : Int) = 0 := g4
              exact absurd g4 (by omega)
            · replace g4 : ¬ (¬ (e16 : Int) = 0) := g4
              refine wP (ls' := [.ref 188, iv i1, iv i2, iv e16]) (st' := [iv i1]) rfl rfl ?_
              refine wP (ls' := [.ref 188, iv i1, iv i2, iv e16]) (st' := [iv 1, iv i1]) rfl rfl ?_
              refine wAdd ?_
              refine wP (ls' := [.ref 188, iv (i1 + 1), iv i2, iv e16]) (st' := []) rfl rfl ?_
              refine zW_fall bk_76_8 ?_
              refine wP (ls' := [.ref 188, iv (i1 + 1), iv i2, iv e16]) (st' := [.ref 188]) rfl rfl ?_
              refine wP (ls' := [.ref 188, iv (i1 + 1), iv i2, iv e16]) (st' := [iv e16, .ref 188]) rfl rfl ?_
              refine wIf0 (n1 := 10) rfl bk_76_10 bk_76_9 (by omega) (fun g5 => ?_) (fun g5 => ?_)
              · replace g5 : (e16 : Int) = 0 := g5
                refine wP (ls' := [.ref 188, iv (i1 + 1), iv i2, iv e16]) (st' := [iv 12, .ref 188]) rfl rfl ?_
                refine zW_fall bk_76_11 ?_
                refine wCall hk (q := 74) (na := 1) (a := 188) (as := [iv 12]) (t := []) rfl (by decide +kernel) (by decide) (by decide +kernel) (Nat.le_of_ble_eq_true rfl) rfl rfl (zRn.mono (h74 hk ⟨by rw [aPut_f (by decide)]; omega, by rw [aPut_f (by decide)]; omega⟩) (fun rv h' hq => ?_))
                obtain ⟨rfl, rfl⟩ := hq
                have sk := gWa_sk (M := M1) (w := 12) s3
                have sp : gSk (gWa M1 12 212) (n + 1) = some (o + 1, b, 0, r + 1) := by
                  rw [gSk_up (by rw [sk.1]; exact s6), sk.2]
                  rfl
                have wu := gWu_po hW (by omega) (by omega) (by omega) sp
                refine ⟨rfl, ?_⟩
                show zW X _ 76 11 [.aload 0, .invokevirtual 1532065, .goto 1] [.ref 188, iv (i1 + 1), iv i2, iv e16] [] (gH k (gWa (aPut M1 188 39 (Int32.ofInt ((M1 188 39).toInt + 1))) 12)) _
                refine wP (ls' := [.ref 188, iv (i1 + 1), iv i2, iv e16]) (st' := [.ref 188]) rfl rfl ?_
                refine wCall hk (q := 65) (na := 0) (a := 188) (as := []) (t := []) rfl (by decide +kernel) (by decide) (by decide +kernel) (Nat.le_of_ble_eq_true rfl) rfl rfl (zRn.mono (h65p hk wu.1.1) (fun rv h' hq => ?_))
                obtain ⟨M9, rfl, rfl, hR⟩ := hq
                obtain ⟨wr, wm, wf, w24⟩ := gWu_rd wu (by omega) hR
                obtain ⟨y1, y2, y3, y4, -, -, -⟩ := wr.1.2
                obtain ⟨pp1, pp2, pp3, pp4, pp5⟩ := wr.1.1
                rw [gWa_f (by decide), aPut_f (by decide)] at wm wf w24
                have wm := congrArg Int32.toInt wm
                have w24 := congrArg Int32.toInt w24
                refine ⟨rfl, ?_⟩
                show zW X _ 76 11 [.goto 1] [.ref 188, iv (i1 + 1), iv i2, iv e16] [] (gH k M9) _
                refine wGoto (n1 := 1) rfl bk_76_1 ?_
                exfalso
                omega
              · replace g5 : ¬ ((e16 : Int) = 0) := g5
                exact absurd g5 (by omega)
          · replace g3 : ¬ (¬ ((M1 188 39).toInt : Int) = 8) := g3
            refine wP (ls' := [.ref 188, iv i1, iv i2, iv e16]) (st' := [.ref 188]) rfl rfl ?_
            refine wP (ls' := [.ref 188, iv i1, iv i2, iv e16]) (st' := [iv 3, .ref 188]) rfl rfl ?_
            refine wCall hk (q := 66) (na := 1) (a := 188) (as := [iv 3]) (t := []) rfl (by decide +kernel) (by decide) (by decide +kernel) (Nat.le_of_ble_eq_true rfl) rfl rfl (zRn.mono (h66 hk) (fun rv h' hq => ?_))
            obtain ⟨rfl, rfl⟩ := hq
            refine ⟨rfl, ?_⟩
            show zW X _ 76 5 [.ireturn] [.ref 188, iv i1, iv i2, iv e16] [iv (-1)] (gH k (gFa M1 3)) _
            obtain ⟨f1, f2, f3, f4, f5⟩ := gFa_s (c := 3) s1
            exact wIret (Or.inl (by decide +kernel)) ⟨-1, _, rfl, rfl, f1, s2.trans f2.fw, by rw [f3]; omega, by rw [f3]; omega, by rw [f2.2.2 39 (by decide) (by decide) (by decide) (by decide) (by decide) (by decide) (by decide)]; omega, by rw [f2.2.2 39 (by decide) (by decide) (by decide) (by decide) (by decide) (by decide) (by decide)]; omega, by rw [f2.2.2 41 (by decide) (by decide) (by decide) (by decide) (by decide) (by decide) (by decide)]; omega, by rw [f2.2.2 41 (by decide) (by decide) (by decide) (by decide) (by decide) (by decide) (by decide)]; omega, Or.inl rfl⟩
  | succ nn ih =>
    intro n o b t r i1 i2 M1 u3 hW hi1 hi2 hd0 hS hn
    obtain ⟨s1, s2, s3, s4, s5, s6, s7, s8⟩ := id hW
    have hTs := s1
    have ln := (gSk_le s6).1
    obtain ⟨-, l2, l3, -, l5⟩ := gSk_le s6
    have ln : n ≤ 27 := by split at ln <;> omega
    obtain ⟨p1, p2, p3, p4, p5⟩ := s1.1
    obtain ⟨q1, q2, q3, q4, q5, -, -⟩ := s1.2
    have hWd : i2 = 0 → gWu M0 M1 n o b t r (b + 1) := fun z => by
      rwa [z, show (b : Int) + (1 - 0) = b + 1 by omega] at hW
    refine wP (ls' := [.ref 188, iv i1, iv i2, u3]) (st' := [iv i2]) rfl rfl ?_
    refine wIf0 (n1 := 15) rfl bk_76_15 bk_76_2 (by omega) (fun g0 => ?_) (fun g0 => ?_)
    · replace g0 : (i2 : Int) = 0 := g0
      have hWd := hWd g0
      have hd0 := hd0 g0
      clear hi2
      refine wP (ls' := [.ref 188, iv i1, iv i2, u3]) (st' := [.ref 188]) rfl rfl ?_
      refine wP (ls' := [.ref 188, iv i1, iv i2, u3]) (st' := [iv 13, .ref 188]) rfl rfl ?_
      refine wCall hk (q := 67) (na := 1) (a := 188) (as := [iv 13]) (t := []) rfl (by decide +kernel) (by decide) (by decide +kernel) (Nat.le_of_ble_eq_true rfl) rfl rfl (zRn.mono (h67 hk (by omega)) (fun rv h' hq => ?_))
      obtain ⟨rfl, e26, rfl, r26⟩ := hq
      refine ⟨rfl, ?_⟩
      show zW X _ 76 15 [.ifCond .eq 17] [.ref 188, iv i1, iv i2, u3] [iv e26] (gH k M1) _
      refine wIf0 (n1 := 17) rfl bk_76_17 bk_76_16 (by omega) (fun g1 => ?_) (fun g1 => ?_)
      · replace g1 : (e26 : Int) = 0 := g1
        clear r26
        refine wP (ls' := [.ref 188, iv i1, iv i2, u3]) (st' := [.ref 188]) rfl rfl ?_
        refine wP (ls' := [.ref 188, iv i1, iv i2, u3]) (st' := [iv 12, .ref 188]) rfl rfl ?_
        refine wCall hk (q := 67) (na := 1) (a := 188) (as := [iv 12]) (t := []) rfl (by decide +kernel) (by decide) (by decide +kernel) (Nat.le_of_ble_eq_true rfl) rfl rfl (zRn.mono (h67 hk (by omega)) (fun rv h' hq => ?_))
        obtain ⟨rfl, e27, rfl, r27⟩ := hq
        refine ⟨rfl, ?_⟩
        show zW X _ 76 17 [.ifCond .eq 19] [.ref 188, iv i1, iv i2, u3] [iv e27] (gH k M1) _
        refine wIf0 (n1 := 19) rfl bk_76_19 bk_76_18 (by omega) (fun g2 => ?_) (fun g2 => ?_)
        · replace g2 : (e27 : Int) = 0 := g2
          clear r27
          refine wP (ls' := [.ref 188, iv i1, iv i2, u3]) (st' := [.ref 188]) rfl rfl ?_
          refine wP (ls' := [.ref 188, iv i1, iv i2, u3]) (st' := [iv 10, .ref 188]) rfl rfl ?_
          refine wCall hk (q := 75) (na := 1) (a := 188) (as := [iv 10]) (t := []) rfl (by decide +kernel) (by decide) (by decide +kernel) (Nat.le_of_ble_eq_true rfl) rfl rfl (zRn.mono (h75 hk (Or.inr (Or.inl rfl)) hc hWd hS ⟨fun _ => hd0, fun z => absurd z (by decide)⟩) (fun rv h' hq => ?_))
          obtain ⟨M2, n2, o2, b2, t2, rfl, rfl, wq, hS2, hK2, -, hT2, -⟩ := hq
          have hT2 := hT2 rfl
          have k24 := congrArg Int32.toInt (hK2 24 (by decide) (by decide))
          have k25 := congrArg Int32.toInt (hK2 25 (by decide) (by decide))
          have k26 := congrArg Int32.toInt (hK2 26 (by decide) (by decide))
          have k27 := congrArg Int32.toInt (hK2 27 (by decide) (by decide))
          have k28 := congrArg Int32.toInt (hK2 28 (by decide) (by decide))
          have ln2 := (gSk_le wq.2.2.2.2.2.1).1
          obtain ⟨-, j2, j3, -, j5⟩ := gSk_le wq.2.2.2.2.2.1
          have jo := wq.2.2.2.2.1
          have ln2 : n2 ≤ 26 := by split at ln2 <;> omega
          refine ⟨rfl, ?_⟩
          show zW X _ 76 19 [.aload 0, .bipush 11, .invokevirtual 1600075, .iload 1, .ifCond .ne 21] [.ref 188, iv i1, iv i2, u3] [] (gH k M2) _
          refine wP (ls' := [.ref 188, iv i1, iv i2, u3]) (st' := [.ref 188]) rfl rfl ?_
          refine wP (ls' := [.ref 188, iv i1, iv i2, u3]) (st' := [iv 11, .ref 188]) rfl rfl ?_
          refine wCall hk (q := 75) (na := 1) (a := 188) (as := [iv 11]) (t := []) rfl (by decide +kernel) (by decide) (by decide +kernel) (Nat.le_of_ble_eq_true rfl) rfl rfl (zRn.mono (h75 hk (Or.inr (Or.inr rfl)) hc wq hS2 ⟨fun z => absurd z (by decide), fun _ => hT2⟩) (fun rv h' hq => ?_))
          clear hT2 ln2 j2 j3 j5 jo
          obtain ⟨M3, n3, o3, b3, t3, rfl, rfl, wq3, hS3, hK3, -, -, hT3⟩ := hq
          have hT2 := hT3 rfl
          have k24b := congrArg Int32.toInt (hK3 24 (by decide) (by decide))
          have k25b := congrArg Int32.toInt (hK3 25 (by decide) (by decide))
          have k26b := congrArg Int32.toInt (hK3 26 (by decide) (by decide))
          have k27b := congrArg Int32.toInt (hK3 27 (by decide) (by decide))
          have k28b := congrArg Int32.toInt (hK3 28 (by decide) (by decide))
          clear wq hS2
          have wq := wq3
          have hS2 := hS3
          clear wq3 hS3
          have ln2 := (gSk_le wq.2.2.2.2.2.1).1
          obtain ⟨-, j2, j3, -, j5⟩ := gSk_le wq.2.2.2.2.2.1
          have jo := wq.2.2.2.2.1
          have ln2 : n3 ≤ 26 := by split at ln2 <;> omega
          skip
          refine ⟨rfl, ?_⟩
          show zW X _ 76 19 [.iload 1, .ifCond .ne 21] [.ref 188, iv i1, iv i2, u3] [] (gH k M3) _
          refine wP (ls' := [.ref 188, iv i1, iv i2, u3]) (st' := [iv i1]) rfl rfl ?_
          refine wIf0 (n1 := 21) rfl bk_76_21 bk_76_20 (by omega) (fun g3 => ?_) (fun g3 => ?_)
          · replace g3 : ¬ (i1 : Int) = 0 := g3
            refine wP (ls' := [.ref 188, iv i1, iv i2, u3]) (st' := [.ref 188]) rfl rfl ?_
            refine wP (ls' := [.ref 188, iv i1, iv i2, u3]) (st' := [iv 41, .ref 188]) rfl rfl ?_
            refine wCall hk (q := 68) (na := 1) (a := 188) (as := [iv 41]) (t := []) rfl (by decide +kernel) (by decide) (by decide +kernel) (Nat.le_of_ble_eq_true rfl) rfl rfl (zRn.mono (h68 hk (by omega)) (fun rv h' hq => ?_))
            obtain ⟨rfl, e30, rfl, r30⟩ := hq
            have rz : 0 < r := by omega
            obtain ⟨m, rfl⟩ : ∃ m, n3 = m + 1 := ⟨n3 - 1, by
              have := (gSk_le wq.2.2.2.2.2.1).2.2.2.1
              omega⟩
            obtain ⟨o9, b9, t9, r9, hs9, dd⟩ := gSk_dn wq.2.2.2.2.2.1
            have dz : o3 = o9 + 1 ∧ b3 = b9 ∧ r = r9 + 1 := by
              rcases dd with ⟨_, d⟩ | ⟨_, d⟩ | ⟨_, d⟩ | ⟨_, d⟩ <;> omega
            obtain ⟨dz1, dz2, dz3⟩ := dz
            clear dd
            obtain ⟨a1, a2, a3, a4, a5, a6, a7, a8⟩ := id wq
            have w6 : gWu M0 (aPut (aPut M3 188 41 (Int32.ofInt ((M3 188 41).toInt - 1))) 188 39 (Int32.ofInt ((M3 188 39).toInt - 1))) m o9 b3 t9 r9 (b3 + 1) := by
              refine ⟨gTs_put (gTs_put a1 (by decide) (fun _ => by decide)) (by decide) (fun _ => by decide), a2.trans ((gFw_put (Or.inr ⟨rfl, Or.inr rfl⟩)).trans (gFw_put (Or.inr ⟨rfl, Or.inl rfl⟩))), ?_, ?_, by omega, ?_, ?_, (a8.put (by omega) (by decide) (by decide) (fun _ => by decide)).put (by omega) (by decide) (by decide) (fun _ => by decide)⟩
              · rw [aPut_f (by decide), aPut_e, iR (by omega) (by omega)]; omega
              · rw [aPut_e, iR (by omega) (by omega)]; omega
              · rw [aPut_r (by decide), aPut_r (by decide), dz2]; exact hs9
              · rw [aPut_f (by decide), aPut_f (by decide)]; exact a7
            have w6s : ((aPut (aPut M3 188 41 (Int32.ofInt ((M3 188 41).toInt - 1))) 188 39 (Int32.ofInt ((M3 188 39).toInt - 1))) 188 38).toInt + ((o9 : Int) - r9 + b3 + c) ≤ ((aPut (aPut M3 188 41 (Int32.ofInt ((M3 188 41).toInt - 1))) 188 39 (Int32.ofInt ((M3 188 39).toInt - 1))) 188 26).toInt := by
              rw [aPut_f (by decide), aPut_f (by decide), aPut_f (by decide), aPut_f (by decide)]
              omega
            refine ⟨rfl, ?_⟩
            show zW X _ 76 21 [.ifCond .ne 23] [.ref 188, iv i1, iv i2, u3] [iv e30] (gH k M3) _
            refine wIf0 (n1 := 23) rfl bk_76_23 bk_76_22 (by omega) (fun g4 => ?_) (fun g4 => ?_)
            · replace g4 : ¬ (e30 : Int) = 0 := g4
              obtain ⟨-, r30a, r30b⟩ := r30.resolve_right (fun z => g4 z.1)
              refine wP (ls' := [.ref 188, iv i1, iv i2, u3]) (st' := [.ref 188]) rfl rfl ?_
              refine wP (ls' := [.ref 188, iv i1, iv i2, u3]) (st' := [.ref 188, .ref 188]) rfl rfl ?_
              refine wGetN hk (f := 41) (e := (M3 188 41).toInt) (by decide +kernel) (iE _) ?_
              refine wP (ls' := [.ref 188, iv i1, iv i2, u3]) (st' := [iv 1, iv (M3 188 41).toInt, .ref 188]) rfl rfl ?_
              refine wSub ?_
              refine wPutN hk (f := 41) (by decide +kernel) (Or.inl rfl) ?_
              refine wP (ls' := [.ref 188, iv i1, iv i2, u3]) (st' := [iv i1]) rfl rfl ?_
              refine wP (ls' := [.ref 188, iv i1, iv i2, u3]) (st' := [iv 1, iv i1]) rfl rfl ?_
              refine wSub ?_
              refine wP (ls' := [.ref 188, iv (i1 - 1), iv i2, u3]) (st' := []) rfl rfl ?_
              refine wP (ls' := [.ref 188, iv (i1 - 1), iv i2, u3]) (st' := [.ref 188]) rfl rfl ?_
              refine wP (ls' := [.ref 188, iv (i1 - 1), iv i2, u3]) (st' := [.ref 188, .ref 188]) rfl rfl ?_
              refine wGetN hk (f := 39) (e := (M3 188 39).toInt) (by decide +kernel) (by rw [aPut_f (by decide)]; exact iE _) ?_
              refine wP (ls' := [.ref 188, iv (i1 - 1), iv i2, u3]) (st' := [iv 1, iv (M3 188 39).toInt, .ref 188]) rfl rfl ?_
              refine wSub ?_
              refine wPutN hk (f := 39) (by decide +kernel) (Or.inl rfl) ?_
              refine wP (ls' := [.ref 188, iv (i1 - 1), iv i2, u3]) (st' := [.ref 188]) rfl rfl ?_
              refine wP (ls' := [.ref 188, iv (i1 - 1), iv i2, u3]) (st' := [iv 9, .ref 188]) rfl rfl ?_
              refine wCall hk (q := 75) (na := 1) (a := 188) (as := [iv 9]) (t := []) rfl (by decide +kernel) (by decide) (by decide +kernel) (Nat.le_of_ble_eq_true rfl) rfl rfl (zRn.mono (h75 hk (Or.inl rfl) hc w6 w6s ⟨fun z => absurd z (by decide), fun z => absurd z (by decide)⟩) (fun rv h' hq => ?_))
              obtain ⟨M7, n4, o4, b4, t4, rfl, rfl, wq, hS3, hK3, ht9, -, -⟩ := hq
              have ht9 := ht9 rfl
              have k24 := congrArg Int32.toInt (hK3 24 (by decide) (by decide))
              have k25 := congrArg Int32.toInt (hK3 25 (by decide) (by decide))
              have k26 := congrArg Int32.toInt (hK3 26 (by decide) (by decide))
              have k27 := congrArg Int32.toInt (hK3 27 (by decide) (by decide))
              rw [aPut_f (by decide), aPut_f (by decide)] at k24 k25 k26 k27
              obtain ⟨y1, y2, y3, y4, -, -, -⟩ := wq.1.2
              obtain ⟨-, j2, j3, -, j5⟩ := gSk_le wq.2.2.2.2.2.1
              have jo := wq.2.2.2.2.1
              refine ⟨rfl, ?_⟩
              show zW X _ 76 23 [.aload 0, .invokevirtual 1532065, .goto 1] [.ref 188, iv (i1 - 1), iv i2, u3] [] (gH k M7) _
              refine wP (ls' := [.ref 188, iv (i1 - 1), iv i2, u3]) (st' := [.ref 188]) rfl rfl ?_
              refine wCall hk (q := 65) (na := 0) (a := 188) (as := []) (t := []) rfl (by decide +kernel) (by decide) (by decide +kernel) (Nat.le_of_ble_eq_true rfl) rfl rfl (zRn.mono (h65p hk wq.1.1) (fun rv h' hq => ?_))
              obtain ⟨M9, rfl, rfl, hR⟩ := hq
              obtain ⟨wr, wm, wf, w24⟩ := gWu_rd wq (by omega) hR
              have wm := congrArg Int32.toInt wm
              have w24 := congrArg Int32.toInt w24
              obtain ⟨x1, x2, x3, x4, -, -, -⟩ := wr.1.2
              obtain ⟨pp1, pp2, pp3, pp4, pp5⟩ := wr.1.1
              refine ⟨rfl, ?_⟩
              show zW X _ 76 23 [.goto 1] [.ref 188, iv (i1 - 1), iv i2, u3] [] (gH k M9) _
              refine wGoto (n1 := 1) rfl bk_76_1 ?_
              exact ih n4 o4 b4 t4 r9 (i1 - 1) i2 M9 _ (by rw [show (b4 : Int) + (1 - i2) = b4 + 1 by omega]; exact wr) (by omega) (by omega) (fun _ => ht9) (by omega) (by omega)
            · replace g4 : ¬ (¬ (e30 : Int) = 0) := g4
              clear r30
              refine wP (ls' := [.ref 188, iv i1, iv i2, u3]) (st' := [.ref 188]) rfl rfl ?_
              refine wP (ls' := [.ref 188, iv i1, iv i2, u3]) (st' := [iv 1, .ref 188]) rfl rfl ?_
              refine wCall hk (q := 66) (na := 1) (a := 188) (as := [iv 1]) (t := []) rfl (by decide +kernel) (by decide) (by decide +kernel) (Nat.le_of_ble_eq_true rfl) rfl rfl (zRn.mono (h66 hk) (fun rv h' hq => ?_))
              obtain ⟨rfl, rfl⟩ := hq
              refine ⟨rfl, ?_⟩
              show zW X _ 76 22 [.ireturn] [.ref 188, iv i1, iv i2, u3] [iv (-1)] (gH k (gFa M3 1)) _
              obtain ⟨g1_, g2_, g3_, g4_, g5_, g6_, g7_, g8_⟩ := wq
              obtain ⟨f1, f2, f3, f4, f5⟩ := gFa_s (c := 1) g1_
              exact wIret (Or.inl (by decide +kernel)) ⟨-1, _, rfl, rfl, f1, g2_.trans f2.fw, by rw [f3]; omega, by rw [f3]; omega, by rw [f2.2.2 39 (by decide) (by decide) (by decide) (by decide) (by decide) (by decide) (by decide)]; omega, by rw [f2.2.2 39 (by decide) (by decide) (by decide) (by decide) (by decide) (by decide) (by decide)]; omega, by rw [f2.2.2 41 (by decide) (by decide) (by decide) (by decide) (by decide) (by decide) (by decide)]; omega, by rw [f2.2.2 41 (by decide) (by decide) (by decide) (by decide) (by decide) (by decide) (by decide)]; omega, Or.inl rfl⟩
          · replace g3 : ¬ (¬ (i1 : Int) = 0) := g3
            refine wP (ls' := [.ref 188, iv i1, iv i2, u3]) (st' := [iv 0]) rfl rfl ?_
            obtain ⟨g1_, g2_, g3_, g4_, g5_, g6_, g7_, g8_⟩ := wq
            have n0 : n3 = 0 := by
              rcases Nat.eq_zero_or_pos n3 with z | z
              · exact z
              · exfalso
                obtain ⟨m, rfl⟩ : ∃ m, n3 = m + 1 := ⟨n3 - 1, by omega⟩
                obtain ⟨o9, b9, t9, r9, -, dd⟩ := gSk_dn g6_
                rcases dd with ⟨_, d⟩ | ⟨_, d⟩ | ⟨_, d⟩ | ⟨_, d⟩ <;> omega
            obtain ⟨z1, z2, z3, z4⟩ := (gSk_le g6_).2.2.2.1 n0
            exact wIret (Or.inl (by decide +kernel)) ⟨0, _, rfl, rfl, g1_, g2_, g7_, by omega, by omega, by omega, by omega, by omega, Or.inr ⟨rfl, by omega, by omega, by rw [z2] at g8_; simpa using g8_⟩⟩
        · replace g2 : ¬ ((e27 : Int) = 0) := g2
          obtain ⟨-, r27a, r27b⟩ := r27.resolve_right (fun z => g2 z.1)
          refine wP (ls' := [.ref 188, iv i1, iv i2, u3]) (st' := [.ref 188]) rfl rfl ?_
          refine wP (ls' := [.ref 188, iv i1, iv i2, u3]) (st' := [iv 10, .ref 188]) rfl rfl ?_
          refine wCall hk (q := 75) (na := 1) (a := 188) (as := [iv 10]) (t := []) rfl (by decide +kernel) (by decide) (by decide +kernel) (Nat.le_of_ble_eq_true rfl) rfl rfl (zRn.mono (h75 hk (Or.inr (Or.inl rfl)) hc hWd hS ⟨fun _ => hd0, fun z => absurd z (by decide)⟩) (fun rv h' hq => ?_))
          obtain ⟨M2, n2, o2, b2, t2, rfl, rfl, wq, hS2, hK2, -, hT2, -⟩ := hq
          have hT2 := hT2 rfl
          have k24 := congrArg Int32.toInt (hK2 24 (by decide) (by decide))
          have k25 := congrArg Int32.toInt (hK2 25 (by decide) (by decide))
          have k26 := congrArg Int32.toInt (hK2 26 (by decide) (by decide))
          have k27 := congrArg Int32.toInt (hK2 27 (by decide) (by decide))
          have k28 := congrArg Int32.toInt (hK2 28 (by decide) (by decide))
          have ln2 := (gSk_le wq.2.2.2.2.2.1).1
          obtain ⟨-, j2, j3, -, j5⟩ := gSk_le wq.2.2.2.2.2.1
          have jo := wq.2.2.2.2.1
          have ln2 : n2 ≤ 26 := by split at ln2 <;> omega
          refine ⟨rfl, ?_⟩
          show zW X _ 76 18 [.aload 0, .bipush 11, .invokevirtual 1600075, .aload 0, .bipush 11, .invokevirtual 1592074, .aload 0, .invokevirtual 1532065, .bipush 1, .istore 2, .goto 1] [.ref 188, iv i1, iv i2, u3] [] (gH k M2) _
          refine wP (ls' := [.ref 188, iv i1, iv i2, u3]) (st' := [.ref 188]) rfl rfl ?_
          refine wP (ls' := [.ref 188, iv i1, iv i2, u3]) (st' := [iv 11, .ref 188]) rfl rfl ?_
          refine wCall hk (q := 75) (na := 1) (a := 188) (as := [iv 11]) (t := []) rfl (by decide +kernel) (by decide) (by decide +kernel) (Nat.le_of_ble_eq_true rfl) rfl rfl (zRn.mono (h75 hk (Or.inr (Or.inr rfl)) hc wq hS2 ⟨fun z => absurd z (by decide), fun _ => hT2⟩) (fun rv h' hq => ?_))
          clear hT2 ln2 j2 j3 j5 jo
          obtain ⟨M3, n3, o3, b3, t3, rfl, rfl, wq3, hS3, hK3, -, -, hT3⟩ := hq
          have hT2 := hT3 rfl
          have k24b := congrArg Int32.toInt (hK3 24 (by decide) (by decide))
          have k25b := congrArg Int32.toInt (hK3 25 (by decide) (by decide))
          have k26b := congrArg Int32.toInt (hK3 26 (by decide) (by decide))
          have k27b := congrArg Int32.toInt (hK3 27 (by decide) (by decide))
          have k28b := congrArg Int32.toInt (hK3 28 (by decide) (by decide))
          clear wq hS2
          have wq := wq3
          have hS2 := hS3
          clear wq3 hS3
          have ln2 := (gSk_le wq.2.2.2.2.2.1).1
          obtain ⟨-, j2, j3, -, j5⟩ := gSk_le wq.2.2.2.2.2.1
          have jo := wq.2.2.2.2.1
          have ln2 : n3 ≤ 26 := by split at ln2 <;> omega
          skip
          refine ⟨rfl, ?_⟩
          show zW X _ 76 18 [.aload 0, .bipush 11, .invokevirtual 1592074, .aload 0, .invokevirtual 1532065, .bipush 1, .istore 2, .goto 1] [.ref 188, iv i1, iv i2, u3] [] (gH k M3) _
          refine wP (ls' := [.ref 188, iv i1, iv i2, u3]) (st' := [.ref 188]) rfl rfl ?_
          refine wP (ls' := [.ref 188, iv i1, iv i2, u3]) (st' := [iv 11, .ref 188]) rfl rfl ?_
          refine wCall hk (q := 74) (na := 1) (a := 188) (as := [iv 11]) (t := []) rfl (by decide +kernel) (by decide) (by decide +kernel) (Nat.le_of_ble_eq_true rfl) rfl rfl (zRn.mono (h74 hk ⟨by have := wq.2.2.1; omega, by have := wq.2.2.1; omega⟩) (fun rv h' hq => ?_))
          obtain ⟨rfl, rfl⟩ := hq
          have sk := gWa_sk (M := M3) (w := 11) wq.2.2.1
          have sp : gSk (gWa M3 11 212) (n3 + 1) = some (o3, b3 + 1, 1, r) := by
            rw [gSk_up (by rw [sk.1]; exact wq.2.2.2.2.2.1), sk.2]
            rw [hT2]; rfl
          have wu := gWu_pb wq (by omega) (by omega) sp
          refine ⟨rfl, ?_⟩
          show zW X _ 76 18 [.aload 0, .invokevirtual 1532065, .bipush 1, .istore 2, .goto 1] [.ref 188, iv i1, iv i2, u3] [] (gH k (gWa M3 11)) _
          refine wP (ls' := [.ref 188, iv i1, iv i2, u3]) (st' := [.ref 188]) rfl rfl ?_
          refine wCall hk (q := 65) (na := 0) (a := 188) (as := []) (t := []) rfl (by decide +kernel) (by decide) (by decide +kernel) (Nat.le_of_ble_eq_true rfl) rfl rfl (zRn.mono (h65p hk wu.1.1) (fun rv h' hq => ?_))
          obtain ⟨M9, rfl, rfl, hR⟩ := hq
          obtain ⟨wr, wm, wf, w24⟩ := gWu_rd wu (by omega) hR
          obtain ⟨y1, y2, y3, y4, -, -, -⟩ := wr.1.2
          obtain ⟨pp1, pp2, pp3, pp4, pp5⟩ := wr.1.1
          rw [gWa_f (by decide)] at wm wf w24
          have wm := congrArg Int32.toInt wm
          have w24 := congrArg Int32.toInt w24
          refine ⟨rfl, ?_⟩
          show zW X _ 76 18 [.bipush 1, .istore 2, .goto 1] [.ref 188, iv i1, iv i2, u3] [] (gH k M9) _
          refine wP (ls' := [.ref 188, iv i1, iv i2, u3]) (st' := [iv 1]) rfl rfl ?_
          refine wP (ls' := [.ref 188, iv i1, iv 1, u3]) (st' := []) rfl rfl ?_
          refine wGoto (n1 := 1) rfl bk_76_1 ?_
          exact ih (n3 + 1) o3 (b3 + 1) 1 r i1 1 M9 _ (by rw [show ((b3 + 1 : Nat) : Int) + (1 - 1) = b3 + 1 by omega]; exact wr) (by omega) (by omega) (fun z => absurd z (by decide)) (by omega) (by omega)
      · replace g1 : ¬ ((e26 : Int) = 0) := g1
        obtain ⟨-, r26a, r26b⟩ := r26.resolve_right (fun z => g1 z.1)
        refine wP (ls' := [.ref 188, iv i1, iv i2, u3]) (st' := [.ref 188]) rfl rfl ?_
        refine wP (ls' := [.ref 188, iv i1, iv i2, u3]) (st' := [iv 10, .ref 188]) rfl rfl ?_
        refine wCall hk (q := 75) (na := 1) (a := 188) (as := [iv 10]) (t := []) rfl (by decide +kernel) (by decide) (by decide +kernel) (Nat.le_of_ble_eq_true rfl) rfl rfl (zRn.mono (h75 hk (Or.inr (Or.inl rfl)) hc hWd hS ⟨fun _ => hd0, fun z => absurd z (by decide)⟩) (fun rv h' hq => ?_))
        obtain ⟨M2, n2, o2, b2, t2, rfl, rfl, wq, hS2, hK2, -, hT2, -⟩ := hq
        have hT2 := hT2 rfl
        have k24 := congrArg Int32.toInt (hK2 24 (by decide) (by decide))
        have k25 := congrArg Int32.toInt (hK2 25 (by decide) (by decide))
        have k26 := congrArg Int32.toInt (hK2 26 (by decide) (by decide))
        have k27 := congrArg Int32.toInt (hK2 27 (by decide) (by decide))
        have k28 := congrArg Int32.toInt (hK2 28 (by decide) (by decide))
        have ln2 := (gSk_le wq.2.2.2.2.2.1).1
        obtain ⟨-, j2, j3, -, j5⟩ := gSk_le wq.2.2.2.2.2.1
        have jo := wq.2.2.2.2.1
        have ln2 : n2 ≤ 26 := by split at ln2 <;> omega
        refine ⟨rfl, ?_⟩
        show zW X _ 76 16 [.aload 0, .bipush 10, .invokevirtual 1592074, .aload 0, .invokevirtual 1532065, .bipush 1, .istore 2, .goto 1] [.ref 188, iv i1, iv i2, u3] [] (gH k M2) _
        refine wP (ls' := [.ref 188, iv i1, iv i2, u3]) (st' := [.ref 188]) rfl rfl ?_
        refine wP (ls' := [.ref 188, iv i1, iv i2, u3]) (st' := [iv 10, .ref 188]) rfl rfl ?_
        refine wCall hk (q := 74) (na := 1) (a := 188) (as := [iv 10]) (t := []) rfl (by decide +kernel) (by decide) (by decide +kernel) (Nat.le_of_ble_eq_true rfl) rfl rfl (zRn.mono (h74 hk ⟨by have := wq.2.2.1; omega, by have := wq.2.2.1; omega⟩) (fun rv h' hq => ?_))
        obtain ⟨rfl, rfl⟩ := hq
        have sk := gWa_sk (M := M2) (w := 10) wq.2.2.1
        have sp : gSk (gWa M2 10 212) (n2 + 1) = some (o2, b2 + 1, 2, r) := by
          rw [gSk_up (by rw [sk.1]; exact wq.2.2.2.2.2.1), sk.2]
          rcases hT2 with z | z <;> rw [z] <;> rfl
        have wu := gWu_pb wq (by omega) (by omega) sp
        refine ⟨rfl, ?_⟩
        show zW X _ 76 16 [.aload 0, .invokevirtual 1532065, .bipush 1, .istore 2, .goto 1] [.ref 188, iv i1, iv i2, u3] [] (gH k (gWa M2 10)) _
        refine wP (ls' := [.ref 188, iv i1, iv i2, u3]) (st' := [.ref 188]) rfl rfl ?_
        refine wCall hk (q := 65) (na := 0) (a := 188) (as := []) (t := []) rfl (by decide +kernel) (by decide) (by decide +kernel) (Nat.le_of_ble_eq_true rfl) rfl rfl (zRn.mono (h65p hk wu.1.1) (fun rv h' hq => ?_))
        obtain ⟨M9, rfl, rfl, hR⟩ := hq
        obtain ⟨wr, wm, wf, w24⟩ := gWu_rd wu (by omega) hR
        obtain ⟨y1, y2, y3, y4, -, -, -⟩ := wr.1.2
        obtain ⟨pp1, pp2, pp3, pp4, pp5⟩ := wr.1.1
        rw [gWa_f (by decide)] at wm wf w24
        have wm := congrArg Int32.toInt wm
        have w24 := congrArg Int32.toInt w24
        refine ⟨rfl, ?_⟩
        show zW X _ 76 16 [.bipush 1, .istore 2, .goto 1] [.ref 188, iv i1, iv i2, u3] [] (gH k M9) _
        refine wP (ls' := [.ref 188, iv i1, iv i2, u3]) (st' := [iv 1]) rfl rfl ?_
        refine wP (ls' := [.ref 188, iv i1, iv 1, u3]) (st' := []) rfl rfl ?_
        refine wGoto (n1 := 1) rfl bk_76_1 ?_
        exact ih (n2 + 1) o2 (b2 + 1) 2 r i1 1 M9 _ (by rw [show ((b2 + 1 : Nat) : Int) + (1 - 1) = b2 + 1 by omega]; exact wr) (by omega) (by omega) (fun z => absurd z (by decide)) (by omega) (by omega)
    · replace g0 : ¬ ((i2 : Int) = 0) := g0
      have i2v : i2 = 1 := by omega
      clear hi2 hd0 hWd
      refine wP (ls' := [.ref 188, iv i1, iv i2, u3]) (st' := [.ref 188]) rfl rfl ?_
      refine wP (ls' := [.ref 188, iv i1, iv i2, u3]) (st' := [iv 14, .ref 188]) rfl rfl ?_
      refine wCall hk (q := 67) (na := 1) (a := 188) (as := [iv 14]) (t := []) rfl (by decide +kernel) (by decide) (by decide +kernel) (Nat.le_of_ble_eq_true rfl) rfl rfl (zRn.mono (h67 hk (by omega)) (fun rv h' hq => ?_))
      obtain ⟨rfl, e41, rfl, r41⟩ := hq
      refine ⟨rfl, ?_⟩
      show zW X _ 76 2 [.istore 3, .iload 3, .ifCond .ne 4] [.ref 188, iv i1, iv i2, u3] [iv e41] (gH k M1) _
      refine wP (ls' := [.ref 188, iv i1, iv i2, iv e41]) (st' := []) rfl rfl ?_
      refine wP (ls' := [.ref 188, iv i1, iv i2, iv e41]) (st' := [iv e41]) rfl rfl ?_
      refine wIf0 (n1 := 4) rfl bk_76_4 bk_76_3 (by omega) (fun g1 => ?_) (fun g1 => ?_)
      · replace g1 : ¬ (e41 : Int) = 0 := g1
        obtain ⟨-, r41a, r41b⟩ := r41.resolve_right (fun z => g1 z.1)
        refine wP (ls' := [.ref 188, iv i1, iv i2, iv e41]) (st' := [.ref 188]) rfl rfl ?_
        refine wGetN hk (f := 39) (e := (M1 188 39).toInt) (by decide +kernel) (iE _) ?_
        refine wP (ls' := [.ref 188, iv i1, iv i2, iv e41]) (st' := [iv 8, iv (M1 188 39).toInt]) rfl rfl ?_
        refine wIfc (n1 := 6) rfl bk_76_6 bk_76_5 (by first | exact iG _ | omega) (by omega) (fun g2 => ?_) (fun g2 => ?_)
        · replace g2 : ¬ ((M1 188 39).toInt : Int) = 8 := g2
          refine wP (ls' := [.ref 188, iv i1, iv i2, iv e41]) (st' := [.ref 188]) rfl rfl ?_
          refine wP (ls' := [.ref 188, iv i1, iv i2, iv e41]) (st' := [.ref 188, .ref 188]) rfl rfl ?_
          refine wGetN hk (f := 39) (e := (M1 188 39).toInt) (by decide +kernel) (iE _) ?_
          refine wP (ls' := [.ref 188, iv i1, iv i2, iv e41]) (st' := [iv 1, iv (M1 188 39).toInt, .ref 188]) rfl rfl ?_
          refine wAdd ?_
          refine wPutN hk (f := 39) (by decide +kernel) (Or.inl rfl) ?_
          refine wP (ls' := [.ref 188, iv i1, iv i2, iv e41]) (st' := [iv e41]) rfl rfl ?_
          refine wIf0 (n1 := 8) rfl bk_76_8 bk_76_7 (by omega) (fun g3 => ?_) (fun g3 => ?_)
          · replace g3 : ¬ (e41 : Int) = 0 := g3
            refine wP (ls' := [.ref 188, iv i1, iv i2, iv e41]) (st' := [.ref 188]) rfl rfl ?_
            refine wP (ls' := [.ref 188, iv i1, iv i2, iv e41]) (st' := [iv e41, .ref 188]) rfl rfl ?_
            refine wIf0 (n1 := 10) rfl bk_76_10 bk_76_9 (by omega) (fun g4 => ?_) (fun g4 => ?_)
            · replace g4 : (e41 : Int) = 0 := g4
              exact absurd g4 (by omega)
            · replace g4 : ¬ ((e41 : Int) = 0) := g4
              refine wP (ls' := [.ref 188, iv i1, iv i2, iv e41]) (st' := [iv 9, .ref 188]) rfl rfl ?_
              refine wGoto (n1 := 11) rfl bk_76_11 ?_
              refine wCall hk (q := 74) (na := 1) (a := 188) (as := [iv 9]) (t := []) rfl (by decide +kernel) (by decide) (by decide +kernel) (Nat.le_of_ble_eq_true rfl) rfl rfl (zRn.mono (h74 hk ⟨by rw [aPut_f (by decide)]; omega, by rw [aPut_f (by decide)]; omega⟩) (fun rv h' hq => ?_))
              obtain ⟨rfl, rfl⟩ := hq
              have sk := gWa_sk (M := M1) (w := 9) s3
              have sp : gSk (gWa M1 9 212) (n + 1) = some (o + 1, b, 3, r) := by
                rw [gSk_up (by rw [sk.1]; exact s6), sk.2]
                rfl
              have wu := gWu_po hW (by omega) (by omega) (by omega) sp
              refine ⟨rfl, ?_⟩
              show zW X _ 76 11 [.aload 0, .invokevirtual 1532065, .goto 1] [.ref 188, iv i1, iv i2, iv e41] [] (gH k (gWa (aPut M1 188 39 (Int32.ofInt ((M1 188 39).toInt + 1))) 9)) _
              refine wP (ls' := [.ref 188, iv i1, iv i2, iv e41]) (st' := [.ref 188]) rfl rfl ?_
              refine wCall hk (q := 65) (na := 0) (a := 188) (as := []) (t := []) rfl (by decide +kernel) (by decide) (by decide +kernel) (Nat.le_of_ble_eq_true rfl) rfl rfl (zRn.mono (h65p hk wu.1.1) (fun rv h' hq => ?_))
              obtain ⟨M9, rfl, rfl, hR⟩ := hq
              obtain ⟨wr, wm, wf, w24⟩ := gWu_rd wu (by omega) hR
              obtain ⟨y1, y2, y3, y4, -, -, -⟩ := wr.1.2
              obtain ⟨pp1, pp2, pp3, pp4, pp5⟩ := wr.1.1
              rw [gWa_f (by decide), aPut_f (by decide)] at wm wf w24
              have wm := congrArg Int32.toInt wm
              have w24 := congrArg Int32.toInt w24
              refine ⟨rfl, ?_⟩
              show zW X _ 76 11 [.goto 1] [.ref 188, iv i1, iv i2, iv e41] [] (gH k M9) _
              refine wGoto (n1 := 1) rfl bk_76_1 ?_
              exact ih (n + 1) (o + 1) b 3 r i1 i2 M9 _ wr (by omega) (by omega) (fun _ => by omega) (by omega) (by omega)
          · replace g3 : ¬ (¬ (e41 : Int) = 0) := g3
            exact absurd g3 (by omega)
        · replace g2 : ¬ (¬ ((M1 188 39).toInt : Int) = 8) := g2
          refine wP (ls' := [.ref 188, iv i1, iv i2, iv e41]) (st' := [.ref 188]) rfl rfl ?_
          refine wP (ls' := [.ref 188, iv i1, iv i2, iv e41]) (st' := [iv 3, .ref 188]) rfl rfl ?_
          refine wCall hk (q := 66) (na := 1) (a := 188) (as := [iv 3]) (t := []) rfl (by decide +kernel) (by decide) (by decide +kernel) (Nat.le_of_ble_eq_true rfl) rfl rfl (zRn.mono (h66 hk) (fun rv h' hq => ?_))
          obtain ⟨rfl, rfl⟩ := hq
          refine ⟨rfl, ?_⟩
          show zW X _ 76 5 [.ireturn] [.ref 188, iv i1, iv i2, iv e41] [iv (-1)] (gH k (gFa M1 3)) _
          obtain ⟨f1, f2, f3, f4, f5⟩ := gFa_s (c := 3) s1
          exact wIret (Or.inl (by decide +kernel)) ⟨-1, _, rfl, rfl, f1, s2.trans f2.fw, by rw [f3]; omega, by rw [f3]; omega, by rw [f2.2.2 39 (by decide) (by decide) (by decide) (by decide) (by decide) (by decide) (by decide)]; omega, by rw [f2.2.2 39 (by decide) (by decide) (by decide) (by decide) (by decide) (by decide) (by decide)]; omega, by rw [f2.2.2 41 (by decide) (by decide) (by decide) (by decide) (by decide) (by decide) (by decide)]; omega, by rw [f2.2.2 41 (by decide) (by decide) (by decide) (by decide) (by decide) (by decide) (by decide)]; omega, Or.inl rfl⟩
      · replace g1 : ¬ (¬ (e41 : Int) = 0) := g1
        clear r41
        refine wP (ls' := [.ref 188, iv i1, iv i2, iv e41]) (st' := [.ref 188]) rfl rfl ?_
        refine wP (ls' := [.ref 188, iv i1, iv i2, iv e41]) (st' := [iv 40, .ref 188]) rfl rfl ?_
        refine wCall hk (q := 68) (na := 1) (a := 188) (as := [iv 40]) (t := []) rfl (by decide +kernel) (by decide) (by decide +kernel) (Nat.le_of_ble_eq_true rfl) rfl rfl (zRn.mono (h68 hk (by omega)) (fun rv h' hq => ?_))
        obtain ⟨rfl, e45, rfl, r45⟩ := hq
        refine ⟨rfl, ?_⟩
        show zW X _ 76 3 [.ifCond .eq 12] [.ref 188, iv i1, iv i2, iv e41] [iv e45] (gH k M1) _
        refine wIf0 (n1 := 12) rfl bk_76_12 bk_76_4 (by omega) (fun g2 => ?_) (fun g2 => ?_)
        · replace g2 : (e45 : Int) = 0 := g2
          clear r45
          refine wP (ls' := [.ref 188, iv i1, iv i2, iv e41]) (st' := [.ref 188]) rfl rfl ?_
          refine wCall hk (q := 73) (na := 0) (a := 188) (as := []) (t := []) rfl (by decide +kernel) (by decide) (by decide +kernel) (Nat.le_of_ble_eq_true rfl) rfl rfl (zRn.mono (h73 hk hTs (c := (o : Int) - r + b + c) (by omega) (by omega) (by omega)) (fun rv h' hq => ?_))
          obtain ⟨e46, M2, rfl, rfl, hU⟩ := hq
          have hU0 := hU
          obtain ⟨u1, u2, u3, u4, uf, u5⟩ := hU
          have uz : e46 = -1 ∨ (M2 188 38).toInt + ((o : Int) - r + b + c) ≤ (M2 188 26).toInt ∧ (M1 188 26).toInt < (M2 188 26).toInt := u5.imp id (fun z => ⟨z.2.1, z.2.2.1⟩)
          have u39 := u2.2.2 39 (by decide) (by decide) (by decide) (by decide) (by decide) (by decide) (by decide)
          have u41 := u2.2.2 41 (by decide) (by decide) (by decide) (by decide) (by decide) (by decide) (by decide)
          have u24 := u2.2.2 24 (by decide) (by decide) (by decide) (by decide) (by decide) (by decide) (by decide)
          obtain ⟨vp1, vp2, vp3, vp4, vp5⟩ := u1.1
          have v39 := congrArg Int32.toInt u39
          have v41 := congrArg Int32.toInt u41
          have v24 := congrArg Int32.toInt u24
          have wd1 : ¬ e46 = -1 → gWu M0 M2 n o b t r (b + 1) := fun z => by
            rcases u5 with q | ⟨_, _, _, q⟩
            · exact absurd q z
            · have := gDn_wu hW (by omega) hU0 q
              rwa [show (b : Int) + (1 - i2) + 1 = b + 1 by omega] at this
          refine ⟨rfl, ?_⟩
          show zW X _ 76 12 [.bipush (-1), .if_icmp .ne 14] [.ref 188, iv i1, iv i2, iv e41] [iv e46] (gH k M2) _
          refine wP (ls' := [.ref 188, iv i1, iv i2, iv e41]) (st' := [iv (-1), iv e46]) rfl rfl ?_
          refine wIfc (n1 := 14) rfl bk_76_14 bk_76_13 (by omega) (by omega) (fun g3 => ?_) (fun g3 => ?_)
          · replace g3 : ¬ (e46 : Int) = (-1) := g3
            have uz := uz.resolve_left g3
            have wd1 := wd1 g3
            clear u5
            refine wP (ls' := [.ref 188, iv i1, iv i2, iv e41]) (st' := [.ref 188]) rfl rfl ?_
            refine wP (ls' := [.ref 188, iv i1, iv i2, iv e41]) (st' := [iv 9, .ref 188]) rfl rfl ?_
            refine wCall hk (q := 75) (na := 1) (a := 188) (as := [iv 9]) (t := []) rfl (by decide +kernel) (by decide) (by decide +kernel) (Nat.le_of_ble_eq_true rfl) rfl rfl (zRn.mono (h75 hk (Or.inl rfl) hc wd1 (by omega) ⟨fun z => absurd z (by decide), fun z => absurd z (by decide)⟩) (fun rv h' hq => ?_))
            obtain ⟨M3, n3, o3, b3, t3, rfl, rfl, wq, hS3, hK3, ht9, -, -⟩ := hq
            have ht9 := ht9 rfl
            have k24 := congrArg Int32.toInt (hK3 24 (by decide) (by decide))
            have k25 := congrArg Int32.toInt (hK3 25 (by decide) (by decide))
            have k26 := congrArg Int32.toInt (hK3 26 (by decide) (by decide))
            have k27 := congrArg Int32.toInt (hK3 27 (by decide) (by decide))
            obtain ⟨y1, y2, y3, y4, -, -, -⟩ := wq.1.2
            obtain ⟨-, j2, j3, -, j5⟩ := gSk_le wq.2.2.2.2.2.1
            have jo := wq.2.2.2.2.1
            refine ⟨rfl, ?_⟩
            show zW X _ 76 14 [.bipush 0, .istore 2, .goto 1] [.ref 188, iv i1, iv i2, iv e41] [] (gH k M3) _
            refine wP (ls' := [.ref 188, iv i1, iv i2, iv e41]) (st' := [iv 0]) rfl rfl ?_
            refine wP (ls' := [.ref 188, iv i1, iv 0, iv e41]) (st' := []) rfl rfl ?_
            refine wGoto (n1 := 1) rfl bk_76_1 ?_
            exact ih n3 o3 b3 t3 r i1 0 M3 _ (by rw [show (b3 : Int) + (1 - 0) = b3 + 1 by omega]; exact wq) (by omega) (by omega) (fun _ => ht9) (by omega) (by omega)
          · replace g3 : ¬ (¬ (e46 : Int) = (-1)) := g3
            clear uz wd1
            refine wP (ls' := [.ref 188, iv i1, iv i2, iv e41]) (st' := [iv (-1)]) rfl rfl ?_
            exact wIret (Or.inl (by decide +kernel)) ⟨-1, _, rfl, rfl, u1, s2.trans u2.fw, u3, u4, by rw [u39]; omega, by rw [u39]; omega, by rw [u41]; omega, by rw [u41]; omega, Or.inl rfl⟩
        · replace g2 : ¬ ((e45 : Int) = 0) := g2
          obtain ⟨-, r45a, r45b⟩ := r45.resolve_right (fun z => g2 z.1)
          refine wP (ls' := [.ref 188, iv i1, iv i2, iv e41]) (st' := [.ref 188]) rfl rfl ?_
          refine wGetN hk (f := 39) (e := (M1 188 39).toInt) (by decide +kernel) (iE _) ?_
          refine wP (ls' := [.ref 188, iv i1, iv i2, iv e41]) (st' := [iv 8, iv (M1 188 39).toInt]) rfl rfl ?_
          refine wIfc (n1 := 6) rfl bk_76_6 bk_76_5 (by first | exact iG _ | omega) (by omega) (fun g3 => ?_) (fun g3 => ?_)
          · replace g3 : ¬ ((M1 188 39).toInt : Int) = 8 := g3
            refine wP (ls' := [.ref 188, iv i1, iv i2, iv e41]) (st' := [.ref 188]) rfl rfl ?_
            refine wP (ls' := [.ref 188, iv i1, iv i2, iv e41]) (st' := [.ref 188, .ref 188]) rfl rfl ?_
            refine wGetN hk (f := 39) (e := (M1 188 39).toInt) (by decide +kernel) (iE _) ?_
            refine wP (ls' := [.ref 188, iv i1, iv i2, iv e41]) (st' := [iv 1, iv (M1 188 39).toInt, .ref 188]) rfl rfl ?_
            refine wAdd ?_
            refine wPutN hk (f := 39) (by decide +kernel) (Or.inl rfl) ?_
            refine wP (ls' := [.ref 188, iv i1, iv i2, iv e41]) (st' := [iv e41]) rfl rfl ?_
            refine wIf0 (n1 := 8) rfl bk_76_8 bk_76_7 (by omega) (fun g4 => ?_) (fun g4 => ?_)
            · replace g4 : ¬ (e41 : Int) = 0 := g4
              exact absurd g4 (by omega)
            · replace g4 : ¬ (¬ (e41 : Int) = 0) := g4
              refine wP (ls' := [.ref 188, iv i1, iv i2, iv e41]) (st' := [iv i1]) rfl rfl ?_
              refine wP (ls' := [.ref 188, iv i1, iv i2, iv e41]) (st' := [iv 1, iv i1]) rfl rfl ?_
              refine wAdd ?_
              refine wP (ls' := [.ref 188, iv (i1 + 1), iv i2, iv e41]) (st' := []) rfl rfl ?_
              refine zW_fall bk_76_8 ?_
              refine wP (ls' := [.ref 188, iv (i1 + 1), iv i2, iv e41]) (st' := [.ref 188]) rfl rfl ?_
              refine wP (ls' := [.ref 188, iv (i1 + 1), iv i2, iv e41]) (st' := [iv e41, .ref 188]) rfl rfl ?_
              refine wIf0 (n1 := 10) rfl bk_76_10 bk_76_9 (by omega) (fun g5 => ?_) (fun g5 => ?_)
              · replace g5 : (e41 : Int) = 0 := g5
                refine wP (ls' := [.ref 188, iv (i1 + 1), iv i2, iv e41]) (st' := [iv 12, .ref 188]) rfl rfl ?_
                refine zW_fall bk_76_11 ?_
                refine wCall hk (q := 74) (na := 1) (a := 188) (as := [iv 12]) (t := []) rfl (by decide +kernel) (by decide) (by decide +kernel) (Nat.le_of_ble_eq_true rfl) rfl rfl (zRn.mono (h74 hk ⟨by rw [aPut_f (by decide)]; omega, by rw [aPut_f (by decide)]; omega⟩) (fun rv h' hq => ?_))
                obtain ⟨rfl, rfl⟩ := hq
                have sk := gWa_sk (M := M1) (w := 12) s3
                have sp : gSk (gWa M1 12 212) (n + 1) = some (o + 1, b, 0, r + 1) := by
                  rw [gSk_up (by rw [sk.1]; exact s6), sk.2]
                  rfl
                have wu := gWu_po hW (by omega) (by omega) (by omega) sp
                refine ⟨rfl, ?_⟩
                show zW X _ 76 11 [.aload 0, .invokevirtual 1532065, .goto 1] [.ref 188, iv (i1 + 1), iv i2, iv e41] [] (gH k (gWa (aPut M1 188 39 (Int32.ofInt ((M1 188 39).toInt + 1))) 12)) _
                refine wP (ls' := [.ref 188, iv (i1 + 1), iv i2, iv e41]) (st' := [.ref 188]) rfl rfl ?_
                refine wCall hk (q := 65) (na := 0) (a := 188) (as := []) (t := []) rfl (by decide +kernel) (by decide) (by decide +kernel) (Nat.le_of_ble_eq_true rfl) rfl rfl (zRn.mono (h65p hk wu.1.1) (fun rv h' hq => ?_))
                obtain ⟨M9, rfl, rfl, hR⟩ := hq
                obtain ⟨wr, wm, wf, w24⟩ := gWu_rd wu (by omega) hR
                obtain ⟨y1, y2, y3, y4, -, -, -⟩ := wr.1.2
                obtain ⟨pp1, pp2, pp3, pp4, pp5⟩ := wr.1.1
                rw [gWa_f (by decide), aPut_f (by decide)] at wm wf w24
                have wm := congrArg Int32.toInt wm
                have w24 := congrArg Int32.toInt w24
                refine ⟨rfl, ?_⟩
                show zW X _ 76 11 [.goto 1] [.ref 188, iv (i1 + 1), iv i2, iv e41] [] (gH k M9) _
                refine wGoto (n1 := 1) rfl bk_76_1 ?_
                exact ih (n + 1) (o + 1) b 0 (r + 1) (i1 + 1) i2 M9 _ wr (by omega) (by omega) (fun _ => by omega) (by omega) (by omega)
              · replace g5 : ¬ ((e41 : Int) = 0) := g5
                exact absurd g5 (by omega)
          · replace g3 : ¬ (¬ ((M1 188 39).toInt : Int) = 8) := g3
            refine wP (ls' := [.ref 188, iv i1, iv i2, iv e41]) (st' := [.ref 188]) rfl rfl ?_
            refine wP (ls' := [.ref 188, iv i1, iv i2, iv e41]) (st' := [iv 3, .ref 188]) rfl rfl ?_
            refine wCall hk (q := 66) (na := 1) (a := 188) (as := [iv 3]) (t := []) rfl (by decide +kernel) (by decide) (by decide +kernel) (Nat.le_of_ble_eq_true rfl) rfl rfl (zRn.mono (h66 hk) (fun rv h' hq => ?_))
            obtain ⟨rfl, rfl⟩ := hq
            refine ⟨rfl, ?_⟩
            show zW X _ 76 5 [.ireturn] [.ref 188, iv i1, iv i2, iv e41] [iv (-1)] (gH k (gFa M1 3)) _
            obtain ⟨f1, f2, f3, f4, f5⟩ := gFa_s (c := 3) s1
            exact wIret (Or.inl (by decide +kernel)) ⟨-1, _, rfl, rfl, f1, s2.trans f2.fw, by rw [f3]; omega, by rw [f3]; omega, by rw [f2.2.2 39 (by decide) (by decide) (by decide) (by decide) (by decide) (by decide) (by decide)]; omega, by rw [f2.2.2 39 (by decide) (by decide) (by decide) (by decide) (by decide) (by decide) (by decide)]; omega, by rw [f2.2.2 41 (by decide) (by decide) (by decide) (by decide) (by decide) (by decide) (by decide)]; omega, by rw [f2.2.2 41 (by decide) (by decide) (by decide) (by decide) (by decide) (by decide) (by decide)]; omega, Or.inl rfl⟩
theorem h76 {X : aX} {d : Nat} {k : Nat → aK} (hk : gKs k) {M0 : Nat → Nat → Int32} {c : Int} (hc : 0 ≤ c) (hT : gTs M0) (ho : (M0 188 39).toInt = 0) (hm0 : 0 ≤ (M0 188 38).toInt) (hmc : (M0 188 38).toInt + c ≤ (M0 188 26).toInt) : zRn X (d + 1 + 1 + 1 + 1 + 1 + 1 + 1 + 1 + 1 + 1) 76 [.ref 188] (gH k M0) (fun rv h' => ∃ e M', rv = some (iv e) ∧ h' = gH k M' ∧ gTs M' ∧ gFw M0 M' ∧ 0 ≤ (M' 188 38).toInt ∧ (M' 188 38).toInt ≤ 500 ∧ 0 ≤ (M' 188 39).toInt ∧ (M' 188 39).toInt ≤ 8 ∧ 0 ≤ (M' 188 41).toInt ∧ (M' 188 41).toInt ≤ 40 ∧ (e = -1 ∨ e = 0 ∧ (M' 188 38).toInt + c ≤ (M' 188 26).toInt ∧ (M' 188 39).toInt = 0 ∧ gEff M0 M' 0 1)) := by
  refine wEnt (n := 4) (ls := [.ref 188, aD, aD, aD]) bk_76_0 (by decide +kernel) rfl rfl rfl ?_
  refine wP (ls' := [.ref 188, aD, aD, aD]) (st' := [iv 0]) rfl rfl ?_
  refine wP (ls' := [.ref 188, iv 0, aD, aD]) (st' := []) rfl rfl ?_
  refine wP (ls' := [.ref 188, iv 0, aD, aD]) (st' := [.ref 188]) rfl rfl ?_
  refine wP (ls' := [.ref 188, iv 0, aD, aD]) (st' := [iv 0, .ref 188]) rfl rfl ?_
  refine wPutN hk (f := 41) (by decide +kernel) (Or.inl rfl) ?_
  refine wP (ls' := [.ref 188, iv 0, aD, aD]) (st' := [iv 1]) rfl rfl ?_
  refine wP (ls' := [.ref 188, iv 0, iv 1, aD]) (st' := []) rfl rfl ?_
  refine zW_fall bk_76_1 ?_
  exact h76_l hk hc ((M0 188 24).toInt - (M0 188 26).toInt).toNat 0 0 0 0 0 0 1 _ _ ⟨gTs_put hT (by decide) (fun _ => by decide), gFw_put (Or.inr ⟨rfl, Or.inr rfl⟩), by rw [aPut_e]; rfl, by rw [aPut_f (by decide)]; exact ho, by decide, rfl, by rw [aPut_f (by decide)]; exact hm0, gEff.refl.put (by omega) (by decide) (by decide) (fun _ => by decide)⟩ rfl (Or.inr rfl) (fun z => absurd z (by decide)) (by rw [aPut_f (by decide), aPut_f (by decide)]; omega) (by rw [aPut_f (by decide), aPut_f (by decide)]; omega)
/-! lines of the draft -/
def gLn (M : Nat → Nat → Int32) (l : Nat) : Prop := 0 ≤ (M 206 (64 + l)).toInt ∧ (M 206 (64 + l)).toInt ≤ (M 207 (64 + l)).toInt ∧ (M 207 (64 + l)).toInt ≤ (M 208 (64 + l)).toInt ∧ (M 208 (64 + l)).toInt ≤ (M 188 38).toInt ∧
  gCode (M 210) (M 211) (2000 + (M 206 (64 + l)).toInt.toNat) (2000 + (M 207 (64 + l)).toInt.toNat) ∧ ((M 207 (64 + l)).toInt < (M 208 (64 + l)).toInt → gCode (M 210) (M 211) (2000 + (M 207 (64 + l)).toInt.toNat) (2000 + (M 208 (64 + l)).toInt.toNat))
theorem gLn_eq {M M' : Nat → Nat → Int32} {l : Nat} (h : gLn M l) (h0 : 0 ≤ (M 188 38).toInt) (h1 : M' 206 (64 + l) = M 206 (64 + l)) (h2 : M' 207 (64 + l) = M 207 (64 + l)) (h3 : M' 208 (64 + l) = M 208 (64 + l)) (h4 : (M 188 38).toInt ≤ (M' 188 38).toInt) (h5 : ∀ i, i < 2000 + gMn M → M' 210 i = M 210 i ∧ M' 211 i = M 211 i) : gLn M' l := by
  obtain ⟨a1, a2, a3, a4, a5, a6⟩ := h
  unfold gLn
  rw [h1, h2, h3]
  have hm : gMn M = (M 188 38).toInt.toNat := rfl
  exact ⟨a1, a2, a3, by omega, gCode_eq (fun i _ q => h5 i (by omega)) a5, fun z => gCode_eq (fun i _ q => h5 i (by omega)) (a6 z)⟩
/-- what reading a law may change -/
def gLf (M M' : Nat → Nat → Int32) : Prop := (∀ a, a ≠ 188 → a ≠ 210 → a ≠ 211 → a ≠ 212 → a ≠ 205 → a ≠ 206 → a ≠ 207 → a ≠ 208 → M' a = M a) ∧ (∀ i, i < 2000 → M' 210 i = M 210 i ∧ M' 211 i = M 211 i) ∧ (∀ l, l < 64 → M' 205 l = M 205 l ∧ M' 206 l = M 206 l ∧ M' 207 l = M 207 l ∧ M' 208 l = M 208 l) ∧ (∀ f, f ≠ 25 → f ≠ 26 → f ≠ 27 → f ≠ 28 → f ≠ 38 → f ≠ 42 → f ≠ 43 → f ≠ 39 → f ≠ 41 → M' 188 f = M 188 f)
theorem gLf.refl {M : Nat → Nat → Int32} : gLf M M := ⟨fun _ _ _ _ _ _ _ _ _ => rfl, fun _ _ => ⟨rfl, rfl⟩, fun _ _ => ⟨rfl, rfl, rfl, rfl⟩, fun _ _ _ _ _ _ _ _ _ _ => rfl⟩
theorem gLf.trans {M M1 M2 : Nat → Nat → Int32} (h : gLf M M1) (h' : gLf M1 M2) : gLf M M2 := by
  refine ⟨fun a a1 a2 a3 a4 a5 a6 a7 a8 => (h'.1 a a1 a2 a3 a4 a5 a6 a7 a8).trans (h.1 a a1 a2 a3 a4 a5 a6 a7 a8), fun i hi => ⟨(h'.2.1 i hi).1.trans (h.2.1 i hi).1, (h'.2.1 i hi).2.trans (h.2.1 i hi).2⟩, fun l hl => ?_, fun f f1 f2 f3 f4 f5 f6 f7 f8 f9 => (h'.2.2.2 f f1 f2 f3 f4 f5 f6 f7 f8 f9).trans (h.2.2.2 f f1 f2 f3 f4 f5 f6 f7 f8 f9)⟩
  obtain ⟨a1, a2, a3, a4⟩ := h.2.2.1 l hl
  obtain ⟨b1, b2, b3, b4⟩ := h'.2.2.1 l hl
  exact ⟨b1.trans a1, b2.trans a2, b3.trans a3, b4.trans a4⟩
theorem gFw.lf {M M' : Nat → Nat → Int32} (h : gFw M M') : gLf M M' := ⟨fun a a1 a2 a3 a4 _ _ _ _ => h.1 a a1 a2 a3 a4, h.2.1, fun l _ => by rw [h.1 205 (by decide) (by decide) (by decide) (by decide), h.1 206 (by decide) (by decide) (by decide) (by decide), h.1 207 (by decide) (by decide) (by decide) (by decide), h.1 208 (by decide) (by decide) (by decide) (by decide)]; exact ⟨rfl, rfl, rfl, rfl⟩, h.2.2⟩
theorem gLf_put {M : Nat → Nat → Int32} {a j : Nat} {x : Int32} (h : a = 205 ∨ a = 206 ∨ a = 207 ∨ a = 208) (hj : 64 ≤ j) : gLf M (aPut M a j x) := by
  refine ⟨fun b b1 b2 b3 b4 b5 b6 b7 b8 => aPut_r (by omega), fun i _ => ⟨aPut_o (by omega), aPut_o (by omega)⟩, fun l hl => ?_, fun f _ _ _ _ _ _ _ _ _ => aPut_o (by omega)⟩
  have e : ∀ b, aPut M a j x b l = M b l := fun b => by
    unfold aPut
    by_cases q : b = a
    · rw [if_pos q, if_neg (by omega)]
    · rw [if_neg q]
  exact ⟨e 205, e 206, e 207, e 208⟩
/-- a line that has been read: from f to s, from s on -/
theorem gCode_of {M M' : Nat → Nat → Int32} (h : gEff M M' 0 1) : gCode (M' 210) (M' 211) (2000 + gMn M) (2000 + gMn M') := by
  obtain ⟨h1, h2, h3⟩ := h
  obtain ⟨D', d1, d2⟩ := h3 (gMn M) 0 (Nat.le_refl _) (Nat.le_refl _) (by rw [Nat.sub_self]; rfl)
  unfold gCode
  rw [show 2000 + gMn M' - (2000 + gMn M) = gMn M' - gMn M by omega, d1, show D' = 1 by omega]
/-- between the parts of a law -/
def gLw (M0 M : Nat → Nat → Int32) : Prop := gTs M ∧ gLf M0 M ∧ 0 ≤ (M 188 38).toInt ∧ (M 188 38).toInt ≤ 500 ∧ 0 ≤ (M 188 39).toInt ∧ (M 188 39).toInt ≤ 8 ∧ 0 ≤ (M 188 41).toInt ∧ (M 188 41).toInt ≤ 40
theorem gLw_put {M0 M : Nat → Nat → Int32} {a j : Nat} {x : Int32} (h : gLw M0 M) (ha : a = 205 ∨ a = 206 ∨ a = 207 ∨ a = 208) (hj : 64 ≤ j) : gLw M0 (aPut M a j x) := by
  obtain ⟨h1, h2, h3, h4, h5, h6, h7, h8⟩ := h
  have e : ∀ f, aPut M a j x 188 f = M 188 f := fun f => aPut_o (by omega)
  unfold gLw
  rw [e, e, e]
  exact ⟨gTs_put h1 (by omega) (fun q => by omega), h2.trans (gLf_put ha hj), h3, h4, h5, h6, h7, h8⟩
theorem gLw_fr {M0 M M' : Nat → Nat → Int32} (h : gLw M0 M) (hT : gTs M') (hf : gFr M M') (h0 : 0 ≤ (M' 188 38).toInt) (h1 : (M' 188 38).toInt ≤ 500) : gLw M0 M' := by
  obtain ⟨_, h2, h3, h4, h5, h6, h7, h8⟩ := h
  refine ⟨hT, h2.trans hf.fw.lf, h0, h1, ?_⟩
  rw [hf.2.2 39 (by decide) (by decide) (by decide) (by decide) (by decide) (by decide) (by decide), hf.2.2 41 (by decide) (by decide) (by decide) (by decide) (by decide) (by decide) (by decide)]
  exact ⟨h5, h6, h7, h8⟩
theorem gLw_rd {M0 M M' : Nat → Nat → Int32} (h : gLw M0 M) (hr : gRd M M') : gLw M0 M' := by
  obtain ⟨t1, t2, t3, t4, t5, t6⟩ := gRd_s hr h.1.1
  exact gLw_fr h t1 t2 (by rw [t3]; exact h.2.2.1) (by rw [t3]; exact h.2.2.2.1)
theorem gLw_fa {M0 M : Nat → Nat → Int32} {c : Int} (h : gLw M0 M) : gLw M0 (gFa M c) := by
  obtain ⟨t1, t2, t3, t4, t5⟩ := gFa_s (c := c) h.1
  exact gLw_fr h t1 t2 (by rw [t3]; exact h.2.2.1) (by rw [t3]; exact h.2.2.2.1)
theorem gLw_fw {M0 M M' : Nat → Nat → Int32} (h : gLw M0 M) (hT : gTs M') (hf : gFw M M') (h0 : 0 ≤ (M' 188 38).toInt ∧ (M' 188 38).toInt ≤ 500 ∧ 0 ≤ (M' 188 39).toInt ∧ (M' 188 39).toInt ≤ 8 ∧ 0 ≤ (M' 188 41).toInt ∧ (M' 188 41).toInt ≤ 40) : gLw M0 M' :=
  ⟨hT, h.2.1.trans hf.lf, h0⟩
/-- the lines that have been read -/
def gLs (n : Nat) (M : Nat → Nat → Int32) : Prop := ∀ l, l < n → gLn M l
theorem gLs_put {M : Nat → Nat → Int32} {a j n : Nat} {x : Int32} (h : gLs n M) (h0 : 0 ≤ (M 188 38).toInt) (ha : a = 205 ∨ a = 206 ∨ a = 207 ∨ a = 208) (hj : j = 64 + n) : gLs n (aPut M a j x) := by
  intro l hl
  have e : ∀ b, aPut M a j x b (64 + l) = M b (64 + l) := fun b => by
    unfold aPut
    by_cases q : b = a
    · rw [if_pos q, if_neg (by omega)]
    · rw [if_neg q]
  exact gLn_eq (h l hl) h0 (e 206) (e 207) (e 208) (by rw [aPut_o (by omega)]; exact Int.le_refl _) (fun i _ => ⟨aPut_o (by omega), aPut_o (by omega)⟩)
theorem gLs_ef {M M' : Nat → Nat → Int32} {n p : Nat} {e : Int} (h : gLs n M) (h0 : 0 ≤ (M 188 38).toInt) (h2 : 0 ≤ (M' 188 38).toInt) (hf : ∀ a, a = 206 ∨ a = 207 ∨ a = 208 → M' a = M a) (he : gEff M M' p e) : gLs n M' := by
  intro l hl
  have hm : gMn M ≤ gMn M' := he.1
  unfold gMn at hm
  exact gLn_eq (h l hl) h0 (by rw [hf 206 (by omega)]) (by rw [hf 207 (by omega)]) (by rw [hf 208 (by omega)]) (by omega) he.2.1
theorem gLs_rd {M M' : Nat → Nat → Int32} {n : Nat} (h : gLs n M) (h0 : 0 ≤ (M 188 38).toInt) (hp : gPre M) (hr : gRd M M') : gLs n M' := by
  obtain ⟨t1, t2, t3, t4, t5, t6⟩ := gRd_s hr hp
  exact gLs_ef h h0 (by rw [t3]; exact h0) (fun a ha => t2.1 a (by omega) (by omega) (by omega)) (gEff.of_eq t3 t4 t5)
/-- the line that is being read: so far -/
def gLc (M : Nat → Nat → Int32) (n : Nat) (f s t : Int) : Prop := M 206 (64 + n) = Int32.ofInt f ∧ 0 ≤ f ∧ f ≤ s ∧ s ≤ t ∧ t ≤ (M 188 38).toInt ∧ gCode (M 210) (M 211) (2000 + f.toNat) (2000 + s.toNat) ∧ (s < t → gCode (M 210) (M 211) (2000 + s.toNat) (2000 + t.toNat))
theorem gLc_eq {M M' : Nat → Nat → Int32} {n : Nat} {f s t : Int} (h : gLc M n f s t) (h1 : M' 206 (64 + n) = M 206 (64 + n)) (h2 : (M 188 38).toInt ≤ (M' 188 38).toInt) (h3 : ∀ i, i < 2000 + gMn M → M' 210 i = M 210 i ∧ M' 211 i = M 211 i) : gLc M' n f s t := by
  obtain ⟨a1, a2, a3, a4, a5, a6, a7⟩ := h
  have hm : gMn M = (M 188 38).toInt.toNat := rfl
  exact ⟨h1.trans a1, a2, a3, a4, by omega, gCode_eq (fun i _ q => h3 i (by omega)) a6, fun z => gCode_eq (fun i _ q => h3 i (by omega)) (a7 z)⟩
theorem gLc_put {M : Nat → Nat → Int32} {n a j : Nat} {x : Int32} {f s t : Int} (h : gLc M n f s t) (ha : a = 207 ∨ a = 208) : gLc (aPut M a j x) n f s t :=
  gLc_eq h (by rw [aPut_o (by omega)]) (by rw [aPut_o (by omega)]; exact Int.le_refl _) (fun i _ => ⟨aPut_o (by omega), aPut_o (by omega)⟩)
theorem gLc_rd {M M' : Nat → Nat → Int32} {n : Nat} {f s t : Int} (h : gLc M n f s t) (hp : gPre M) (hr : gRd M M') : gLc M' n f s t := by
  obtain ⟨t1, t2, t3, t4, t5, t6⟩ := gRd_s hr hp
  exact gLc_eq h (by rw [t2.1 206 (by decide) (by decide) (by decide)]) (by rw [t3]; exact Int.le_refl _) (fun i _ => by rw [t4, t5]; exact ⟨rfl, rfl⟩)
/-- its sum is read -/
theorem gLc_su {M M' : Nat → Nat → Int32} {n : Nat} (h1 : M 206 (64 + n) = Int32.ofInt (M 188 38).toInt) (h0 : 0 ≤ (M 188 38).toInt) (hf : M' 206 = M 206) (h2 : 0 ≤ (M' 188 38).toInt) (he : gEff M M' 0 1) : gLc M' n (M 188 38).toInt (M' 188 38).toInt (M' 188 38).toInt := by
  have hm : gMn M ≤ gMn M' := he.1
  unfold gMn at hm
  exact ⟨by rw [hf]; exact h1, h0, by omega, Int.le_refl _, Int.le_refl _, gCode_of he, fun z => absurd z (by omega)⟩
/-- its claim is read -/
theorem gLc_cl {M M' : Nat → Nat → Int32} {n : Nat} {f s : Int} (h : gLc M n f s s) (hs : s = (M 188 38).toInt) (hf : M' 206 = M 206) (h2 : 0 ≤ (M' 188 38).toInt) (he : gEff M M' 0 1) : gLc M' n f s (M' 188 38).toInt := by
  have hm : gMn M ≤ gMn M' := he.1
  unfold gMn at hm
  obtain ⟨a1, a2, a3, a4, a5, a6, a7⟩ := gLc_eq h (by rw [hf]) (by omega) he.2.1
  exact ⟨a1, a2, a3, by omega, Int.le_refl _, a6, fun _ => by rw [hs]; exact gCode_of he⟩
theorem gLc_ln {M : Nat → Nat → Int32} {n : Nat} {f s t : Int} (h : gLc M n f s t) (h1 : M 207 (64 + n) = Int32.ofInt s) (h2 : M 208 (64 + n) = Int32.ofInt t) (h3 : (M 188 38).toInt ≤ 500) : gLn M n := by
  obtain ⟨a1, a2, a3, a4, a5, a6, a7⟩ := h
  unfold gLn
  rw [h1, h2, a1, iR (by omega) (by omega), iR (by omega) (by omega), iR (by omega) (by omega)]
  exact ⟨a2, a3, a4, a5, a6, a7⟩
theorem gLs_s {M : Nat → Nat → Int32} {n : Nat} (h : gLs n M) (h1 : gLn M n) : gLs (n + 1) M := fun l hl => by
  by_cases q : l < n
  · exact h l q
  · rw [show l = n by omega]; exact h1
