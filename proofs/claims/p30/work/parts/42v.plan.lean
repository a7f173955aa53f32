/-! a plan is read -/
def gFp (M M' : Nat → Nat → Int32) : Prop := (∀ a, a ≠ 188 → a ≠ 214 → a ≠ 215 → M' a = M a) ∧ (∀ i, i < 96 → M' 214 i = M 214 i ∧ M' 215 i = M 215 i) ∧ (∀ f, f ≠ 25 → f ≠ 26 → f ≠ 27 → f ≠ 28 → f ≠ 42 → f ≠ 43 → M' 188 f = M 188 f)
theorem gFp.trans {M M1 M2 : Nat → Nat → Int32} (h : gFp M M1) (h' : gFp M1 M2) : gFp M M2 :=
  ⟨fun a a1 a2 a3 => (h'.1 a a1 a2 a3).trans (h.1 a a1 a2 a3), fun i hi => ⟨(h'.2.1 i hi).1.trans (h.2.1 i hi).1, (h'.2.1 i hi).2.trans (h.2.1 i hi).2⟩, fun f f1 f2 f3 f4 f5 f6 => (h'.2.2 f f1 f2 f3 f4 f5 f6).trans (h.2.2 f f1 f2 f3 f4 f5 f6)⟩
def gLp (M0 M : Nat → Nat → Int32) : Prop := gTs M ∧ gFp M0 M
theorem gLp_put {M0 M : Nat → Nat → Int32} {a j : Nat} {x : Int32} (h : gLp M0 M) (ha : a = 214 ∨ a = 215) (hj : 96 ≤ j) : gLp M0 (aPut M a j x) := by
  have e : ∀ b i, i < 96 → aPut M a j x b i = M b i := fun b i hi => by
    unfold aPut
    by_cases q : b = a
    · rw [if_pos q, if_neg (by omega)]
    · rw [if_neg q]
  exact ⟨gTs_put h.1 (by omega) (fun q => by omega), h.2.trans ⟨fun b b1 b2 b3 => aPut_r (by omega), fun i hi => ⟨e 214 i hi, e 215 i hi⟩, fun f _ _ _ _ _ _ => aPut_o (by omega)⟩⟩
theorem gLp_rd {M0 M M' : Nat → Nat → Int32} (h : gLp M0 M) (hr : gRd M M') : gLp M0 M' := by
  obtain ⟨t1, t2, t3, t4, t5, t6⟩ := gRd_s hr h.1.1
  exact ⟨t1, h.2.trans ⟨fun a a1 _ _ => hr.1 a a1, fun i _ => by rw [hr.1 214 (by decide), hr.1 215 (by decide)]; exact ⟨rfl, rfl⟩, fun f f1 f2 f3 f4 _ _ => hr.2.1 f f1 f2 f3 f4⟩⟩
theorem gLp_fa {M0 M : Nat → Nat → Int32} {c : Int} (h : gLp M0 M) : gLp M0 (gFa M c) := by
  obtain ⟨t1, t2, t3, t4, t5⟩ := gFa_s (c := c) h.1
  refine ⟨t1, h.2.trans ⟨fun a a1 _ _ => ?_, fun i _ => ?_, fun f _ _ _ _ f5 f6 => ?_⟩⟩
  · unfold gFa
    rw [aPut_r (by omega), aPut_r (by omega)]
  · unfold gFa
    rw [aPut_r (by decide), aPut_r (by decide), aPut_r (by decide), aPut_r (by decide)]; exact ⟨rfl, rfl⟩
  · unfold gFa
    rw [aPut_f f6, aPut_f f5]
theorem gSs_put {M : Nat → Nat → Int32} {n a j : Nat} {x : Int32} (h : gSs n M) (hj : j = 96 + n) : gSs n (aPut M a j x) := by
  intro i hi
  have e : ∀ b, aPut M a j x b (96 + i) = M b (96 + i) := fun b => by
    unfold aPut
    by_cases q : b = a
    · rw [if_pos q, if_neg (by omega)]
    · rw [if_neg q]
  rw [e, e]
  exact h i hi
theorem gSs_rd {M M' : Nat → Nat → Int32} {n : Nat} (h : gSs n M) (hr : gRd M M') : gSs n M' := by
  intro i hi
  rw [hr.1 214 (by decide), hr.1 215 (by decide)]
  exact h i hi
theorem gSs_s {M : Nat → Nat → Int32} {n : Nat} (h : gSs n M) (h1 : M 214 (96 + n) = 10 → 0 ≤ (M 215 (96 + n)).toInt ∧ (M 215 (96 + n)).toInt ≤ 1) : gSs (n + 1) M := fun l hl => by
  by_cases q : l < n
  · exact h l q
  · rw [show l = n by omega]; exact h1
theorem g10 {x : Int32} (h : Int32.ofInt x.toInt = 10) : x.toInt = 10 := by
  rw [Int32.ofInt_toInt] at h
  rw [h]; rfl
theorem bk_79_0 : (aMC 79)[0]? = some [.bipush 0, .istore 1] := by decide +kernel
theorem bk_79_1 : (aMC 79)[1]? = some [.aload 0, .getfield 126912108, .bipush 2, .if_icmp .ne 18] := by decide +kernel
theorem bk_79_2 : (aMC 79)[2]? = some [.aload 0, .aload 0, .getfield 127012112, .bipush 6, .bipush 10, .invokevirtual 1492042, .ifCond .eq 18] := by decide +kernel
theorem bk_79_3 : (aMC 79)[3]? = some [.iload 1, .bipush 24, .if_icmp .ne 5] := by decide +kernel
theorem bk_79_4 : (aMC 79)[4]? = some [.aload 0, .bipush 3, .invokevirtual 1560066, .ireturn] := by decide +kernel
theorem bk_79_5 : (aMC 79)[5]? = some [.aload 0, .getfield 127012112, .istore 2, .aload 0, .getfield 128912190, .bipush 96, .iload 1, .iadd, .iload 2, .iastore, .aload 0, .getfield 129012194, .bipush 96, .iload 1, .iadd, .bipush 0, .iastore, .aload 0, .invokevirtual 1532065, .iload 2, .bipush 7, .if_icmp .eq 7] := by decide +kernel
theorem bk_79_6 : (aMC 79)[6]? = some [.iload 2, .bipush 10, .if_icmp .ne 15] := by decide +kernel
theorem bk_79_7 : (aMC 79)[7]? = some [.aload 0, .getfield 126912108, .bipush 3, .if_icmp .eq 9] := by decide +kernel
theorem bk_79_8 : (aMC 79)[8]? = some [.aload 0, .bipush 1, .invokevirtual 1560066, .ireturn] := by decide +kernel
theorem bk_79_9 : (aMC 79)[9]? = some [.aload 0, .getfield 127012112, .iload 2, .bipush 10, .if_icmp .ne 11] := by decide +kernel
theorem bk_79_10 : (aMC 79)[10]? = some [.bipush 1, .goto 12] := by decide +kernel
theorem bk_79_11 : (aMC 79)[11]? = some [.bipush 9] := by decide +kernel
theorem bk_79_12 : (aMC 79)[12]? = some [.if_icmp .le 14] := by decide +kernel
theorem bk_79_13 : (aMC 79)[13]? = some [.aload 0, .bipush 2, .invokevirtual 1560066, .ireturn] := by decide +kernel
theorem bk_79_14 : (aMC 79)[14]? = some [.aload 0, .getfield 129012194, .bipush 96, .iload 1, .iadd, .aload 0, .getfield 127012112, .iastore, .aload 0, .invokevirtual 1532065] := by decide +kernel
theorem bk_79_15 : (aMC 79)[15]? = some [.aload 0, .bipush 59, .invokevirtual 1580068, .ifCond .ne 17] := by decide +kernel
theorem bk_79_16 : (aMC 79)[16]? = some [.aload 0, .bipush 1, .invokevirtual 1560066, .ireturn] := by decide +kernel
theorem bk_79_17 : (aMC 79)[17]? = some [.aload 0, .invokevirtual 1532065, .iload 1, .bipush 1, .iadd, .istore 1, .goto 1] := by decide +kernel
theorem bk_79_18 : (aMC 79)[18]? = some [.aload 0, .getfield 126912108, .ifCond .ne 20] := by decide +kernel
theorem bk_79_19 : (aMC 79)[19]? = some [.iload 1, .goto 21] := by decide +kernel
theorem bk_79_20 : (aMC 79)[20]? = some [.aload 0, .bipush 1, .invokevirtual 1560066] := by decide +kernel
theorem bk_79_21 : (aMC 79)[21]? = some [.ireturn] := by decide +kernel
set_option maxHeartbeats 4000000 in
theorem h79_l {X : aX} {d : Nat} {k : Nat → aK} (hk : gKs k) {M0 : Nat → Nat → Int32} :
    ∀ (nn : Nat) (n : Nat) (i1 : Int) (M1 : Nat → Nat → Int32) (u2 : Value) (hi : i1 = n) (hW : gLp M0 M1) (hL : gSs n M1) (hn : n ≤ 24) (hd : (M1 188 24).toInt - (M1 188 26).toInt ≤ nn), zW X (d + 1 + 1 + 1 + 1) 79 1 [.aload 0, .getfield 126912108, .bipush 2, .if_icmp .ne 18] [.ref 188, iv i1, u2] [] (gH k M1) (fun rv h' => ∃ e M', rv = some (iv e) ∧ h' = gH k M' ∧ gLp M0 M' ∧ (e = -1 ∨ ∃ n : Nat, e = n ∧ n ≤ 24 ∧ gSs n M')) := by
  intro nn
  induction nn with
  | zero =>
    intro n i1 M1 u2 hi hW hL hn hd
    obtain ⟨p1, p2, p3, p4, -⟩ := hW.1.1
    obtain ⟨q1, q2, q3, q4, q5, q6, -⟩ := hW.1.2
    have en : ((96 + i1)).toNat = 96 + n := by omega
    refine wP (ls' := [.ref 188, iv i1, u2]) (st' := [.ref 188]) rfl rfl ?_
    refine wGetN hk (f := 27) (e := (M1 188 27).toInt) (by decide +kernel) (iE _) ?_
    refine wP (ls' := [.ref 188, iv i1, u2]) (st' := [iv 2, iv (M1 188 27).toInt]) rfl rfl ?_
    refine wIfc (n1 := 18) rfl bk_79_18 bk_79_2 (by first | exact iG _ | omega) (by omega) (fun g0 => ?_) (fun g0 => ?_)
    · replace g0 : ¬ ((M1 188 27).toInt : Int) = 2 := g0
      refine wP (ls' := [.ref 188, iv i1, u2]) (st' := [.ref 188]) rfl rfl ?_
      refine wGetN hk (f := 27) (e := (M1 188 27).toInt) (by decide +kernel) (iE _) ?_
      refine wIf0 (n1 := 20) rfl bk_79_20 bk_79_19 (by first | exact iG _ | omega) (fun g1 => ?_) (fun g1 => ?_)
      · replace g1 : ¬ ((M1 188 27).toInt : Int) = 0 := g1
        refine wP (ls' := [.ref 188, iv i1, u2]) (st' := [.ref 188]) rfl rfl ?_
        refine wP (ls' := [.ref 188, iv i1, u2]) (st' := [iv 1, .ref 188]) rfl rfl ?_
        refine wCall hk (q := 66) (na := 1) (a := 188) (as := [iv 1]) (t := []) rfl (by decide +kernel) (by decide) (by decide +kernel) (Nat.le_of_ble_eq_true rfl) rfl rfl (zRn.mono (h66 hk) (fun rv h' hq => ?_))
        obtain ⟨rfl, rfl⟩ := hq
        refine ⟨rfl, ?_⟩
        show zW X _ 79 20 [] [.ref 188, iv i1, u2] [iv (-1)] (gH k (gFa M1 1)) _
        refine zW_fall bk_79_21 ?_
        exact wIret (Or.inl (by decide +kernel)) ⟨-1, _, rfl, rfl, gLp_fa hW, Or.inl rfl⟩
      · replace g1 : ¬ (¬ ((M1 188 27).toInt : Int) = 0) := g1
        refine wP (ls' := [.ref 188, iv i1, u2]) (st' := [iv i1]) rfl rfl ?_
        refine wGoto (n1 := 21) rfl bk_79_21 ?_
        exact wIret (Or.inl (by decide +kernel)) ⟨i1, _, rfl, rfl, hW, Or.inr ⟨n, hi, hn, hL⟩⟩
    · replace g0 : ¬ (¬ ((M1 188 27).toInt : Int) = 2) := g0
      refine wP (ls' := [.ref 188, iv i1, u2]) (st' := [.ref 188]) rfl rfl ?_
      refine wP (ls' := [.ref 188, iv i1, u2]) (st' := [.ref 188, .ref 188]) rfl rfl ?_
      refine wGetN hk (f := 28) (e := (M1 188 28).toInt) (by decide +kernel) (iE _) ?_
      refine wP (ls' := [.ref 188, iv i1, u2]) (st' := [iv 6, iv (M1 188 28).toInt, .ref 188]) rfl rfl ?_
      refine wP (ls' := [.ref 188, iv i1, u2]) (st' := [iv 10, iv 6, iv (M1 188 28).toInt, .ref 188]) rfl rfl ?_
      refine wCall hk (q := 42) (na := 3) (a := 188) (as := [iv (M1 188 28).toInt, iv 6, iv 10]) (t := []) rfl (by decide +kernel) (by decide) (by decide +kernel) (Nat.le_of_ble_eq_true rfl) rfl rfl (zRn.mono (h42 hk (iG _) (by omega) (by omega)) (fun rv h' hq => ?_))
      obtain ⟨rfl, e2, rfl, r2⟩ := hq
      have rb2 : 0 ≤ e2 ∧ e2 ≤ 1 := by omega
      clear r2
      refine ⟨rfl, ?_⟩
      show zW X _ 79 2 [.ifCond .eq 18] [.ref 188, iv i1, u2] [iv e2] (gH k M1) _
      refine wIf0 (n1 := 18) rfl bk_79_18 bk_79_3 (by omega) (fun g1 => ?_) (fun g1 => ?_)
      · replace g1 : (e2 : Int) = 0 := g1
        refine wP (ls' := [.ref 188, iv i1, u2]) (st' := [.ref 188]) rfl rfl ?_
        refine wGetN hk (f := 27) (e := (M1 188 27).toInt) (by decide +kernel) (iE _) ?_
        refine wIf0 (n1 := 20) rfl bk_79_20 bk_79_19 (by first | exact iG _ | omega) (fun g2 => ?_) (fun g2 => ?_)
        · replace g2 : ¬ ((M1 188 27).toInt : Int) = 0 := g2
          refine wP (ls' := [.ref 188, iv i1, u2]) (st' := [.ref 188]) rfl rfl ?_
          refine wP (ls' := [.ref 188, iv i1, u2]) (st' := [iv 1, .ref 188]) rfl rfl ?_
          refine wCall hk (q := 66) (na := 1) (a := 188) (as := [iv 1]) (t := []) rfl (by decide +kernel) (by decide) (by decide +kernel) (Nat.le_of_ble_eq_true rfl) rfl rfl (zRn.mono (h66 hk) (fun rv h' hq => ?_))
          obtain ⟨rfl, rfl⟩ := hq
          refine ⟨rfl, ?_⟩
          show zW X _ 79 20 [] [.ref 188, iv i1, u2] [iv (-1)] (gH k (gFa M1 1)) _
          refine zW_fall bk_79_21 ?_
          exact wIret (Or.inl (by decide +kernel)) ⟨-1, _, rfl, rfl, gLp_fa hW, Or.inl rfl⟩
        · replace g2 : ¬ (¬ ((M1 188 27).toInt : Int) = 0) := g2
          refine wP (ls' := [.ref 188, iv i1, u2]) (st' := [iv i1]) rfl rfl ?_
          refine wGoto (n1 := 21) rfl bk_79_21 ?_
          exact wIret (Or.inl (by decide +kernel)) ⟨i1, _, rfl, rfl, hW, Or.inr ⟨n, hi, hn, hL⟩⟩
      · replace g1 : ¬ ((e2 : Int) = 0) := g1
        refine wP (ls' := [.ref 188, iv i1, u2]) (st' := [iv i1]) rfl rfl ?_
        refine wP (ls' := [.ref 188, iv i1, u2]) (st' := [iv 24, iv i1]) rfl rfl ?_
        refine wIfc (n1 := 5) rfl bk_79_5 bk_79_4 (by omega) (by omega) (fun g2 => ?_) (fun g2 => ?_)
        · replace g2 : ¬ (i1 : Int) = 24 := g2
          refine wP (ls' := [.ref 188, iv i1, u2]) (st' := [.ref 188]) rfl rfl ?_
          refine wGetN hk (f := 28) (e := (M1 188 28).toInt) (by decide +kernel) (iE _) ?_
          refine wP (ls' := [.ref 188, iv i1, iv (M1 188 28).toInt]) (st' := []) rfl rfl ?_
          refine wP (ls' := [.ref 188, iv i1, iv (M1 188 28).toInt]) (st' := [.ref 188]) rfl rfl ?_
          refine wGetR hk (r := 214) (by decide +kernel) ?_
          refine wP (ls' := [.ref 188, iv i1, iv (M1 188 28).toInt]) (st' := [iv 96, .ref 214]) rfl rfl ?_
          refine wP (ls' := [.ref 188, iv i1, iv (M1 188 28).toInt]) (st' := [iv i1, iv 96, .ref 214]) rfl rfl ?_
          refine wAdd ?_
          refine wP (ls' := [.ref 188, iv i1, iv (M1 188 28).toInt]) (st' := [iv (M1 188 28).toInt, iv (96 + i1), .ref 214]) rfl rfl ?_
          refine wIst hk (l := 120) (by decide +kernel) (by omega) (by omega) ?_
          refine wP (ls' := [.ref 188, iv i1, iv (M1 188 28).toInt]) (st' := [.ref 188]) rfl rfl ?_
          refine wGetR hk (r := 215) (by decide +kernel) ?_
          refine wP (ls' := [.ref 188, iv i1, iv (M1 188 28).toInt]) (st' := [iv 96, .ref 215]) rfl rfl ?_
          refine wP (ls' := [.ref 188, iv i1, iv (M1 188 28).toInt]) (st' := [iv i1, iv 96, .ref 215]) rfl rfl ?_
          refine wAdd ?_
          refine wP (ls' := [.ref 188, iv i1, iv (M1 188 28).toInt]) (st' := [iv 0, iv (96 + i1), .ref 215]) rfl rfl ?_
          refine wIst hk (l := 120) (by decide +kernel) (by omega) (by omega) ?_
          refine wP (ls' := [.ref 188, iv i1, iv (M1 188 28).toInt]) (st' := [.ref 188]) rfl rfl ?_
          refine wCall hk (q := 65) (na := 0) (a := 188) (as := []) (t := []) rfl (by decide +kernel) (by decide) (by decide +kernel) (Nat.le_of_ble_eq_true rfl) rfl rfl (zRn.mono (h65p hk (gLp_put (gLp_put hW (a := 214) (j := ((96 + i1)).toNat) (x := Int32.ofInt (M1 188 28).toInt) (by omega) (by omega)) (a := 215) (j := ((96 + i1)).toNat) (x := Int32.ofInt 0) (by omega) (by omega)).1.1) (fun rv h' hq => ?_))
          obtain ⟨M2, rfl, rfl, hRb⟩ := hq
          have w2 := gLp_rd (gLp_put (gLp_put hW (a := 214) (j := ((96 + i1)).toNat) (x := Int32.ofInt (M1 188 28).toInt) (by omega) (by omega)) (a := 215) (j := ((96 + i1)).toNat) (x := Int32.ofInt 0) (by omega) (by omega)) hRb
          have l2 := gSs_rd (gSs_put (gSs_put hL (a := 214) (j := ((96 + i1)).toNat) (x := Int32.ofInt (M1 188 28).toInt) (by omega)) (a := 215) (j := ((96 + i1)).toNat) (x := Int32.ofInt 0) (by omega)) hRb
          obtain ⟨-, -, -, -, -, b6⟩ := gRd_s hRb (gLp_put (gLp_put hW (a := 214) (j := ((96 + i1)).toNat) (x := Int32.ofInt (M1 188 28).toInt) (by omega) (by omega)) (a := 215) (j := ((96 + i1)).toNat) (x := Int32.ofInt 0) (by omega) (by omega)).1.1
          rw [aPut_o (by decide), aPut_o (by decide)] at b6
          have b24 : (M2 188 24).toInt = (M1 188 24).toInt := by rw [hRb.2.1 24 (by decide) (by decide) (by decide) (by decide), aPut_o (by decide), aPut_o (by decide)]
          have b14 : M2 214 ((96 + i1)).toNat = Int32.ofInt (M1 188 28).toInt := by rw [hRb.1 214 (by decide), aPut_o (by decide), aPut_e]
          obtain ⟨x1, x2, x3, x4, -, -, x5⟩ := w2.1.2
          refine ⟨rfl, ?_⟩
          show zW X _ 79 5 [.iload 2, .bipush 7, .if_icmp .eq 7] [.ref 188, iv i1, iv (M1 188 28).toInt] [] (gH k M2) _
          refine wP (ls' := [.ref 188, iv i1, iv (M1 188 28).toInt]) (st' := [iv (M1 188 28).toInt]) rfl rfl ?_
          refine wP (ls' := [.ref 188, iv i1, iv (M1 188 28).toInt]) (st' := [iv 7, iv (M1 188 28).toInt]) rfl rfl ?_
          refine wIfc (n1 := 7) rfl bk_79_7 bk_79_6 (by first | exact iG _ | omega) (by omega) (fun g3 => ?_) (fun g3 => ?_)
          · replace g3 : ((M1 188 28).toInt : Int) = 7 := g3
            refine wP (ls' := [.ref 188, iv i1, iv (M1 188 28).toInt]) (st' := [.ref 188]) rfl rfl ?_
            refine wGetN hk (f := 27) (e := (M2 188 27).toInt) (by decide +kernel) (iE _) ?_
            refine wP (ls' := [.ref 188, iv i1, iv (M1 188 28).toInt]) (st' := [iv 3, iv (M2 188 27).toInt]) rfl rfl ?_
            refine wIfc (n1 := 9) rfl bk_79_9 bk_79_8 (by first | exact iG _ | omega) (by omega) (fun g4 => ?_) (fun g4 => ?_)
            · replace g4 : ((M2 188 27).toInt : Int) = 3 := g4
              refine wP (ls' := [.ref 188, iv i1, iv (M1 188 28).toInt]) (st' := [.ref 188]) rfl rfl ?_
              refine wGetN hk (f := 28) (e := (M2 188 28).toInt) (by decide +kernel) (iE _) ?_
              refine wP (ls' := [.ref 188, iv i1, iv (M1 188 28).toInt]) (st' := [iv (M1 188 28).toInt, iv (M2 188 28).toInt]) rfl rfl ?_
              refine wP (ls' := [.ref 188, iv i1, iv (M1 188 28).toInt]) (st' := [iv 10, iv (M1 188 28).toInt, iv (M2 188 28).toInt]) rfl rfl ?_
              refine wIfc (n1 := 11) rfl bk_79_11 bk_79_10 (by first | exact iG _ | omega) (by omega) (fun g5 => ?_) (fun g5 => ?_)
              · replace g5 : ¬ ((M1 188 28).toInt : Int) = 10 := g5
                refine wP (ls' := [.ref 188, iv i1, iv (M1 188 28).toInt]) (st' := [iv 9, iv (M2 188 28).toInt]) rfl rfl ?_
                refine zW_fall bk_79_12 ?_
                refine wIfc (n1 := 14) rfl bk_79_14 bk_79_13 (by first | exact iG _ | omega) (by omega) (fun g6 => ?_) (fun g6 => ?_)
                · replace g6 : ((M2 188 28).toInt : Int) ≤ 9 := g6
                  refine wP (ls' := [.ref 188, iv i1, iv (M1 188 28).toInt]) (st' := [.ref 188]) rfl rfl ?_
                  refine wGetR hk (r := 215) (by decide +kernel) ?_
                  refine wP (ls' := [.ref 188, iv i1, iv (M1 188 28).toInt]) (st' := [iv 96, .ref 215]) rfl rfl ?_
                  refine wP (ls' := [.ref 188, iv i1, iv (M1 188 28).toInt]) (st' := [iv i1, iv 96, .ref 215]) rfl rfl ?_
                  refine wAdd ?_
                  refine wP (ls' := [.ref 188, iv i1, iv (M1 188 28).toInt]) (st' := [.ref 188, iv (96 + i1), .ref 215]) rfl rfl ?_
                  refine wGetN hk (f := 28) (e := (M2 188 28).toInt) (by decide +kernel) (iE _) ?_
                  refine wIst hk (l := 120) (by decide +kernel) (by omega) (by omega) ?_
                  refine wP (ls' := [.ref 188, iv i1, iv (M1 188 28).toInt]) (st' := [.ref 188]) rfl rfl ?_
                  refine wCall hk (q := 65) (na := 0) (a := 188) (as := []) (t := []) rfl (by decide +kernel) (by decide) (by decide +kernel) (Nat.le_of_ble_eq_true rfl) rfl rfl (zRn.mono (h65p hk (gLp_put w2 (a := 215) (j := ((96 + i1)).toNat) (x := Int32.ofInt (M2 188 28).toInt) (by omega) (by omega)).1.1) (fun rv h' hq => ?_))
                  obtain ⟨M3, rfl, rfl, hRc⟩ := hq
                  have w3 := gLp_rd (gLp_put w2 (a := 215) (j := ((96 + i1)).toNat) (x := Int32.ofInt (M2 188 28).toInt) (by omega) (by omega)) hRc
                  have l3 := gSs_rd (gSs_put l2 (a := 215) (j := ((96 + i1)).toNat) (x := Int32.ofInt (M2 188 28).toInt) (by omega)) hRc
                  obtain ⟨-, -, -, -, -, c6⟩ := gRd_s hRc (gLp_put w2 (a := 215) (j := ((96 + i1)).toNat) (x := Int32.ofInt (M2 188 28).toInt) (by omega) (by omega)).1.1
                  rw [aPut_o (by decide)] at c6
                  have c24 : (M3 188 24).toInt = (M2 188 24).toInt := by rw [hRc.2.1 24 (by decide) (by decide) (by decide) (by decide), aPut_o (by decide)]
                  have c14 : M3 214 ((96 + i1)).toNat = Int32.ofInt (M1 188 28).toInt := by rw [hRc.1 214 (by decide), aPut_o (by decide), b14]
                  have c15 : M3 215 ((96 + i1)).toNat = Int32.ofInt (M2 188 28).toInt := by rw [hRc.1 215 (by decide), aPut_e]
                  obtain ⟨y1, y2, y3, y4, -, -, -⟩ := w3.1.2
                  refine ⟨rfl, ?_⟩
                  show zW X _ 79 14 [] [.ref 188, iv i1, iv (M1 188 28).toInt] [] (gH k M3) _
                  refine zW_fall bk_79_15 ?_
                  refine wP (ls' := [.ref 188, iv i1, iv (M1 188 28).toInt]) (st' := [.ref 188]) rfl rfl ?_
                  refine wP (ls' := [.ref 188, iv i1, iv (M1 188 28).toInt]) (st' := [iv 59, .ref 188]) rfl rfl ?_
                  refine wCall hk (q := 68) (na := 1) (a := 188) (as := [iv 59]) (t := []) rfl (by decide +kernel) (by decide) (by decide +kernel) (Nat.le_of_ble_eq_true rfl) rfl rfl (zRn.mono (h68 hk (by omega)) (fun rv h' hq => ?_))
                  obtain ⟨rfl, e6, rfl, r6⟩ := hq
                  have rb6 : 0 ≤ e6 ∧ e6 ≤ 1 := by omega
                  clear r6
                  refine ⟨rfl, ?_⟩
                  show zW X _ 79 15 [.ifCond .ne 17] [.ref 188, iv i1, iv (M1 188 28).toInt] [iv e6] (gH k M3) _
                  refine wIf0 (n1 := 17) rfl bk_79_17 bk_79_16 (by omega) (fun g7 => ?_) (fun g7 => ?_)
                  · replace g7 : ¬ (e6 : Int) = 0 := g7
                    refine wP (ls' := [.ref 188, iv i1, iv (M1 188 28).toInt]) (st' := [.ref 188]) rfl rfl ?_
                    refine wCall hk (q := 65) (na := 0) (a := 188) (as := []) (t := []) rfl (by decide +kernel) (by decide) (by decide +kernel) (Nat.le_of_ble_eq_true rfl) rfl rfl (zRn.mono (h65p hk w3.1.1) (fun rv h' hq => ?_))
                    obtain ⟨M4, rfl, rfl, hRd⟩ := hq
                    refine ⟨rfl, ?_⟩
                    show zW X _ 79 17 [.iload 1, .bipush 1, .iadd, .istore 1, .goto 1] [.ref 188, iv i1, iv (M1 188 28).toInt] [] (gH k M4) _
                    refine wP (ls' := [.ref 188, iv i1, iv (M1 188 28).toInt]) (st' := [iv i1]) rfl rfl ?_
                    refine wP (ls' := [.ref 188, iv i1, iv (M1 188 28).toInt]) (st' := [iv 1, iv i1]) rfl rfl ?_
                    refine wAdd ?_
                    refine wP (ls' := [.ref 188, iv (i1 + 1), iv (M1 188 28).toInt]) (st' := []) rfl rfl ?_
                    refine wGoto (n1 := 1) rfl bk_79_1 ?_
                    exfalso
                    omega
                  · replace g7 : ¬ (¬ (e6 : Int) = 0) := g7
                    refine wP (ls' := [.ref 188, iv i1, iv (M1 188 28).toInt]) (st' := [.ref 188]) rfl rfl ?_
                    refine wP (ls' := [.ref 188, iv i1, iv (M1 188 28).toInt]) (st' := [iv 1, .ref 188]) rfl rfl ?_
                    refine wCall hk (q := 66) (na := 1) (a := 188) (as := [iv 1]) (t := []) rfl (by decide +kernel) (by decide) (by decide +kernel) (Nat.le_of_ble_eq_true rfl) rfl rfl (zRn.mono (h66 hk) (fun rv h' hq => ?_))
                    obtain ⟨rfl, rfl⟩ := hq
                    refine ⟨rfl, ?_⟩
                    show zW X _ 79 16 [.ireturn] [.ref 188, iv i1, iv (M1 188 28).toInt] [iv (-1)] (gH k (gFa M3 1)) _
                    exact wIret (Or.inl (by decide +kernel)) ⟨-1, _, rfl, rfl, gLp_fa w3, Or.inl rfl⟩
                · replace g6 : ¬ (((M2 188 28).toInt : Int) ≤ 9) := g6
                  refine wP (ls' := [.ref 188, iv i1, iv (M1 188 28).toInt]) (st' := [.ref 188]) rfl rfl ?_
                  refine wP (ls' := [.ref 188, iv i1, iv (M1 188 28).toInt]) (st' := [iv 2, .ref 188]) rfl rfl ?_
                  refine wCall hk (q := 66) (na := 1) (a := 188) (as := [iv 2]) (t := []) rfl (by decide +kernel) (by decide) (by decide +kernel) (Nat.le_of_ble_eq_true rfl) rfl rfl (zRn.mono (h66 hk) (fun rv h' hq => ?_))
                  obtain ⟨rfl, rfl⟩ := hq
                  refine ⟨rfl, ?_⟩
                  show zW X _ 79 13 [.ireturn] [.ref 188, iv i1, iv (M1 188 28).toInt] [iv (-1)] (gH k (gFa M2 2)) _
                  exact wIret (Or.inl (by decide +kernel)) ⟨-1, _, rfl, rfl, gLp_fa w2, Or.inl rfl⟩
              · replace g5 : ¬ (¬ ((M1 188 28).toInt : Int) = 10) := g5
                refine wP (ls' := [.ref 188, iv i1, iv (M1 188 28).toInt]) (st' := [iv 1, iv (M2 188 28).toInt]) rfl rfl ?_
                refine wGoto (n1 := 12) rfl bk_79_12 ?_
                refine wIfc (n1 := 14) rfl bk_79_14 bk_79_13 (by first | exact iG _ | omega) (by omega) (fun g6 => ?_) (fun g6 => ?_)
                · replace g6 : ((M2 188 28).toInt : Int) ≤ 1 := g6
                  refine wP (ls' := [.ref 188, iv i1, iv (M1 188 28).toInt]) (st' := [.ref 188]) rfl rfl ?_
                  refine wGetR hk (r := 215) (by decide +kernel) ?_
                  refine wP (ls' := [.ref 188, iv i1, iv (M1 188 28).toInt]) (st' := [iv 96, .ref 215]) rfl rfl ?_
                  refine wP (ls' := [.ref 188, iv i1, iv (M1 188 28).toInt]) (st' := [iv i1, iv 96, .ref 215]) rfl rfl ?_
                  refine wAdd ?_
                  refine wP (ls' := [.ref 188, iv i1, iv (M1 188 28).toInt]) (st' := [.ref 188, iv (96 + i1), .ref 215]) rfl rfl ?_
                  refine wGetN hk (f := 28) (e := (M2 188 28).toInt) (by decide +kernel) (iE _) ?_
                  refine wIst hk (l := 120) (by decide +kernel) (by omega) (by omega) ?_
                  refine wP (ls' := [.ref 188, iv i1, iv (M1 188 28).toInt]) (st' := [.ref 188]) rfl rfl ?_
                  refine wCall hk (q := 65) (na := 0) (a := 188) (as := []) (t := []) rfl (by decide +kernel) (by decide) (by decide +kernel) (Nat.le_of_ble_eq_true rfl) rfl rfl (zRn.mono (h65p hk (gLp_put w2 (a := 215) (j := ((96 + i1)).toNat) (x := Int32.ofInt (M2 188 28).toInt) (by omega) (by omega)).1.1) (fun rv h' hq => ?_))
                  obtain ⟨M3, rfl, rfl, hRc⟩ := hq
                  have w3 := gLp_rd (gLp_put w2 (a := 215) (j := ((96 + i1)).toNat) (x := Int32.ofInt (M2 188 28).toInt) (by omega) (by omega)) hRc
                  have l3 := gSs_rd (gSs_put l2 (a := 215) (j := ((96 + i1)).toNat) (x := Int32.ofInt (M2 188 28).toInt) (by omega)) hRc
                  obtain ⟨-, -, -, -, -, c6⟩ := gRd_s hRc (gLp_put w2 (a := 215) (j := ((96 + i1)).toNat) (x := Int32.ofInt (M2 188 28).toInt) (by omega) (by omega)).1.1
                  rw [aPut_o (by decide)] at c6
                  have c24 : (M3 188 24).toInt = (M2 188 24).toInt := by rw [hRc.2.1 24 (by decide) (by decide) (by decide) (by decide), aPut_o (by decide)]
                  have c14 : M3 214 ((96 + i1)).toNat = Int32.ofInt (M1 188 28).toInt := by rw [hRc.1 214 (by decide), aPut_o (by decide), b14]
                  have c15 : M3 215 ((96 + i1)).toNat = Int32.ofInt (M2 188 28).toInt := by rw [hRc.1 215 (by decide), aPut_e]
                  obtain ⟨y1, y2, y3, y4, -, -, -⟩ := w3.1.2
                  refine ⟨rfl, ?_⟩
                  show zW X _ 79 14 [] [.ref 188, iv i1, iv (M1 188 28).toInt] [] (gH k M3) _
                  refine zW_fall bk_79_15 ?_
                  refine wP (ls' := [.ref 188, iv i1, iv (M1 188 28).toInt]) (st' := [.ref 188]) rfl rfl ?_
                  refine wP (ls' := [.ref 188, iv i1, iv (M1 188 28).toInt]) (st' := [iv 59, .ref 188]) rfl rfl ?_
                  refine wCall hk (q := 68) (na := 1) (a := 188) (as := [iv 59]) (t := []) rfl (by decide +kernel) (by decide) (by decide +kernel) (Nat.le_of_ble_eq_true rfl) rfl rfl (zRn.mono (h68 hk (by omega)) (fun rv h' hq => ?_))
                  obtain ⟨rfl, e11, rfl, r11⟩ := hq
                  have rb11 : 0 ≤ e11 ∧ e11 ≤ 1 := by omega
                  clear r11
                  refine ⟨rfl, ?_⟩
                  show zW X _ 79 15 [.ifCond .ne 17] [.ref 188, iv i1, iv (M1 188 28).toInt] [iv e11] (gH k M3) _
                  refine wIf0 (n1 := 17) rfl bk_79_17 bk_79_16 (by omega) (fun g7 => ?_) (fun g7 => ?_)
                  · replace g7 : ¬ (e11 : Int) = 0 := g7
                    refine wP (ls' := [.ref 188, iv i1, iv (M1 188 28).toInt]) (st' := [.ref 188]) rfl rfl ?_
                    refine wCall hk (q := 65) (na := 0) (a := 188) (as := []) (t := []) rfl (by decide +kernel) (by decide) (by decide +kernel) (Nat.le_of_ble_eq_true rfl) rfl rfl (zRn.mono (h65p hk w3.1.1) (fun rv h' hq => ?_))
                    obtain ⟨M4, rfl, rfl, hRd⟩ := hq
                    refine ⟨rfl, ?_⟩
                    show zW X _ 79 17 [.iload 1, .bipush 1, .iadd, .istore 1, .goto 1] [.ref 188, iv i1, iv (M1 188 28).toInt] [] (gH k M4) _
                    refine wP (ls' := [.ref 188, iv i1, iv (M1 188 28).toInt]) (st' := [iv i1]) rfl rfl ?_
                    refine wP (ls' := [.ref 188, iv i1, iv (M1 188 28).toInt]) (st' := [iv 1, iv i1]) rfl rfl ?_
                    refine wAdd ?_
                    refine wP (ls' := [.ref 188, iv (i1 + 1), iv (M1 188 28).toInt]) (st' := []) rfl rfl ?_
                    refine wGoto (n1 := 1) rfl bk_79_1 ?_
                    exfalso
                    omega
                  · replace g7 : ¬ (¬ (e11 : Int) = 0) := g7
                    refine wP (ls' := [.ref 188, iv i1, iv (M1 188 28).toInt]) (st' := [.ref 188]) rfl rfl ?_
                    refine wP (ls' := [.ref 188, iv i1, iv (M1 188 28).toInt]) (st' := [iv 1, .ref 188]) rfl rfl ?_
                    refine wCall hk (q := 66) (na := 1) (a := 188) (as := [iv 1]) (t := []) rfl (by decide +kernel) (by decide) (by decide +kernel) (Nat.le_of_ble_eq_true rfl) rfl rfl (zRn.mono (h66 hk) (fun rv h' hq => ?_))
                    obtain ⟨rfl, rfl⟩ := hq
                    refine ⟨rfl, ?_⟩
                    show zW X _ 79 16 [.ireturn] [.ref 188, iv i1, iv (M1 188 28).toInt] [iv (-1)] (gH k (gFa M3 1)) _
                    exact wIret (Or.inl (by decide +kernel)) ⟨-1, _, rfl, rfl, gLp_fa w3, Or.inl rfl⟩
                · replace g6 : ¬ (((M2 188 28).toInt : Int) ≤ 1) := g6
                  refine wP (ls' := [.ref 188, iv i1, iv (M1 188 28).toInt]) (st' := [.ref 188]) rfl rfl ?_
                  refine wP (ls' := [.ref 188, iv i1, iv (M1 188 28).toInt]) (st' := [iv 2, .ref 188]) rfl rfl ?_
                  refine wCall hk (q := 66) (na := 1) (a := 188) (as := [iv 2]) (t := []) rfl (by decide +kernel) (by decide) (by decide +kernel) (Nat.le_of_ble_eq_true rfl) rfl rfl (zRn.mono (h66 hk) (fun rv h' hq => ?_))
                  obtain ⟨rfl, rfl⟩ := hq
                  refine ⟨rfl, ?_⟩
                  show zW X _ 79 13 [.ireturn] [.ref 188, iv i1, iv (M1 188 28).toInt] [iv (-1)] (gH k (gFa M2 2)) _
                  exact wIret (Or.inl (by decide +kernel)) ⟨-1, _, rfl, rfl, gLp_fa w2, Or.inl rfl⟩
            · replace g4 : ¬ (((M2 188 27).toInt : Int) = 3) := g4
              refine wP (ls' := [.ref 188, iv i1, iv (M1 188 28).toInt]) (st' := [.ref 188]) rfl rfl ?_
              refine wP (ls' := [.ref 188, iv i1, iv (M1 188 28).toInt]) (st' := [iv 1, .ref 188]) rfl rfl ?_
              refine wCall hk (q := 66) (na := 1) (a := 188) (as := [iv 1]) (t := []) rfl (by decide +kernel) (by decide) (by decide +kernel) (Nat.le_of_ble_eq_true rfl) rfl rfl (zRn.mono (h66 hk) (fun rv h' hq => ?_))
              obtain ⟨rfl, rfl⟩ := hq
              refine ⟨rfl, ?_⟩
              show zW X _ 79 8 [.ireturn] [.ref 188, iv i1, iv (M1 188 28).toInt] [iv (-1)] (gH k (gFa M2 1)) _
              exact wIret (Or.inl (by decide +kernel)) ⟨-1, _, rfl, rfl, gLp_fa w2, Or.inl rfl⟩
          · replace g3 : ¬ (((M1 188 28).toInt : Int) = 7) := g3
            refine wP (ls' := [.ref 188, iv i1, iv (M1 188 28).toInt]) (st' := [iv (M1 188 28).toInt]) rfl rfl ?_
            refine wP (ls' := [.ref 188, iv i1, iv (M1 188 28).toInt]) (st' := [iv 10, iv (M1 188 28).toInt]) rfl rfl ?_
            refine wIfc (n1 := 15) rfl bk_79_15 bk_79_7 (by first | exact iG _ | omega) (by omega) (fun g4 => ?_) (fun g4 => ?_)
            · replace g4 : ¬ ((M1 188 28).toInt : Int) = 10 := g4
              refine wP (ls' := [.ref 188, iv i1, iv (M1 188 28).toInt]) (st' := [.ref 188]) rfl rfl ?_
              refine wP (ls' := [.ref 188, iv i1, iv (M1 188 28).toInt]) (st' := [iv 59, .ref 188]) rfl rfl ?_
              refine wCall hk (q := 68) (na := 1) (a := 188) (as := [iv 59]) (t := []) rfl (by decide +kernel) (by decide) (by decide +kernel) (Nat.le_of_ble_eq_true rfl) rfl rfl (zRn.mono (h68 hk (by omega)) (fun rv h' hq => ?_))
              obtain ⟨rfl, e16, rfl, r16⟩ := hq
              have rb16 : 0 ≤ e16 ∧ e16 ≤ 1 := by omega
              clear r16
              refine ⟨rfl, ?_⟩
              show zW X _ 79 15 [.ifCond .ne 17] [.ref 188, iv i1, iv (M1 188 28).toInt] [iv e16] (gH k M2) _
              refine wIf0 (n1 := 17) rfl bk_79_17 bk_79_16 (by omega) (fun g5 => ?_) (fun g5 => ?_)
              · replace g5 : ¬ (e16 : Int) = 0 := g5
                refine wP (ls' := [.ref 188, iv i1, iv (M1 188 28).toInt]) (st' := [.ref 188]) rfl rfl ?_
                refine wCall hk (q := 65) (na := 0) (a := 188) (as := []) (t := []) rfl (by decide +kernel) (by decide) (by decide +kernel) (Nat.le_of_ble_eq_true rfl) rfl rfl (zRn.mono (h65p hk w2.1.1) (fun rv h' hq => ?_))
                obtain ⟨M4, rfl, rfl, hRd⟩ := hq
                refine ⟨rfl, ?_⟩
                show zW X _ 79 17 [.iload 1, .bipush 1, .iadd, .istore 1, .goto 1] [.ref 188, iv i1, iv (M1 188 28).toInt] [] (gH k M4) _
                refine wP (ls' := [.ref 188, iv i1, iv (M1 188 28).toInt]) (st' := [iv i1]) rfl rfl ?_
                refine wP (ls' := [.ref 188, iv i1, iv (M1 188 28).toInt]) (st' := [iv 1, iv i1]) rfl rfl ?_
                refine wAdd ?_
                refine wP (ls' := [.ref 188, iv (i1 + 1), iv (M1 188 28).toInt]) (st' := []) rfl rfl ?_
                refine wGoto (n1 := 1) rfl bk_79_1 ?_
                exfalso
                omega
              · replace g5 : ¬ (¬ (e16 : Int) = 0) := g5
                refine wP (ls' := [.ref 188, iv i1, iv (M1 188 28).toInt]) (st' := [.ref 188]) rfl rfl ?_
                refine wP (ls' := [.ref 188, iv i1, iv (M1 188 28).toInt]) (st' := [iv 1, .ref 188]) rfl rfl ?_
                refine wCall hk (q := 66) (na := 1) (a := 188) (as := [iv 1]) (t := []) rfl (by decide +kernel) (by decide) (by decide +kernel) (Nat.le_of_ble_eq_true rfl) rfl rfl (zRn.mono (h66 hk) (fun rv h' hq => ?_))
                obtain ⟨rfl, rfl⟩ := hq
                refine ⟨rfl, ?_⟩
                show zW X _ 79 16 [.ireturn] [.ref 188, iv i1, iv (M1 188 28).toInt] [iv (-1)] (gH k (gFa M2 1)) _
                exact wIret (Or.inl (by decide +kernel)) ⟨-1, _, rfl, rfl, gLp_fa w2, Or.inl rfl⟩
            · replace g4 : ¬ (¬ ((M1 188 28).toInt : Int) = 10) := g4
              refine wP (ls' := [.ref 188, iv i1, iv (M1 188 28).toInt]) (st' := [.ref 188]) rfl rfl ?_
              refine wGetN hk (f := 27) (e := (M2 188 27).toInt) (by decide +kernel) (iE _) ?_
              refine wP (ls' := [.ref 188, iv i1, iv (M1 188 28).toInt]) (st' := [iv 3, iv (M2 188 27).toInt]) rfl rfl ?_
              refine wIfc (n1 := 9) rfl bk_79_9 bk_79_8 (by first | exact iG _ | omega) (by omega) (fun g5 => ?_) (fun g5 => ?_)
              · replace g5 : ((M2 188 27).toInt : Int) = 3 := g5
                refine wP (ls' := [.ref 188, iv i1, iv (M1 188 28).toInt]) (st' := [.ref 188]) rfl rfl ?_
                refine wGetN hk (f := 28) (e := (M2 188 28).toInt) (by decide +kernel) (iE _) ?_
                refine wP (ls' := [.ref 188, iv i1, iv (M1 188 28).toInt]) (st' := [iv (M1 188 28).toInt, iv (M2 188 28).toInt]) rfl rfl ?_
                refine wP (ls' := [.ref 188, iv i1, iv (M1 188 28).toInt]) (st' := [iv 10, iv (M1 188 28).toInt, iv (M2 188 28).toInt]) rfl rfl ?_
                refine wIfc (n1 := 11) rfl bk_79_11 bk_79_10 (by first | exact iG _ | omega) (by omega) (fun g6 => ?_) (fun g6 => ?_)
                · replace g6 : ¬ ((M1 188 28).toInt : Int) = 10 := g6
                  exact absurd g6 (by omega)
                · replace g6 : ¬ (¬ ((M1 188 28).toInt : Int) = 10) := g6
                  refine wP (ls' := [.ref 188, iv i1, iv (M1 188 28).toInt]) (st' := [iv 1, iv (M2 188 28).toInt]) rfl rfl ?_
                  refine wGoto (n1 := 12) rfl bk_79_12 ?_
                  refine wIfc (n1 := 14) rfl bk_79_14 bk_79_13 (by first | exact iG _ | omega) (by omega) (fun g7 => ?_) (fun g7 => ?_)
                  · replace g7 : ((M2 188 28).toInt : Int) ≤ 1 := g7
                    refine wP (ls' := [.ref 188, iv i1, iv (M1 188 28).toInt]) (st' := [.ref 188]) rfl rfl ?_
                    refine wGetR hk (r := 215) (by decide +kernel) ?_
                    refine wP (ls' := [.ref 188, iv i1, iv (M1 188 28).toInt]) (st' := [iv 96, .ref 215]) rfl rfl ?_
                    refine wP (ls' := [.ref 188, iv i1, iv (M1 188 28).toInt]) (st' := [iv i1, iv 96, .ref 215]) rfl rfl ?_
                    refine wAdd ?_
                    refine wP (ls' := [.ref 188, iv i1, iv (M1 188 28).toInt]) (st' := [.ref 188, iv (96 + i1), .ref 215]) rfl rfl ?_
                    refine wGetN hk (f := 28) (e := (M2 188 28).toInt) (by decide +kernel) (iE _) ?_
                    refine wIst hk (l := 120) (by decide +kernel) (by omega) (by omega) ?_
                    refine wP (ls' := [.ref 188, iv i1, iv (M1 188 28).toInt]) (st' := [.ref 188]) rfl rfl ?_
                    refine wCall hk (q := 65) (na := 0) (a := 188) (as := []) (t := []) rfl (by decide +kernel) (by decide) (by decide +kernel) (Nat.le_of_ble_eq_true rfl) rfl rfl (zRn.mono (h65p hk (gLp_put w2 (a := 215) (j := ((96 + i1)).toNat) (x := Int32.ofInt (M2 188 28).toInt) (by omega) (by omega)).1.1) (fun rv h' hq => ?_))
                    obtain ⟨M3, rfl, rfl, hRc⟩ := hq
                    have w3 := gLp_rd (gLp_put w2 (a := 215) (j := ((96 + i1)).toNat) (x := Int32.ofInt (M2 188 28).toInt) (by omega) (by omega)) hRc
                    have l3 := gSs_rd (gSs_put l2 (a := 215) (j := ((96 + i1)).toNat) (x := Int32.ofInt (M2 188 28).toInt) (by omega)) hRc
                    obtain ⟨-, -, -, -, -, c6⟩ := gRd_s hRc (gLp_put w2 (a := 215) (j := ((96 + i1)).toNat) (x := Int32.ofInt (M2 188 28).toInt) (by omega) (by omega)).1.1
                    rw [aPut_o (by decide)] at c6
                    have c24 : (M3 188 24).toInt = (M2 188 24).toInt := by rw [hRc.2.1 24 (by decide) (by decide) (by decide) (by decide), aPut_o (by decide)]
                    have c14 : M3 214 ((96 + i1)).toNat = Int32.ofInt (M1 188 28).toInt := by rw [hRc.1 214 (by decide), aPut_o (by decide), b14]
                    have c15 : M3 215 ((96 + i1)).toNat = Int32.ofInt (M2 188 28).toInt := by rw [hRc.1 215 (by decide), aPut_e]
                    obtain ⟨y1, y2, y3, y4, -, -, -⟩ := w3.1.2
                    refine ⟨rfl, ?_⟩
                    show zW X _ 79 14 [] [.ref 188, iv i1, iv (M1 188 28).toInt] [] (gH k M3) _
                    refine zW_fall bk_79_15 ?_
                    refine wP (ls' := [.ref 188, iv i1, iv (M1 188 28).toInt]) (st' := [.ref 188]) rfl rfl ?_
                    refine wP (ls' := [.ref 188, iv i1, iv (M1 188 28).toInt]) (st' := [iv 59, .ref 188]) rfl rfl ?_
                    refine wCall hk (q := 68) (na := 1) (a := 188) (as := [iv 59]) (t := []) rfl (by decide +kernel) (by decide) (by decide +kernel) (Nat.le_of_ble_eq_true rfl) rfl rfl (zRn.mono (h68 hk (by omega)) (fun rv h' hq => ?_))
                    obtain ⟨rfl, e20, rfl, r20⟩ := hq
                    have rb20 : 0 ≤ e20 ∧ e20 ≤ 1 := by omega
                    clear r20
                    refine ⟨rfl, ?_⟩
                    show zW X _ 79 15 [.ifCond .ne 17] [.ref 188, iv i1, iv (M1 188 28).toInt] [iv e20] (gH k M3) _
                    refine wIf0 (n1 := 17) rfl bk_79_17 bk_79_16 (by omega) (fun g8 => ?_) (fun g8 => ?_)
                    · replace g8 : ¬ (e20 : Int) = 0 := g8
                      refine wP (ls' := [.ref 188, iv i1, iv (M1 188 28).toInt]) (st' := [.ref 188]) rfl rfl ?_
                      refine wCall hk (q := 65) (na := 0) (a := 188) (as := []) (t := []) rfl (by decide +kernel) (by decide) (by decide +kernel) (Nat.le_of_ble_eq_true rfl) rfl rfl (zRn.mono (h65p hk w3.1.1) (fun rv h' hq => ?_))
                      obtain ⟨M4, rfl, rfl, hRd⟩ := hq
                      refine ⟨rfl, ?_⟩
                      show zW X _ 79 17 [.iload 1, .bipush 1, .iadd, .istore 1, .goto 1] [.ref 188, iv i1, iv (M1 188 28).toInt] [] (gH k M4) _
                      refine wP (ls' := [.ref 188, iv i1, iv (M1 188 28).toInt]) (st' := [iv i1]) rfl rfl ?_
                      refine wP (ls' := [.ref 188, iv i1, iv (M1 188 28).toInt]) (st' := [iv 1, iv i1]) rfl rfl ?_
                      refine wAdd ?_
                      refine wP (ls' := [.ref 188, iv (i1 + 1), iv (M1 188 28).toInt]) (st' := []) rfl rfl ?_
                      refine wGoto (n1 := 1) rfl bk_79_1 ?_
                      exfalso
                      omega
                    · replace g8 : ¬ (¬ (e20 : Int) = 0) := g8
                      refine wP (ls' := [.ref 188, iv i1, iv (M1 188 28).toInt]) (st' := [.ref 188]) rfl rfl ?_
                      refine wP (ls' := [.ref 188, iv i1, iv (M1 188 28).toInt]) (st' := [iv 1, .ref 188]) rfl rfl ?_
                      refine wCall hk (q := 66) (na := 1) (a := 188) (as := [iv 1]) (t := []) rfl (by decide +kernel) (by decide) (by decide +kernel) (Nat.le_of_ble_eq_true rfl) rfl rfl (zRn.mono (h66 hk) (fun rv h' hq => ?_))
                      obtain ⟨rfl, rfl⟩ := hq
                      refine ⟨rfl, ?_⟩
                      show zW X _ 79 16 [.ireturn] [.ref 188, iv i1, iv (M1 188 28).toInt] [iv (-1)] (gH k (gFa M3 1)) _
                      exact wIret (Or.inl (by decide +kernel)) ⟨-1, _, rfl, rfl, gLp_fa w3, Or.inl rfl⟩
                  · replace g7 : ¬ (((M2 188 28).toInt : Int) ≤ 1) := g7
                    refine wP (ls' := [.ref 188, iv i1, iv (M1 188 28).toInt]) (st' := [.ref 188]) rfl rfl ?_
                    refine wP (ls' := [.ref 188, iv i1, iv (M1 188 28).toInt]) (st' := [iv 2, .ref 188]) rfl rfl ?_
                    refine wCall hk (q := 66) (na := 1) (a := 188) (as := [iv 2]) (t := []) rfl (by decide +kernel) (by decide) (by decide +kernel) (Nat.le_of_ble_eq_true rfl) rfl rfl (zRn.mono (h66 hk) (fun rv h' hq => ?_))
                    obtain ⟨rfl, rfl⟩ := hq
                    refine ⟨rfl, ?_⟩
                    show zW X _ 79 13 [.ireturn] [.ref 188, iv i1, iv (M1 188 28).toInt] [iv (-1)] (gH k (gFa M2 2)) _
                    exact wIret (Or.inl (by decide +kernel)) ⟨-1, _, rfl, rfl, gLp_fa w2, Or.inl rfl⟩
              · replace g5 : ¬ (((M2 188 27).toInt : Int) = 3) := g5
                refine wP (ls' := [.ref 188, iv i1, iv (M1 188 28).toInt]) (st' := [.ref 188]) rfl rfl ?_
                refine wP (ls' := [.ref 188, iv i1, iv (M1 188 28).toInt]) (st' := [iv 1, .ref 188]) rfl rfl ?_
                refine wCall hk (q := 66) (na := 1) (a := 188) (as := [iv 1]) (t := []) rfl (by decide +kernel) (by decide) (by decide +kernel) (Nat.le_of_ble_eq_true rfl) rfl rfl (zRn.mono (h66 hk) (fun rv h' hq => ?_))
                obtain ⟨rfl, rfl⟩ := hq
                refine ⟨rfl, ?_⟩
                show zW X _ 79 8 [.ireturn] [.ref 188, iv i1, iv (M1 188 28).toInt] [iv (-1)] (gH k (gFa M2 1)) _
                exact wIret (Or.inl (by decide +kernel)) ⟨-1, _, rfl, rfl, gLp_fa w2, Or.inl rfl⟩
        · replace g2 : ¬ (¬ (i1 : Int) = 24) := g2
          refine wP (ls' := [.ref 188, iv i1, u2]) (st' := [.ref 188]) rfl rfl ?_
          refine wP (ls' := [.ref 188, iv i1, u2]) (st' := [iv 3, .ref 188]) rfl rfl ?_
          refine wCall hk (q := 66) (na := 1) (a := 188) (as := [iv 3]) (t := []) rfl (by decide +kernel) (by decide) (by decide +kernel) (Nat.le_of_ble_eq_true rfl) rfl rfl (zRn.mono (h66 hk) (fun rv h' hq => ?_))
          obtain ⟨rfl, rfl⟩ := hq
          refine ⟨rfl, ?_⟩
          show zW X _ 79 4 [.ireturn] [.ref 188, iv i1, u2] [iv (-1)] (gH k (gFa M1 3)) _
          exact wIret (Or.inl (by decide +kernel)) ⟨-1, _, rfl, rfl, gLp_fa hW, Or.inl rfl⟩
  | succ nn ih =>
    intro n i1 M1 u2 hi hW hL hn hd
    obtain ⟨p1, p2, p3, p4, -⟩ := hW.1.1
    obtain ⟨q1, q2, q3, q4, q5, q6, -⟩ := hW.1.2
    have en : ((96 + i1)).toNat = 96 + n := by omega
    refine wP (ls' := [.ref 188, iv i1, u2]) (st' := [.ref 188]) rfl rfl ?_
    refine wGetN hk (f := 27) (e := (M1 188 27).toInt) (by decide +kernel) (iE _) ?_
    refine wP (ls' := [.ref 188, iv i1, u2]) (st' := [iv 2, iv (M1 188 27).toInt]) rfl rfl ?_
    refine wIfc (n1 := 18) rfl bk_79_18 bk_79_2 (by first | exact iG _ | omega) (by omega) (fun g0 => ?_) (fun g0 => ?_)
    · replace g0 : ¬ ((M1 188 27).toInt : Int) = 2 := g0
      refine wP (ls' := [.ref 188, iv i1, u2]) (st' := [.ref 188]) rfl rfl ?_
      refine wGetN hk (f := 27) (e := (M1 188 27).toInt) (by decide +kernel) (iE _) ?_
      refine wIf0 (n1 := 20) rfl bk_79_20 bk_79_19 (by first | exact iG _ | omega) (fun g1 => ?_) (fun g1 => ?_)
      · replace g1 : ¬ ((M1 188 27).toInt : Int) = 0 := g1
        refine wP (ls' := [.ref 188, iv i1, u2]) (st' := [.ref 188]) rfl rfl ?_
        refine wP (ls' := [.ref 188, iv i1, u2]) (st' := [iv 1, .ref 188]) rfl rfl ?_
        refine wCall hk (q := 66) (na := 1) (a := 188) (as := [iv 1]) (t := []) rfl (by decide +kernel) (by decide) (by decide +kernel) (Nat.le_of_ble_eq_true rfl) rfl rfl (zRn.mono (h66 hk) (fun rv h' hq => ?_))
        obtain ⟨rfl, rfl⟩ := hq
        refine ⟨rfl, ?_⟩
        show zW X _ 79 20 [] [.ref 188, iv i1, u2] [iv (-1)] (gH k (gFa M1 1)) _
        refine zW_fall bk_79_21 ?_
        exact wIret (Or.inl (by decide +kernel)) ⟨-1, _, rfl, rfl, gLp_fa hW, Or.inl rfl⟩
      · replace g1 : ¬ (¬ ((M1 188 27).toInt : Int) = 0) := g1
        refine wP (ls' := [.ref 188, iv i1, u2]) (st' := [iv i1]) rfl rfl ?_
        refine wGoto (n1 := 21) rfl bk_79_21 ?_
        exact wIret (Or.inl (by decide +kernel)) ⟨i1, _, rfl, rfl, hW, Or.inr ⟨n, hi, hn, hL⟩⟩
    · replace g0 : ¬ (¬ ((M1 188 27).toInt : Int) = 2) := g0
      refine wP (ls' := [.ref 188, iv i1, u2]) (st' := [.ref 188]) rfl rfl ?_
      refine wP (ls' := [.ref 188, iv i1, u2]) (st' := [.ref 188, .ref 188]) rfl rfl ?_
      refine wGetN hk (f := 28) (e := (M1 188 28).toInt) (by decide +kernel) (iE _) ?_
      refine wP (ls' := [.ref 188, iv i1, u2]) (st' := [iv 6, iv (M1 188 28).toInt, .ref 188]) rfl rfl ?_
      refine wP (ls' := [.ref 188, iv i1, u2]) (st' := [iv 10, iv 6, iv (M1 188 28).toInt, .ref 188]) rfl rfl ?_
      refine wCall hk (q := 42) (na := 3) (a := 188) (as := [iv (M1 188 28).toInt, iv 6, iv 10]) (t := []) rfl (by decide +kernel) (by decide) (by decide +kernel) (Nat.le_of_ble_eq_true rfl) rfl rfl (zRn.mono (h42 hk (iG _) (by omega) (by omega)) (fun rv h' hq => ?_))
      obtain ⟨rfl, e27, rfl, r27⟩ := hq
      have rb27 : 0 ≤ e27 ∧ e27 ≤ 1 := by omega
      clear r27
      refine ⟨rfl, ?_⟩
      show zW X _ 79 2 [.ifCond .eq 18] [.ref 188, iv i1, u2] [iv e27] (gH k M1) _
      refine wIf0 (n1 := 18) rfl bk_79_18 bk_79_3 (by omega) (fun g1 => ?_) (fun g1 => ?_)
      · replace g1 : (e27 : Int) = 0 := g1
        refine wP (ls' := [.ref 188, iv i1, u2]) (st' := [.ref 188]) rfl rfl ?_
        refine wGetN hk (f := 27) (e := (M1 188 27).toInt) (by decide +kernel) (iE _) ?_
        refine wIf0 (n1 := 20) rfl bk_79_20 bk_79_19 (by first | exact iG _ | omega) (fun g2 => ?_) (fun g2 => ?_)
        · replace g2 : ¬ ((M1 188 27).toInt : Int) = 0 := g2
          refine wP (ls' := [.ref 188, iv i1, u2]) (st' := [.ref 188]) rfl rfl ?_
          refine wP (ls' := [.ref 188, iv i1, u2]) (st' := [iv 1, .ref 188]) rfl rfl ?_
          refine wCall hk (q := 66) (na := 1) (a := 188) (as := [iv 1]) (t := []) rfl (by decide +kernel) (by decide) (by decide +kernel) (Nat.le_of_ble_eq_true rfl) rfl rfl (zRn.mono (h66 hk) (fun rv h' hq => ?_))
          obtain ⟨rfl, rfl⟩ := hq
          refine ⟨rfl, ?_⟩
          show zW X _ 79 20 [] [.ref 188, iv i1, u2] [iv (-1)] (gH k (gFa M1 1)) _
          refine zW_fall bk_79_21 ?_
          exact wIret (Or.inl (by decide +kernel)) ⟨-1, _, rfl, rfl, gLp_fa hW, Or.inl rfl⟩
        · replace g2 : ¬ (¬ ((M1 188 27).toInt : Int) = 0) := g2
          refine wP (ls' := [.ref 188, iv i1, u2]) (st' := [iv i1]) rfl rfl ?_
          refine wGoto (n1 := 21) rfl bk_79_21 ?_
          exact wIret (Or.inl (by decide +kernel)) ⟨i1, _, rfl, rfl, hW, Or.inr ⟨n, hi, hn, hL⟩⟩
      · replace g1 : ¬ ((e27 : Int) = 0) := g1
        refine wP (ls' := [.ref 188, iv i1, u2]) (st' := [iv i1]) rfl rfl ?_
        refine wP (ls' := [.ref 188, iv i1, u2]) (st' := [iv 24, iv i1]) rfl rfl ?_
        refine wIfc (n1 := 5) rfl bk_79_5 bk_79_4 (by omega) (by omega) (fun g2 => ?_) (fun g2 => ?_)
        · replace g2 : ¬ (i1 : Int) = 24 := g2
          refine wP (ls' := [.ref 188, iv i1, u2]) (st' := [.ref 188]) rfl rfl ?_
          refine wGetN hk (f := 28) (e := (M1 188 28).toInt) (by decide +kernel) (iE _) ?_
          refine wP (ls' := [.ref 188, iv i1, iv (M1 188 28).toInt]) (st' := []) rfl rfl ?_
          refine wP (ls' := [.ref 188, iv i1, iv (M1 188 28).toInt]) (st' := [.ref 188]) rfl rfl ?_
          refine wGetR hk (r := 214) (by decide +kernel) ?_
          refine wP (ls' := [.ref 188, iv i1, iv (M1 188 28).toInt]) (st' := [iv 96, .ref 214]) rfl rfl ?_
          refine wP (ls' := [.ref 188, iv i1, iv (M1 188 28).toInt]) (st' := [iv i1, iv 96, .ref 214]) rfl rfl ?_
          refine wAdd ?_
          refine wP (ls' := [.ref 188, iv i1, iv (M1 188 28).toInt]) (st' := [iv (M1 188 28).toInt, iv (96 + i1), .ref 214]) rfl rfl ?_
          refine wIst hk (l := 120) (by decide +kernel) (by omega) (by omega) ?_
          refine wP (ls' := [.ref 188, iv i1, iv (M1 188 28).toInt]) (st' := [.ref 188]) rfl rfl ?_
          refine wGetR hk (r := 215) (by decide +kernel) ?_
          refine wP (ls' := [.ref 188, iv i1, iv (M1 188 28).toInt]) (st' := [iv 96, .ref 215]) rfl rfl ?_
          refine wP (ls' := [.ref 188, iv i1, iv (M1 188 28).toInt]) (st' := [iv i1, iv 96, .ref 215]) rfl rfl ?_
          refine wAdd ?_
          refine wP (ls' := [.ref 188, iv i1, iv (M1 188 28).toInt]) (st' := [iv 0, iv (96 + i1), .ref 215]) rfl rfl ?_
          refine wIst hk (l := 120) (by decide +kernel) (by omega) (by omega) ?_
          refine wP (ls' := [.ref 188, iv i1, iv (M1 188 28).toInt]) (st' := [.ref 188]) rfl rfl ?_
          refine wCall hk (q := 65) (na := 0) (a := 188) (as := []) (t := []) rfl (by decide +kernel) (by decide) (by decide +kernel) (Nat.le_of_ble_eq_true rfl) rfl rfl (zRn.mono (h65p hk (gLp_put (gLp_put hW (a := 214) (j := ((96 + i1)).toNat) (x := Int32.ofInt (M1 188 28).toInt) (by omega) (by omega)) (a := 215) (j := ((96 + i1)).toNat) (x := Int32.ofInt 0) (by omega) (by omega)).1.1) (fun rv h' hq => ?_))
          obtain ⟨M2, rfl, rfl, hRb⟩ := hq
          have w2 := gLp_rd (gLp_put (gLp_put hW (a := 214) (j := ((96 + i1)).toNat) (x := Int32.ofInt (M1 188 28).toInt) (by omega) (by omega)) (a := 215) (j := ((96 + i1)).toNat) (x := Int32.ofInt 0) (by omega) (by omega)) hRb
          have l2 := gSs_rd (gSs_put (gSs_put hL (a := 214) (j := ((96 + i1)).toNat) (x := Int32.ofInt (M1 188 28).toInt) (by omega)) (a := 215) (j := ((96 + i1)).toNat) (x := Int32.ofInt 0) (by omega)) hRb
          obtain ⟨-, -, -, -, -, b6⟩ := gRd_s hRb (gLp_put (gLp_put hW (a := 214) (j := ((96 + i1)).toNat) (x := Int32.ofInt (M1 188 28).toInt) (by omega) (by omega)) (a := 215) (j := ((96 + i1)).toNat) (x := Int32.ofInt 0) (by omega) (by omega)).1.1
          rw [aPut_o (by decide), aPut_o (by decide)] at b6
          have b24 : (M2 188 24).toInt = (M1 188 24).toInt := by rw [hRb.2.1 24 (by decide) (by decide) (by decide) (by decide), aPut_o (by decide), aPut_o (by decide)]
          have b14 : M2 214 ((96 + i1)).toNat = Int32.ofInt (M1 188 28).toInt := by rw [hRb.1 214 (by decide), aPut_o (by decide), aPut_e]
          obtain ⟨x1, x2, x3, x4, -, -, x5⟩ := w2.1.2
          refine ⟨rfl, ?_⟩
          show zW X _ 79 5 [.iload 2, .bipush 7, .if_icmp .eq 7] [.ref 188, iv i1, iv (M1 188 28).toInt] [] (gH k M2) _
          refine wP (ls' := [.ref 188, iv i1, iv (M1 188 28).toInt]) (st' := [iv (M1 188 28).toInt]) rfl rfl ?_
          refine wP (ls' := [.ref 188, iv i1, iv (M1 188 28).toInt]) (st' := [iv 7, iv (M1 188 28).toInt]) rfl rfl ?_
          refine wIfc (n1 := 7) rfl bk_79_7 bk_79_6 (by first | exact iG _ | omega) (by omega) (fun g3 => ?_) (fun g3 => ?_)
          · replace g3 : ((M1 188 28).toInt : Int) = 7 := g3
            refine wP (ls' := [.ref 188, iv i1, iv (M1 188 28).toInt]) (st' := [.ref 188]) rfl rfl ?_
            refine wGetN hk (f := 27) (e := (M2 188 27).toInt) (by decide +kernel) (iE _) ?_
            refine wP (ls' := [.ref 188, iv i1, iv (M1 188 28).toInt]) (st' := [iv 3, iv (M2 188 27).toInt]) rfl rfl ?_
            refine wIfc (n1 := 9) rfl bk_79_9 bk_79_8 (by first | exact iG _ | omega) (by omega) (fun g4 => ?_) (fun g4 => ?_)
            · replace g4 : ((M2 188 27).toInt : Int) = 3 := g4
              refine wP (ls' := [.ref 188, iv i1, iv (M1 188 28).toInt]) (st' := [.ref 188]) rfl rfl ?_
              refine wGetN hk (f := 28) (e := (M2 188 28).toInt) (by decide +kernel) (iE _) ?_
              refine wP (ls' := [.ref 188, iv i1, iv (M1 188 28).toInt]) (st' := [iv (M1 188 28).toInt, iv (M2 188 28).toInt]) rfl rfl ?_
              refine wP (ls' := [.ref 188, iv i1, iv (M1 188 28).toInt]) (st' := [iv 10, iv (M1 188 28).toInt, iv (M2 188 28).toInt]) rfl rfl ?_
              refine wIfc (n1 := 11) rfl bk_79_11 bk_79_10 (by first | exact iG _ | omega) (by omega) (fun g5 => ?_) (fun g5 => ?_)
              · replace g5 : ¬ ((M1 188 28).toInt : Int) = 10 := g5
                refine wP (ls' := [.ref 188, iv i1, iv (M1 188 28).toInt]) (st' := [iv 9, iv (M2 188 28).toInt]) rfl rfl ?_
                refine zW_fall bk_79_12 ?_
                refine wIfc (n1 := 14) rfl bk_79_14 bk_79_13 (by first | exact iG _ | omega) (by omega) (fun g6 => ?_) (fun g6 => ?_)
                · replace g6 : ((M2 188 28).toInt : Int) ≤ 9 := g6
                  refine wP (ls' := [.ref 188, iv i1, iv (M1 188 28).toInt]) (st' := [.ref 188]) rfl rfl ?_
                  refine wGetR hk (r := 215) (by decide +kernel) ?_
                  refine wP (ls' := [.ref 188, iv i1, iv (M1 188 28).toInt]) (st' := [iv 96, .ref 215]) rfl rfl ?_
                  refine wP (ls' := [.ref 188, iv i1, iv (M1 188 28).toInt]) (st' := [iv i1, iv 96, .ref 215]) rfl rfl ?_
                  refine wAdd ?_
                  refine wP (ls' := [.ref 188, iv i1, iv (M1 188 28).toInt]) (st' := [.ref 188, iv (96 + i1), .ref 215]) rfl rfl ?_
                  refine wGetN hk (f := 28) (e := (M2 188 28).toInt) (by decide +kernel) (iE _) ?_
                  refine wIst hk (l := 120) (by decide +kernel) (by omega) (by omega) ?_
                  refine wP (ls' := [.ref 188, iv i1, iv (M1 188 28).toInt]) (st' := [.ref 188]) rfl rfl ?_
                  refine wCall hk (q := 65) (na := 0) (a := 188) (as := []) (t := []) rfl (by decide +kernel) (by decide) (by decide +kernel) (Nat.le_of_ble_eq_true rfl) rfl rfl (zRn.mono (h65p hk (gLp_put w2 (a := 215) (j := ((96 + i1)).toNat) (x := Int32.ofInt (M2 188 28).toInt) (by omega) (by omega)).1.1) (fun rv h' hq => ?_))
                  obtain ⟨M3, rfl, rfl, hRc⟩ := hq
                  have w3 := gLp_rd (gLp_put w2 (a := 215) (j := ((96 + i1)).toNat) (x := Int32.ofInt (M2 188 28).toInt) (by omega) (by omega)) hRc
                  have l3 := gSs_rd (gSs_put l2 (a := 215) (j := ((96 + i1)).toNat) (x := Int32.ofInt (M2 188 28).toInt) (by omega)) hRc
                  obtain ⟨-, -, -, -, -, c6⟩ := gRd_s hRc (gLp_put w2 (a := 215) (j := ((96 + i1)).toNat) (x := Int32.ofInt (M2 188 28).toInt) (by omega) (by omega)).1.1
                  rw [aPut_o (by decide)] at c6
                  have c24 : (M3 188 24).toInt = (M2 188 24).toInt := by rw [hRc.2.1 24 (by decide) (by decide) (by decide) (by decide), aPut_o (by decide)]
                  have c14 : M3 214 ((96 + i1)).toNat = Int32.ofInt (M1 188 28).toInt := by rw [hRc.1 214 (by decide), aPut_o (by decide), b14]
                  have c15 : M3 215 ((96 + i1)).toNat = Int32.ofInt (M2 188 28).toInt := by rw [hRc.1 215 (by decide), aPut_e]
                  obtain ⟨y1, y2, y3, y4, -, -, -⟩ := w3.1.2
                  refine ⟨rfl, ?_⟩
                  show zW X _ 79 14 [] [.ref 188, iv i1, iv (M1 188 28).toInt] [] (gH k M3) _
                  refine zW_fall bk_79_15 ?_
                  refine wP (ls' := [.ref 188, iv i1, iv (M1 188 28).toInt]) (st' := [.ref 188]) rfl rfl ?_
                  refine wP (ls' := [.ref 188, iv i1, iv (M1 188 28).toInt]) (st' := [iv 59, .ref 188]) rfl rfl ?_
                  refine wCall hk (q := 68) (na := 1) (a := 188) (as := [iv 59]) (t := []) rfl (by decide +kernel) (by decide) (by decide +kernel) (Nat.le_of_ble_eq_true rfl) rfl rfl (zRn.mono (h68 hk (by omega)) (fun rv h' hq => ?_))
                  obtain ⟨rfl, e31, rfl, r31⟩ := hq
                  have rb31 : 0 ≤ e31 ∧ e31 ≤ 1 := by omega
                  clear r31
                  refine ⟨rfl, ?_⟩
                  show zW X _ 79 15 [.ifCond .ne 17] [.ref 188, iv i1, iv (M1 188 28).toInt] [iv e31] (gH k M3) _
                  refine wIf0 (n1 := 17) rfl bk_79_17 bk_79_16 (by omega) (fun g7 => ?_) (fun g7 => ?_)
                  · replace g7 : ¬ (e31 : Int) = 0 := g7
                    refine wP (ls' := [.ref 188, iv i1, iv (M1 188 28).toInt]) (st' := [.ref 188]) rfl rfl ?_
                    refine wCall hk (q := 65) (na := 0) (a := 188) (as := []) (t := []) rfl (by decide +kernel) (by decide) (by decide +kernel) (Nat.le_of_ble_eq_true rfl) rfl rfl (zRn.mono (h65p hk w3.1.1) (fun rv h' hq => ?_))
                    obtain ⟨M4, rfl, rfl, hRd⟩ := hq
                    refine ⟨rfl, ?_⟩
                    show zW X _ 79 17 [.iload 1, .bipush 1, .iadd, .istore 1, .goto 1] [.ref 188, iv i1, iv (M1 188 28).toInt] [] (gH k M4) _
                    refine wP (ls' := [.ref 188, iv i1, iv (M1 188 28).toInt]) (st' := [iv i1]) rfl rfl ?_
                    refine wP (ls' := [.ref 188, iv i1, iv (M1 188 28).toInt]) (st' := [iv 1, iv i1]) rfl rfl ?_
                    refine wAdd ?_
                    refine wP (ls' := [.ref 188, iv (i1 + 1), iv (M1 188 28).toInt]) (st' := []) rfl rfl ?_
                    refine wGoto (n1 := 1) rfl bk_79_1 ?_
                    obtain ⟨-, -, -, -, -, d6⟩ := gRd_s hRd w3.1.1
                    skip
                    have d24 : (M4 188 24).toInt = (M3 188 24).toInt := by rw [hRd.2.1 24 (by decide) (by decide) (by decide) (by decide)]
                    have w4 := gLp_rd w3 hRd
                    have l4 := gSs_rd l3 hRd
                    obtain ⟨z1, z2, z3, z4, -, -, -⟩ := w4.1.2
                    have d14 : M4 214 ((96 + i1)).toNat = Int32.ofInt (M1 188 28).toInt := by rw [hRd.1 214 (by decide), c14]
                    have d15 : M4 215 ((96 + i1)).toNat = Int32.ofInt (M2 188 28).toInt := by rw [hRd.1 215 (by decide), c15]
                    rw [en] at d14 d15
                    exact ih (n + 1) (i1 + 1) M4 _ (by omega) w4 (gSs_s l4 (fun z => by
                      rw [d14] at z
                      have z := g10 z
                      rw [d15, Int32.ofInt_toInt]
                      omega)) (by omega) (by omega)
                  · replace g7 : ¬ (¬ (e31 : Int) = 0) := g7
                    refine wP (ls' := [.ref 188, iv i1, iv (M1 188 28).toInt]) (st' := [.ref 188]) rfl rfl ?_
                    refine wP (ls' := [.ref 188, iv i1, iv (M1 188 28).toInt]) (st' := [iv 1, .ref 188]) rfl rfl ?_
                    refine wCall hk (q := 66) (na := 1) (a := 188) (as := [iv 1]) (t := []) rfl (by decide +kernel) (by decide) (by decide +kernel) (Nat.le_of_ble_eq_true rfl) rfl rfl (zRn.mono (h66 hk) (fun rv h' hq => ?_))
                    obtain ⟨rfl, rfl⟩ := hq
                    refine ⟨rfl, ?_⟩
                    show zW X _ 79 16 [.ireturn] [.ref 188, iv i1, iv (M1 188 28).toInt] [iv (-1)] (gH k (gFa M3 1)) _
                    exact wIret (Or.inl (by decide +kernel)) ⟨-1, _, rfl, rfl, gLp_fa w3, Or.inl rfl⟩
                · replace g6 : ¬ (((M2 188 28).toInt : Int) ≤ 9) := g6
                  refine wP (ls' := [.ref 188, iv i1, iv (M1 188 28).toInt]) (st' := [.ref 188]) rfl rfl ?_
                  refine wP (ls' := [.ref 188, iv i1, iv (M1 188 28).toInt]) (st' := [iv 2, .ref 188]) rfl rfl ?_
                  refine wCall hk (q := 66) (na := 1) (a := 188) (as := [iv 2]) (t := []) rfl (by decide +kernel) (by decide) (by decide +kernel) (Nat.le_of_ble_eq_true rfl) rfl rfl (zRn.mono (h66 hk) (fun rv h' hq => ?_))
                  obtain ⟨rfl, rfl⟩ := hq
                  refine ⟨rfl, ?_⟩
                  show zW X _ 79 13 [.ireturn] [.ref 188, iv i1, iv (M1 188 28).toInt] [iv (-1)] (gH k (gFa M2 2)) _
                  exact wIret (Or.inl (by decide +kernel)) ⟨-1, _, rfl, rfl, gLp_fa w2, Or.inl rfl⟩
              · replace g5 : ¬ (¬ ((M1 188 28).toInt : Int) = 10) := g5
                refine wP (ls' := [.ref 188, iv i1, iv (M1 188 28).toInt]) (st' := [iv 1, iv (M2 188 28).toInt]) rfl rfl ?_
                refine wGoto (n1 := 12) rfl bk_79_12 ?_
                refine wIfc (n1 := 14) rfl bk_79_14 bk_79_13 (by first | exact iG _ | omega) (by omega) (fun g6 => ?_) (fun g6 => ?_)
                · replace g6 : ((M2 188 28).toInt : Int) ≤ 1 := g6
                  refine wP (ls' := [.ref 188, iv i1, iv (M1 188 28).toInt]) (st' := [.ref 188]) rfl rfl ?_
                  refine wGetR hk (r := 215) (by decide +kernel) ?_
                  refine wP (ls' := [.ref 188, iv i1, iv (M1 188 28).toInt]) (st' := [iv 96, .ref 215]) rfl rfl ?_
                  refine wP (ls' := [.ref 188, iv i1, iv (M1 188 28).toInt]) (st' := [iv i1, iv 96, .ref 215]) rfl rfl ?_
                  refine wAdd ?_
                  refine wP (ls' := [.ref 188, iv i1, iv (M1 188 28).toInt]) (st' := [.ref 188, iv (96 + i1), .ref 215]) rfl rfl ?_
                  refine wGetN hk (f := 28) (e := (M2 188 28).toInt) (by decide +kernel) (iE _) ?_
                  refine wIst hk (l := 120) (by decide +kernel) (by omega) (by omega) ?_
                  refine wP (ls' := [.ref 188, iv i1, iv (M1 188 28).toInt]) (st' := [.ref 188]) rfl rfl ?_
                  refine wCall hk (q := 65) (na := 0) (a := 188) (as := []) (t := []) rfl (by decide +kernel) (by decide) (by decide +kernel) (Nat.le_of_ble_eq_true rfl) rfl rfl (zRn.mono (h65p hk (gLp_put w2 (a := 215) (j := ((96 + i1)).toNat) (x := Int32.ofInt (M2 188 28).toInt) (by omega) (by omega)).1.1) (fun rv h' hq => ?_))
                  obtain ⟨M3, rfl, rfl, hRc⟩ := hq
                  have w3 := gLp_rd (gLp_put w2 (a := 215) (j := ((96 + i1)).toNat) (x := Int32.ofInt (M2 188 28).toInt) (by omega) (by omega)) hRc
                  have l3 := gSs_rd (gSs_put l2 (a := 215) (j := ((96 + i1)).toNat) (x := Int32.ofInt (M2 188 28).toInt) (by omega)) hRc
                  obtain ⟨-, -, -, -, -, c6⟩ := gRd_s hRc (gLp_put w2 (a := 215) (j := ((96 + i1)).toNat) (x := Int32.ofInt (M2 188 28).toInt) (by omega) (by omega)).1.1
                  rw [aPut_o (by decide)] at c6
                  have c24 : (M3 188 24).toInt = (M2 188 24).toInt := by rw [hRc.2.1 24 (by decide) (by decide) (by decide) (by decide), aPut_o (by decide)]
                  have c14 : M3 214 ((96 + i1)).toNat = Int32.ofInt (M1 188 28).toInt := by rw [hRc.1 214 (by decide), aPut_o (by decide), b14]
                  have c15 : M3 215 ((96 + i1)).toNat = Int32.ofInt (M2 188 28).toInt := by rw [hRc.1 215 (by decide), aPut_e]
                  obtain ⟨y1, y2, y3, y4, -, -, -⟩ := w3.1.2
                  refine ⟨rfl, ?_⟩
                  show zW X _ 79 14 [] [.ref 188, iv i1, iv (M1 188 28).toInt] [] (gH k M3) _
                  refine zW_fall bk_79_15 ?_
                  refine wP (ls' := [.ref 188, iv i1, iv (M1 188 28).toInt]) (st' := [.ref 188]) rfl rfl ?_
                  refine wP (ls' := [.ref 188, iv i1, iv (M1 188 28).toInt]) (st' := [iv 59, .ref 188]) rfl rfl ?_
                  refine wCall hk (q := 68) (na := 1) (a := 188) (as := [iv 59]) (t := []) rfl (by decide +kernel) (by decide) (by decide +kernel) (Nat.le_of_ble_eq_true rfl) rfl rfl (zRn.mono (h68 hk (by omega)) (fun rv h' hq => ?_))
                  obtain ⟨rfl, e36, rfl, r36⟩ := hq
                  have rb36 : 0 ≤ e36 ∧ e36 ≤ 1 := by omega
                  clear r36
                  refine ⟨rfl, ?_⟩
                  show zW X _ 79 15 [.ifCond .ne 17] [.ref 188, iv i1, iv (M1 188 28).toInt] [iv e36] (gH k M3) _
                  refine wIf0 (n1 := 17) rfl bk_79_17 bk_79_16 (by omega) (fun g7 => ?_) (fun g7 => ?_)
                  · replace g7 : ¬ (e36 : Int) = 0 := g7
                    refine wP (ls' := [.ref 188, iv i1, iv (M1 188 28).toInt]) (st' := [.ref 188]) rfl rfl ?_
                    refine wCall hk (q := 65) (na := 0) (a := 188) (as := []) (t := []) rfl (by decide +kernel) (by decide) (by decide +kernel) (Nat.le_of_ble_eq_true rfl) rfl rfl (zRn.mono (h65p hk w3.1.1) (fun rv h' hq => ?_))
                    obtain ⟨M4, rfl, rfl, hRd⟩ := hq
                    refine ⟨rfl, ?_⟩
                    show zW X _ 79 17 [.iload 1, .bipush 1, .iadd, .istore 1, .goto 1] [.ref 188, iv i1, iv (M1 188 28).toInt] [] (gH k M4) _
                    refine wP (ls' := [.ref 188, iv i1, iv (M1 188 28).toInt]) (st' := [iv i1]) rfl rfl ?_
                    refine wP (ls' := [.ref 188, iv i1, iv (M1 188 28).toInt]) (st' := [iv 1, iv i1]) rfl rfl ?_
                    refine wAdd ?_
                    refine wP (ls' := [.ref 188, iv (i1 + 1), iv (M1 188 28).toInt]) (st' := []) rfl rfl ?_
                    refine wGoto (n1 := 1) rfl bk_79_1 ?_
                    obtain ⟨-, -, -, -, -, d6⟩ := gRd_s hRd w3.1.1
                    skip
                    have d24 : (M4 188 24).toInt = (M3 188 24).toInt := by rw [hRd.2.1 24 (by decide) (by decide) (by decide) (by decide)]
                    have w4 := gLp_rd w3 hRd
                    have l4 := gSs_rd l3 hRd
                    obtain ⟨z1, z2, z3, z4, -, -, -⟩ := w4.1.2
                    have d14 : M4 214 ((96 + i1)).toNat = Int32.ofInt (M1 188 28).toInt := by rw [hRd.1 214 (by decide), c14]
                    have d15 : M4 215 ((96 + i1)).toNat = Int32.ofInt (M2 188 28).toInt := by rw [hRd.1 215 (by decide), c15]
                    rw [en] at d14 d15
                    exact ih (n + 1) (i1 + 1) M4 _ (by omega) w4 (gSs_s l4 (fun z => by
                      rw [d14] at z
                      have z := g10 z
                      rw [d15, Int32.ofInt_toInt]
                      omega)) (by omega) (by omega)
                  · replace g7 : ¬ (¬ (e36 : Int) = 0) := g7
                    refine wP (ls' := [.ref 188, iv i1, iv (M1 188 28).toInt]) (st' := [.ref 188]) rfl rfl ?_
                    refine wP (ls' := [.ref 188, iv i1, iv (M1 188 28).toInt]) (st' := [iv 1, .ref 188]) rfl rfl ?_
                    refine wCall hk (q := 66) (na := 1) (a := 188) (as := [iv 1]) (t := []) rfl (by decide +kernel) (by decide) (by decide +kernel) (Nat.le_of_ble_eq_true rfl) rfl rfl (zRn.mono (h66 hk) (fun rv h' hq => ?_))
                    obtain ⟨rfl, rfl⟩ := hq
                    refine ⟨rfl, ?_⟩
                    show zW X _ 79 16 [.ireturn] [.ref 188, iv i1, iv (M1 188 28).toInt] [iv (-1)] (gH k (gFa M3 1)) _
                    exact wIret (Or.inl (by decide +kernel)) ⟨-1, _, rfl, rfl, gLp_fa w3, Or.inl rfl⟩
                · replace g6 : ¬ (((M2 188 28).toInt : Int) ≤ 1) := g6
                  refine wP (ls' := [.ref 188, iv i1, iv (M1 188 28).toInt]) (st' := [.ref 188]) rfl rfl ?_
                  refine wP (ls' := [.ref 188, iv i1, iv (M1 188 28).toInt]) (st' := [iv 2, .ref 188]) rfl rfl ?_
                  refine wCall hk (q := 66) (na := 1) (a := 188) (as := [iv 2]) (t := []) rfl (by decide +kernel) (by decide) (by decide +kernel) (Nat.le_of_ble_eq_true rfl) rfl rfl (zRn.mono (h66 hk) (fun rv h' hq => ?_))
                  obtain ⟨rfl, rfl⟩ := hq
                  refine ⟨rfl, ?_⟩
                  show zW X _ 79 13 [.ireturn] [.ref 188, iv i1, iv (M1 188 28).toInt] [iv (-1)] (gH k (gFa M2 2)) _
                  exact wIret (Or.inl (by decide +kernel)) ⟨-1, _, rfl, rfl, gLp_fa w2, Or.inl rfl⟩
            · replace g4 : ¬ (((M2 188 27).toInt : Int) = 3) := g4
              refine wP (ls' := [.ref 188, iv i1, iv (M1 188 28).toInt]) (st' := [.ref 188]) rfl rfl ?_
              refine wP (ls' := [.ref 188, iv i1, iv (M1 188 28).toInt]) (st' := [iv 1, .ref 188]) rfl rfl ?_
              refine wCall hk (q := 66) (na := 1) (a := 188) (as := [iv 1]) (t := []) rfl (by decide +kernel) (by decide) (by decide +kernel) (Nat.le_of_ble_eq_true rfl) rfl rfl (zRn.mono (h66 hk) (fun rv h' hq => ?_))
              obtain ⟨rfl, rfl⟩ := hq
              refine ⟨rfl, ?_⟩
              show zW X _ 79 8 [.ireturn] [.ref 188, iv i1, iv (M1 188 28).toInt] [iv (-1)] (gH k (gFa M2 1)) _
              exact wIret (Or.inl (by decide +kernel)) ⟨-1, _, rfl, rfl, gLp_fa w2, Or.inl rfl⟩
          · replace g3 : ¬ (((M1 188 28).toInt : Int) = 7) := g3
            refine wP (ls' := [.ref 188, iv i1, iv (M1 188 28).toInt]) (st' := [iv (M1 188 28).toInt]) rfl rfl ?_
            refine wP (ls' := [.ref 188, iv i1, iv (M1 188 28).toInt]) (st' := [iv 10, iv (M1 188 28).toInt]) rfl rfl ?_
            refine wIfc (n1 := 15) rfl bk_79_15 bk_79_7 (by first | exact iG _ | omega) (by omega) (fun g4 => ?_) (fun g4 => ?_)
            · replace g4 : ¬ ((M1 188 28).toInt : Int) = 10 := g4
              refine wP (ls' := [.ref 188, iv i1, iv (M1 188 28).toInt]) (st' := [.ref 188]) rfl rfl ?_
              refine wP (ls' := [.ref 188, iv i1, iv (M1 188 28).toInt]) (st' := [iv 59, .ref 188]) rfl rfl ?_
              refine wCall hk (q := 68) (na := 1) (a := 188) (as := [iv 59]) (t := []) rfl (by decide +kernel) (by decide) (by decide +kernel) (Nat.le_of_ble_eq_true rfl) rfl rfl (zRn.mono (h68 hk (by omega)) (fun rv h' hq => ?_))
              obtain ⟨rfl, e41, rfl, r41⟩ := hq
              have rb41 : 0 ≤ e41 ∧ e41 ≤ 1 := by omega
              clear r41
              refine ⟨rfl, ?_⟩
              show zW X _ 79 15 [.ifCond .ne 17] [.ref 188, iv i1, iv (M1 188 28).toInt] [iv e41] (gH k M2) _
              refine wIf0 (n1 := 17) rfl bk_79_17 bk_79_16 (by omega) (fun g5 => ?_) (fun g5 => ?_)
              · replace g5 : ¬ (e41 : Int) = 0 := g5
                refine wP (ls' := [.ref 188, iv i1, iv (M1 188 28).toInt]) (st' := [.ref 188]) rfl rfl ?_
                refine wCall hk (q := 65) (na := 0) (a := 188) (as := []) (t := []) rfl (by decide +kernel) (by decide) (by decide +kernel) (Nat.le_of_ble_eq_true rfl) rfl rfl (zRn.mono (h65p hk w2.1.1) (fun rv h' hq => ?_))
                obtain ⟨M4, rfl, rfl, hRd⟩ := hq
                refine ⟨rfl, ?_⟩
                show zW X _ 79 17 [.iload 1, .bipush 1, .iadd, .istore 1, .goto 1] [.ref 188, iv i1, iv (M1 188 28).toInt] [] (gH k M4) _
                refine wP (ls' := [.ref 188, iv i1, iv (M1 188 28).toInt]) (st' := [iv i1]) rfl rfl ?_
                refine wP (ls' := [.ref 188, iv i1, iv (M1 188 28).toInt]) (st' := [iv 1, iv i1]) rfl rfl ?_
                refine wAdd ?_
                refine wP (ls' := [.ref 188, iv (i1 + 1), iv (M1 188 28).toInt]) (st' := []) rfl rfl ?_
                refine wGoto (n1 := 1) rfl bk_79_1 ?_
                obtain ⟨-, -, -, -, -, d6⟩ := gRd_s hRd w2.1.1
                skip
                have d24 : (M4 188 24).toInt = (M2 188 24).toInt := by rw [hRd.2.1 24 (by decide) (by decide) (by decide) (by decide)]
                have w4 := gLp_rd w2 hRd
                have l4 := gSs_rd l2 hRd
                obtain ⟨z1, z2, z3, z4, -, -, -⟩ := w4.1.2
                have d14 : M4 214 ((96 + i1)).toNat = Int32.ofInt (M1 188 28).toInt := by rw [hRd.1 214 (by decide), b14]
                rw [en] at d14
                exact ih (n + 1) (i1 + 1) M4 _ (by omega) w4 (gSs_s l4 (fun z => by
                  rw [d14] at z
                  have z := g10 z
                  exfalso
                  omega)) (by omega) (by omega)
              · replace g5 : ¬ (¬ (e41 : Int) = 0) := g5
                refine wP (ls' := [.ref 188, iv i1, iv (M1 188 28).toInt]) (st' := [.ref 188]) rfl rfl ?_
                refine wP (ls' := [.ref 188, iv i1, iv (M1 188 28).toInt]) (st' := [iv 1, .ref 188]) rfl rfl ?_
                refine wCall hk (q := 66) (na := 1) (a := 188) (as := [iv 1]) (t := []) rfl (by decide +kernel) (by decide) (by decide +kernel) (Nat.le_of_ble_eq_true rfl) rfl rfl (zRn.mono (h66 hk) (fun rv h' hq => ?_))
                obtain ⟨rfl, rfl⟩ := hq
                refine ⟨rfl, ?_⟩
                show zW X _ 79 16 [.ireturn] [.ref 188, iv i1, iv (M1 188 28).toInt] [iv (-1)] (gH k (gFa M2 1)) _
                exact wIret (Or.inl (by decide +kernel)) ⟨-1, _, rfl, rfl, gLp_fa w2, Or.inl rfl⟩
            · replace g4 : ¬ (¬ ((M1 188 28).toInt : Int) = 10) := g4
              refine wP (ls' := [.ref 188, iv i1, iv (M1 188 28).toInt]) (st' := [.ref 188]) rfl rfl ?_
              refine wGetN hk (f := 27) (e := (M2 188 27).toInt) (by decide +kernel) (iE _) ?_
              refine wP (ls' := [.ref 188, iv i1, iv (M1 188 28).toInt]) (st' := [iv 3, iv (M2 188 27).toInt]) rfl rfl ?_
              refine wIfc (n1 := 9) rfl bk_79_9 bk_79_8 (by first | exact iG _ | omega) (by omega) (fun g5 => ?_) (fun g5 => ?_)
              · replace g5 : ((M2 188 27).toInt : Int) = 3 := g5
                refine wP (ls' := [.ref 188, iv i1, iv (M1 188 28).toInt]) (st' := [.ref 188]) rfl rfl ?_
                refine wGetN hk (f := 28) (e := (M2 188 28).toInt) (by decide +kernel) (iE _) ?_
                refine wP (ls' := [.ref 188, iv i1, iv (M1 188 28).toInt]) (st' := [iv (M1 188 28).toInt, iv (M2 188 28).toInt]) rfl rfl ?_
                refine wP (ls' := [.ref 188, iv i1, iv (M1 188 28).toInt]) (st' := [iv 10, iv (M1 188 28).toInt, iv (M2 188 28).toInt]) rfl rfl ?_
                refine wIfc (n1 := 11) rfl bk_79_11 bk_79_10 (by first | exact iG _ | omega) (by omega) (fun g6 => ?_) (fun g6 => ?_)
                · replace g6 : ¬ ((M1 188 28).toInt : Int) = 10 := g6
                  exact absurd g6 (by omega)
                · replace g6 : ¬ (¬ ((M1 188 28).toInt : Int) = 10) := g6
                  refine wP (ls' := [.ref 188, iv i1, iv (M1 188 28).toInt]) (st' := [iv 1, iv (M2 188 28).toInt]) rfl rfl ?_
                  refine wGoto (n1 := 12) rfl bk_79_12 ?_
                  refine wIfc (n1 := 14) rfl bk_79_14 bk_79_13 (by first | exact iG _ | omega) (by omega) (fun g7 => ?_) (fun g7 => ?_)
                  · replace g7 : ((M2 188 28).toInt : Int) ≤ 1 := g7
                    refine wP (ls' := [.ref 188, iv i1, iv (M1 188 28).toInt]) (st' := [.ref 188]) rfl rfl ?_
                    refine wGetR hk (r := 215) (by decide +kernel) ?_
                    refine wP (ls' := [.ref 188, iv i1, iv (M1 188 28).toInt]) (st' := [iv 96, .ref 215]) rfl rfl ?_
                    refine wP (ls' := [.ref 188, iv i1, iv (M1 188 28).toInt]) (st' := [iv i1, iv 96, .ref 215]) rfl rfl ?_
                    refine wAdd ?_
                    refine wP (ls' := [.ref 188, iv i1, iv (M1 188 28).toInt]) (st' := [.ref 188, iv (96 + i1), .ref 215]) rfl rfl ?_
                    refine wGetN hk (f := 28) (e := (M2 188 28).toInt) (by decide +kernel) (iE _) ?_
                    refine wIst hk (l := 120) (by decide +kernel) (by omega) (by omega) ?_
                    refine wP (ls' := [.ref 188, iv i1, iv (M1 188 28).toInt]) (st' := [.ref 188]) rfl rfl ?_
                    refine wCall hk (q := 65) (na := 0) (a := 188) (as := []) (t := []) rfl (by decide +kernel) (by decide) (by decide +kernel) (Nat.le_of_ble_eq_true rfl) rfl rfl (zRn.mono (h65p hk (gLp_put w2 (a := 215) (j := ((96 + i1)).toNat) (x := Int32.ofInt (M2 188 28).toInt) (by omega) (by omega)).1.1) (fun rv h' hq => ?_))
                    obtain ⟨M3, rfl, rfl, hRc⟩ := hq
                    have w3 := gLp_rd (gLp_put w2 (a := 215) (j := ((96 + i1)).toNat) (x := Int32.ofInt (M2 188 28).toInt) (by omega) (by omega)) hRc
                    have l3 := gSs_rd (gSs_put l2 (a := 215) (j := ((96 + i1)).toNat) (x := Int32.ofInt (M2 188 28).toInt) (by omega)) hRc
                    obtain ⟨-, -, -, -, -, c6⟩ := gRd_s hRc (gLp_put w2 (a := 215) (j := ((96 + i1)).toNat) (x := Int32.ofInt (M2 188 28).toInt) (by omega) (by omega)).1.1
                    rw [aPut_o (by decide)] at c6
                    have c24 : (M3 188 24).toInt = (M2 188 24).toInt := by rw [hRc.2.1 24 (by decide) (by decide) (by decide) (by decide), aPut_o (by decide)]
                    have c14 : M3 214 ((96 + i1)).toNat = Int32.ofInt (M1 188 28).toInt := by rw [hRc.1 214 (by decide), aPut_o (by decide), b14]
                    have c15 : M3 215 ((96 + i1)).toNat = Int32.ofInt (M2 188 28).toInt := by rw [hRc.1 215 (by decide), aPut_e]
                    obtain ⟨y1, y2, y3, y4, -, -, -⟩ := w3.1.2
                    refine ⟨rfl, ?_⟩
                    show zW X _ 79 14 [] [.ref 188, iv i1, iv (M1 188 28).toInt] [] (gH k M3) _
                    refine zW_fall bk_79_15 ?_
                    refine wP (ls' := [.ref 188, iv i1, iv (M1 188 28).toInt]) (st' := [.ref 188]) rfl rfl ?_
                    refine wP (ls' := [.ref 188, iv i1, iv (M1 188 28).toInt]) (st' := [iv 59, .ref 188]) rfl rfl ?_
                    refine wCall hk (q := 68) (na := 1) (a := 188) (as := [iv 59]) (t := []) rfl (by decide +kernel) (by decide) (by decide +kernel) (Nat.le_of_ble_eq_true rfl) rfl rfl (zRn.mono (h68 hk (by omega)) (fun rv h' hq => ?_))
                    obtain ⟨rfl, e45, rfl, r45⟩ := hq
                    have rb45 : 0 ≤ e45 ∧ e45 ≤ 1 := by omega
                    clear r45
                    refine ⟨rfl, ?_⟩
                    show zW X _ 79 15 [.ifCond .ne 17] [.ref 188, iv i1, iv (M1 188 28).toInt] [iv e45] (gH k M3) _
                    refine wIf0 (n1 := 17) rfl bk_79_17 bk_79_16 (by omega) (fun g8 => ?_) (fun g8 => ?_)
                    · replace g8 : ¬ (e45 : Int) = 0 := g8
                      refine wP (ls' := [.ref 188, iv i1, iv (M1 188 28).toInt]) (st' := [.ref 188]) rfl rfl ?_
                      refine wCall hk (q := 65) (na := 0) (a := 188) (as := []) (t := []) rfl (by decide +kernel) (by decide) (by decide +kernel) (Nat.le_of_ble_eq_true rfl) rfl rfl (zRn.mono (h65p hk w3.1.1) (fun rv h' hq => ?_))
                      obtain ⟨M4, rfl, rfl, hRd⟩ := hq
                      refine ⟨rfl, ?_⟩
                      show zW X _ 79 17 [.iload 1, .bipush 1, .iadd, .istore 1, .goto 1] [.ref 188, iv i1, iv (M1 188 28).toInt] [] (gH k M4) _
                      refine wP (ls' := [.ref 188, iv i1, iv (M1 188 28).toInt]) (st' := [iv i1]) rfl rfl ?_
                      refine wP (ls' := [.ref 188, iv i1, iv (M1 188 28).toInt]) (st' := [iv 1, iv i1]) rfl rfl ?_
                      refine wAdd ?_
                      refine wP (ls' := [.ref 188, iv (i1 + 1), iv (M1 188 28).toInt]) (st' := []) rfl rfl ?_
                      refine wGoto (n1 := 1) rfl bk_79_1 ?_
                      obtain ⟨-, -, -, -, -, d6⟩ := gRd_s hRd w3.1.1
                      skip
                      have d24 : (M4 188 24).toInt = (M3 188 24).toInt := by rw [hRd.2.1 24 (by decide) (by decide) (by decide) (by decide)]
                      have w4 := gLp_rd w3 hRd
                      have l4 := gSs_rd l3 hRd
                      obtain ⟨z1, z2, z3, z4, -, -, -⟩ := w4.1.2
                      have d14 : M4 214 ((96 + i1)).toNat = Int32.ofInt (M1 188 28).toInt := by rw [hRd.1 214 (by decide), c14]
                      have d15 : M4 215 ((96 + i1)).toNat = Int32.ofInt (M2 188 28).toInt := by rw [hRd.1 215 (by decide), c15]
                      rw [en] at d14 d15
                      exact ih (n + 1) (i1 + 1) M4 _ (by omega) w4 (gSs_s l4 (fun z => by
                        rw [d14] at z
                        have z := g10 z
                        rw [d15, Int32.ofInt_toInt]
                        omega)) (by omega) (by omega)
                    · replace g8 : ¬ (¬ (e45 : Int) = 0) := g8
                      refine wP (ls' := [.ref 188, iv i1, iv (M1 188 28).toInt]) (st' := [.ref 188]) rfl rfl ?_
                      refine wP (ls' := [.ref 188, iv i1, iv (M1 188 28).toInt]) (st' := [iv 1, .ref 188]) rfl rfl ?_
                      refine wCall hk (q := 66) (na := 1) (a := 188) (as := [iv 1]) (t := []) rfl (by decide +kernel) (by decide) (by decide +kernel) (Nat.le_of_ble_eq_true rfl) rfl rfl (zRn.mono (h66 hk) (fun rv h' hq => ?_))
                      obtain ⟨rfl, rfl⟩ := hq
                      refine ⟨rfl, ?_⟩
                      show zW X _ 79 16 [.ireturn] [.ref 188, iv i1, iv (M1 188 28).toInt] [iv (-1)] (gH k (gFa M3 1)) _
                      exact wIret (Or.inl (by decide +kernel)) ⟨-1, _, rfl, rfl, gLp_fa w3, Or.inl rfl⟩
                  · replace g7 : ¬ (((M2 188 28).toInt : Int) ≤ 1) := g7
                    refine wP (ls' := [.ref 188, iv i1, iv (M1 188 28).toInt]) (st' := [.ref 188]) rfl rfl ?_
                    refine wP (ls' := [.ref 188, iv i1, iv (M1 188 28).toInt]) (st' := [iv 2, .ref 188]) rfl rfl ?_
                    refine wCall hk (q := 66) (na := 1) (a := 188) (as := [iv 2]) (t := []) rfl (by decide +kernel) (by decide) (by decide +kernel) (Nat.le_of_ble_eq_true rfl) rfl rfl (zRn.mono (h66 hk) (fun rv h' hq => ?_))
                    obtain ⟨rfl, rfl⟩ := hq
                    refine ⟨rfl, ?_⟩
                    show zW X _ 79 13 [.ireturn] [.ref 188, iv i1, iv (M1 188 28).toInt] [iv (-1)] (gH k (gFa M2 2)) _
                    exact wIret (Or.inl (by decide +kernel)) ⟨-1, _, rfl, rfl, gLp_fa w2, Or.inl rfl⟩
              · replace g5 : ¬ (((M2 188 27).toInt : Int) = 3) := g5
                refine wP (ls' := [.ref 188, iv i1, iv (M1 188 28).toInt]) (st' := [.ref 188]) rfl rfl ?_
                refine wP (ls' := [.ref 188, iv i1, iv (M1 188 28).toInt]) (st' := [iv 1, .ref 188]) rfl rfl ?_
                refine wCall hk (q := 66) (na := 1) (a := 188) (as := [iv 1]) (t := []) rfl (by decide +kernel) (by decide) (by decide +kernel) (Nat.le_of_ble_eq_true rfl) rfl rfl (zRn.mono (h66 hk) (fun rv h' hq => ?_))
                obtain ⟨rfl, rfl⟩ := hq
                refine ⟨rfl, ?_⟩
                show zW X _ 79 8 [.ireturn] [.ref 188, iv i1, iv (M1 188 28).toInt] [iv (-1)] (gH k (gFa M2 1)) _
                exact wIret (Or.inl (by decide +kernel)) ⟨-1, _, rfl, rfl, gLp_fa w2, Or.inl rfl⟩
        · replace g2 : ¬ (¬ (i1 : Int) = 24) := g2
          refine wP (ls' := [.ref 188, iv i1, u2]) (st' := [.ref 188]) rfl rfl ?_
          refine wP (ls' := [.ref 188, iv i1, u2]) (st' := [iv 3, .ref 188]) rfl rfl ?_
          refine wCall hk (q := 66) (na := 1) (a := 188) (as := [iv 3]) (t := []) rfl (by decide +kernel) (by decide) (by decide +kernel) (Nat.le_of_ble_eq_true rfl) rfl rfl (zRn.mono (h66 hk) (fun rv h' hq => ?_))
          obtain ⟨rfl, rfl⟩ := hq
          refine ⟨rfl, ?_⟩
          show zW X _ 79 4 [.ireturn] [.ref 188, iv i1, u2] [iv (-1)] (gH k (gFa M1 3)) _
          exact wIret (Or.inl (by decide +kernel)) ⟨-1, _, rfl, rfl, gLp_fa hW, Or.inl rfl⟩
theorem h79 {X : aX} {d : Nat} {k : Nat → aK} (hk : gKs k) {M0 : Nat → Nat → Int32} (hT : gTs M0) : zRn X (d + 1 + 1 + 1 + 1 + 1) 79 [.ref 188] (gH k M0) (fun rv h' => ∃ e M', rv = some (iv e) ∧ h' = gH k M' ∧ gLp M0 M' ∧ (e = -1 ∨ ∃ n : Nat, e = n ∧ n ≤ 24 ∧ gSs n M')) := by
  refine wEnt (n := 3) (ls := [.ref 188, aD, aD]) bk_79_0 (by decide +kernel) rfl rfl rfl ?_
  refine wP (ls' := [.ref 188, aD, aD]) (st' := [iv 0]) rfl rfl ?_
  refine wP (ls' := [.ref 188, iv 0, aD]) (st' := []) rfl rfl ?_
  refine zW_fall bk_79_1 ?_
  exact h79_l hk ((M0 188 24).toInt - (M0 188 26).toInt).toNat 0 0 M0 _ rfl ⟨hT, ⟨fun _ _ _ _ => rfl, fun _ _ => ⟨rfl, rfl⟩, fun _ _ _ _ _ _ _ => rfl⟩⟩ (fun l hl => absurd hl (by omega)) (by omega) (by omega)
