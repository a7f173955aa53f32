/-! tells of the reference, by hand: printed by wip/safe/h85.py -/
theorem bk_85_0 : (aMC 85)[0]? = some [.bipush 16, .aload 0, .getfield 124612016, .imul, .istore 2] := by decide +kernel
theorem bk_85_1 : (aMC 85)[1]? = some [.iload 2, .bipush 16, .aload 0, .getfield 124612016, .imul, .aload 0, .getfield 127212122, .aload 0, .getfield 124612016, .iaload, .iadd, .if_icmp .ge 8] := by decide +kernel
theorem bk_85_2 : (aMC 85)[2]? = some [.aload 0, .getfield 127312126, .iload 2, .iaload, .iload 1, .if_icmp .ne 7] := by decide +kernel
theorem bk_85_3 : (aMC 85)[3]? = some [.aload 0, .getfield 127612138, .iload 2, .iaload, .aload 0, .getfield 127512134, .iload 2, .iaload, .if_icmp .le 6] := by decide +kernel
theorem bk_85_4 : (aMC 85)[4]? = some [.aload 0, .aload 0, .getfield 124612016, .aload 0, .getfield 127512134, .iload 2, .iaload, .aload 0, .getfield 127612138, .iload 2, .iaload, .invokevirtual 1670084, .ifCond .ne 6] := by decide +kernel
theorem bk_85_5 : (aMC 85)[5]? = some [.goto 7] := by decide +kernel
theorem bk_85_6 : (aMC 85)[6]? = some [.aload 0, .bipush 1, .putfield 129312205, .aload 0, .aload 0, .getfield 124612016, .aload 0, .getfield 127412130, .iload 2, .iaload, .aload 0, .getfield 127512134, .iload 2, .iaload, .invokevirtual 1670084, .ireturn] := by decide +kernel
theorem bk_85_7 : (aMC 85)[7]? = some [.iinc 2 1, .goto 1] := by decide +kernel
theorem bk_85_8 : (aMC 85)[8]? = some [.aload 0, .bipush 0, .putfield 129312205, .bipush 0, .ireturn] := by decide +kernel
theorem h85_loop {X : aX} {d : Nat} {k : Nat → aK} (hk : gKs k) {M : Nat → Nat → Int32} {wd : Int} (hw : -2147483648 ≤ wd ∧ wd ≤ 2147483647) {f n : Nat} (hf : (M 188 4).toInt = f) (hf3 : f < 4) (hn : (M 204 f).toInt = n) (hR : gRows (M 204) (M 206) (M 207) (M 208) (M 210) (M 211)) :
    ∀ (m l : Nat) (i2 : Int) (M1 : Nat → Nat → Int32), l + m = n → i2 = 16 * f + l → (∀ a, a ≠ 217 → M1 a = M a) →
    zW X (d + 1 + 1) 85 1 [.iload 2, .bipush 16, .aload 0, .getfield 124612016, .imul, .aload 0, .getfield 127212122, .aload 0, .getfield 124612016, .iaload, .iadd, .if_icmp .ge 8] [.ref 188, iv wd, iv i2] [] (gH k M1) (fun rv h' => ∃ e M', rv = some (iv e) ∧ h' = gH k M' ∧ (∀ a, a ≠ 217 → a ≠ 188 → M' a = M a) ∧ (∀ f, f ≠ 51 → M' 188 f = M 188 f) ∧ ((M' 188 51).toInt = 0 ∨ (M' 188 51).toInt = 1)) := by
  intro m
  induction m with
  | zero =>
    intro l i2 M1 hlm h2 hM
    have e4 : (M1 188 4).toInt = f := by rw [hM 188 (by decide), hf]
    have en : (M1 204 ((M1 188 4).toInt).toNat).toInt = n := by rw [e4, hM 204 (by decide), show ((f : Int)).toNat = f from rfl, hn]
    have hn16 : n ≤ 16 := by
      by_cases q : n = 0
      · omega
      · have := (hR f (n - 1) hf3 (by omega)).1
        omega
    refine wP (ls' := [.ref 188, iv wd, iv i2]) (st' := [iv i2]) rfl rfl ?_
    refine wP (ls' := [.ref 188, iv wd, iv i2]) (st' := [iv 16, iv i2]) rfl rfl ?_
    refine wP (ls' := [.ref 188, iv wd, iv i2]) (st' := [.ref 188, iv 16, iv i2]) rfl rfl ?_
    refine wGetN hk (f := 4) (e := (M1 188 4).toInt) (by decide +kernel) (iE _) ?_
    refine wMul ?_
    refine wP (ls' := [.ref 188, iv wd, iv i2]) (st' := [.ref 188, iv (16 * (M1 188 4).toInt), iv i2]) rfl rfl ?_
    refine wGetR hk (r := 204) (by decide +kernel) ?_
    refine wP (ls' := [.ref 188, iv wd, iv i2]) (st' := [.ref 188, .ref 204, iv (16 * (M1 188 4).toInt), iv i2]) rfl rfl ?_
    refine wGetN hk (f := 4) (e := (M1 188 4).toInt) (by decide +kernel) (iE _) ?_
    refine wIld hk (l := 5) (e := (M1 204 ((M1 188 4).toInt).toNat).toInt) (by decide +kernel) (by omega) (by omega) (iE _) ?_
    refine wAdd ?_
    refine wIfc (n1 := 8) rfl bk_85_8 bk_85_2 (by omega) (by first | exact iG _ | omega) (fun g0 => ?_) (fun g0 => ?_)
    · replace g0 : ((16 * (M1 188 4).toInt) + (M1 204 ((M1 188 4).toInt).toNat).toInt) ≤ i2 := g0
      refine wP (ls' := [.ref 188, iv wd, iv i2]) (st' := [.ref 188]) rfl rfl ?_
      refine wP (ls' := [.ref 188, iv wd, iv i2]) (st' := [iv 0, .ref 188]) rfl rfl ?_
      refine wPutN hk (f := 51) (by decide +kernel) (Or.inr ⟨rfl, by omega⟩) ?_
      refine wP (ls' := [.ref 188, iv wd, iv i2]) (st' := [iv 0]) rfl rfl ?_
      exact wIret (Or.inl (by decide +kernel)) ⟨0, _, rfl, rfl, fun a a1 a2 => by rw [aPut_r a2]; exact hM a a1, fun f hf => by rw [aPut_f hf, hM 188 (by decide)], by rw [aPut_e]; exact Or.inl rfl⟩
    · replace g0 : ¬ (((16 * (M1 188 4).toInt) + (M1 204 ((M1 188 4).toInt).toNat).toInt) ≤ i2) := g0
      exact absurd g0 (by omega)
  | succ m ih =>
    intro l i2 M1 hlm h2 hM
    have e4 : (M1 188 4).toInt = f := by rw [hM 188 (by decide), hf]
    have en : (M1 204 ((M1 188 4).toInt).toNat).toInt = n := by rw [e4, hM 204 (by decide), show ((f : Int)).toNat = f from rfl, hn]
    obtain ⟨r0, r1, r2, r3, r4, r5, r6⟩ := hR f l hf3 (by omega)
    have hn16 : n ≤ 16 := by
      have := (hR f (n - 1) hf3 (by omega)).1
      omega
    have e2 : 16 * f + l = (i2).toNat := by omega
    rw [e2] at r1 r2 r3 r4 r5 r6
    rw [← hM 206 (by decide)] at r1 r2 r5
    rw [← hM 207 (by decide)] at r2 r3 r5 r6
    rw [← hM 208 (by decide)] at r3 r4 r6
    rw [← hM 210 (by decide), ← hM 211 (by decide)] at r5 r6
    have hc1 : gCode (M1 210) (M1 211) (500 * (M1 188 4).toInt + (M1 206 (i2).toNat).toInt).toNat (500 * (M1 188 4).toInt + (M1 207 (i2).toNat).toInt).toNat := by
      rw [show (500 * (M1 188 4).toInt + (M1 206 (i2).toNat).toInt).toNat = 500 * f + (M1 206 (i2).toNat).toInt.toNat by omega, show (500 * (M1 188 4).toInt + (M1 207 (i2).toNat).toInt).toNat = 500 * f + (M1 207 (i2).toNat).toInt.toNat by omega]
      exact r5
    have hc2 : (M1 207 (i2).toNat).toInt < (M1 208 (i2).toNat).toInt → gCode (M1 210) (M1 211) (500 * (M1 188 4).toInt + (M1 207 (i2).toNat).toInt).toNat (500 * (M1 188 4).toInt + (M1 208 (i2).toNat).toInt).toNat := by
      intro z
      rw [show (500 * (M1 188 4).toInt + (M1 207 (i2).toNat).toInt).toNat = 500 * f + (M1 207 (i2).toNat).toInt.toNat by omega, show (500 * (M1 188 4).toInt + (M1 208 (i2).toNat).toInt).toNat = 500 * f + (M1 208 (i2).toNat).toInt.toNat by omega]
      exact r6 z
    refine wP (ls' := [.ref 188, iv wd, iv i2]) (st' := [iv i2]) rfl rfl ?_
    refine wP (ls' := [.ref 188, iv wd, iv i2]) (st' := [iv 16, iv i2]) rfl rfl ?_
    refine wP (ls' := [.ref 188, iv wd, iv i2]) (st' := [.ref 188, iv 16, iv i2]) rfl rfl ?_
    refine wGetN hk (f := 4) (e := (M1 188 4).toInt) (by decide +kernel) (iE _) ?_
    refine wMul ?_
    refine wP (ls' := [.ref 188, iv wd, iv i2]) (st' := [.ref 188, iv (16 * (M1 188 4).toInt), iv i2]) rfl rfl ?_
    refine wGetR hk (r := 204) (by decide +kernel) ?_
    refine wP (ls' := [.ref 188, iv wd, iv i2]) (st' := [.ref 188, .ref 204, iv (16 * (M1 188 4).toInt), iv i2]) rfl rfl ?_
    refine wGetN hk (f := 4) (e := (M1 188 4).toInt) (by decide +kernel) (iE _) ?_
    refine wIld hk (l := 5) (e := (M1 204 ((M1 188 4).toInt).toNat).toInt) (by decide +kernel) (by omega) (by omega) (iE _) ?_
    refine wAdd ?_
    refine wIfc (n1 := 8) rfl bk_85_8 bk_85_2 (by omega) (by first | exact iG _ | omega) (fun g0 => ?_) (fun g0 => ?_)
    · replace g0 : ((16 * (M1 188 4).toInt) + (M1 204 ((M1 188 4).toInt).toNat).toInt) ≤ i2 := g0
      exact absurd g0 (by omega)
    · replace g0 : ¬ (((16 * (M1 188 4).toInt) + (M1 204 ((M1 188 4).toInt).toNat).toInt) ≤ i2) := g0
      refine wP (ls' := [.ref 188, iv wd, iv i2]) (st' := [.ref 188]) rfl rfl ?_
      refine wGetR hk (r := 205) (by decide +kernel) ?_
      refine wP (ls' := [.ref 188, iv wd, iv i2]) (st' := [iv i2, .ref 205]) rfl rfl ?_
      refine wIld hk (l := 80) (e := (M1 205 (i2).toNat).toInt) (by decide +kernel) (by omega) (by omega) (iE _) ?_
      refine wP (ls' := [.ref 188, iv wd, iv i2]) (st' := [iv wd, iv (M1 205 (i2).toNat).toInt]) rfl rfl ?_
      refine wIfc (n1 := 7) rfl bk_85_7 bk_85_3 (by first | exact iG _ | omega) (by omega) (fun g1 => ?_) (fun g1 => ?_)
      · replace g1 : ¬ (M1 205 (i2).toNat).toInt = wd := g1
        refine wInc (ls' := [.ref 188, iv wd, iv (i2 + 1)]) rfl rfl ?_
        refine wGoto (n1 := 1) rfl bk_85_1 ?_
        exact ih (l + 1) (i2 + 1) M1 (by omega) (by omega) hM
      · replace g1 : ¬ (¬ (M1 205 (i2).toNat).toInt = wd) := g1
        refine wP (ls' := [.ref 188, iv wd, iv i2]) (st' := [.ref 188]) rfl rfl ?_
        refine wGetR hk (r := 208) (by decide +kernel) ?_
        refine wP (ls' := [.ref 188, iv wd, iv i2]) (st' := [iv i2, .ref 208]) rfl rfl ?_
        refine wIld hk (l := 80) (e := (M1 208 (i2).toNat).toInt) (by decide +kernel) (by omega) (by omega) (iE _) ?_
        refine wP (ls' := [.ref 188, iv wd, iv i2]) (st' := [.ref 188, iv (M1 208 (i2).toNat).toInt]) rfl rfl ?_
        refine wGetR hk (r := 207) (by decide +kernel) ?_
        refine wP (ls' := [.ref 188, iv wd, iv i2]) (st' := [iv i2, .ref 207, iv (M1 208 (i2).toNat).toInt]) rfl rfl ?_
        refine wIld hk (l := 80) (e := (M1 207 (i2).toNat).toInt) (by decide +kernel) (by omega) (by omega) (iE _) ?_
        refine wIfc (n1 := 6) rfl bk_85_6 bk_85_4 (by first | exact iG _ | omega) (by first | exact iG _ | omega) (fun g2 => ?_) (fun g2 => ?_)
        · replace g2 : (M1 208 (i2).toNat).toInt ≤ (M1 207 (i2).toNat).toInt := g2
          refine wP (ls' := [.ref 188, iv wd, iv i2]) (st' := [.ref 188]) rfl rfl ?_
          refine wP (ls' := [.ref 188, iv wd, iv i2]) (st' := [iv 1, .ref 188]) rfl rfl ?_
          refine wPutN hk (f := 51) (by decide +kernel) (Or.inr ⟨rfl, by omega⟩) ?_
          refine wP (ls' := [.ref 188, iv wd, iv i2]) (st' := [.ref 188]) rfl rfl ?_
          refine wP (ls' := [.ref 188, iv wd, iv i2]) (st' := [.ref 188, .ref 188]) rfl rfl ?_
          refine wGetN hk (f := 4) (e := (M1 188 4).toInt) (by decide +kernel) (by rw [aPut_f (by decide)]; exact iE _) ?_
          refine wP (ls' := [.ref 188, iv wd, iv i2]) (st' := [.ref 188, iv (M1 188 4).toInt, .ref 188]) rfl rfl ?_
          refine wGetR hk (r := 206) (by decide +kernel) ?_
          refine wP (ls' := [.ref 188, iv wd, iv i2]) (st' := [iv i2, .ref 206, iv (M1 188 4).toInt, .ref 188]) rfl rfl ?_
          refine wIld hk (l := 80) (e := (M1 206 (i2).toNat).toInt) (by decide +kernel) (by omega) (by omega) (by rw [aPut_o (by decide)]; exact iE _) ?_
          refine wP (ls' := [.ref 188, iv wd, iv i2]) (st' := [.ref 188, iv (M1 206 (i2).toNat).toInt, iv (M1 188 4).toInt, .ref 188]) rfl rfl ?_
          refine wGetR hk (r := 207) (by decide +kernel) ?_
          refine wP (ls' := [.ref 188, iv wd, iv i2]) (st' := [iv i2, .ref 207, iv (M1 206 (i2).toNat).toInt, iv (M1 188 4).toInt, .ref 188]) rfl rfl ?_
          refine wIld hk (l := 80) (e := (M1 207 (i2).toNat).toInt) (by decide +kernel) (by omega) (by omega) (by rw [aPut_o (by decide)]; exact iE _) ?_
          refine wCall hk (q := 84) (na := 3) (a := 188) (as := [iv (M1 188 4).toInt, iv (M1 206 (i2).toNat).toInt, iv (M1 207 (i2).toNat).toInt]) (t := []) rfl (by decide +kernel) (by decide) (by decide +kernel) (Nat.le_of_ble_eq_true rfl) rfl rfl (zRn.mono (h84 hk (by omega) (by omega) (by omega) (by omega) (by rw [aPut_r (by decide), aPut_r (by decide)]; exact hc1)) (fun rv h' hq => ?_))
          obtain ⟨e9, M3, rfl, re9, rfl, hM3⟩ := hq
          refine ⟨rfl, ?_⟩
          show zW X _ 85 6 [.ireturn] [.ref 188, iv wd, iv i2] [iv e9] (gH k M3) _
          exact wIret (Or.inl (by decide +kernel)) ⟨_, _, rfl, rfl, fun a a1 a2 => by rw [hM3 a a1, aPut_r a2]; exact hM a a1, fun f hf => by rw [hM3 188 (by decide), aPut_f hf, hM 188 (by decide)], by rw [hM3 188 (by decide), aPut_e]; exact Or.inr rfl⟩
        · replace g2 : ¬ ((M1 208 (i2).toNat).toInt ≤ (M1 207 (i2).toNat).toInt) := g2
          refine wP (ls' := [.ref 188, iv wd, iv i2]) (st' := [.ref 188]) rfl rfl ?_
          refine wP (ls' := [.ref 188, iv wd, iv i2]) (st' := [.ref 188, .ref 188]) rfl rfl ?_
          refine wGetN hk (f := 4) (e := (M1 188 4).toInt) (by decide +kernel) (iE _) ?_
          refine wP (ls' := [.ref 188, iv wd, iv i2]) (st' := [.ref 188, iv (M1 188 4).toInt, .ref 188]) rfl rfl ?_
          refine wGetR hk (r := 207) (by decide +kernel) ?_
          refine wP (ls' := [.ref 188, iv wd, iv i2]) (st' := [iv i2, .ref 207, iv (M1 188 4).toInt, .ref 188]) rfl rfl ?_
          refine wIld hk (l := 80) (e := (M1 207 (i2).toNat).toInt) (by decide +kernel) (by omega) (by omega) (iE _) ?_
          refine wP (ls' := [.ref 188, iv wd, iv i2]) (st' := [.ref 188, iv (M1 207 (i2).toNat).toInt, iv (M1 188 4).toInt, .ref 188]) rfl rfl ?_
          refine wGetR hk (r := 208) (by decide +kernel) ?_
          refine wP (ls' := [.ref 188, iv wd, iv i2]) (st' := [iv i2, .ref 208, iv (M1 207 (i2).toNat).toInt, iv (M1 188 4).toInt, .ref 188]) rfl rfl ?_
          refine wIld hk (l := 80) (e := (M1 208 (i2).toNat).toInt) (by decide +kernel) (by omega) (by omega) (iE _) ?_
          refine wCall hk (q := 84) (na := 3) (a := 188) (as := [iv (M1 188 4).toInt, iv (M1 207 (i2).toNat).toInt, iv (M1 208 (i2).toNat).toInt]) (t := []) rfl (by decide +kernel) (by decide) (by decide +kernel) (Nat.le_of_ble_eq_true rfl) rfl rfl (zRn.mono (h84 hk (by omega) (by omega) (by omega) (by omega) (hc2 (by omega))) (fun rv h' hq => ?_))
          obtain ⟨e, M2, rfl, re, rfl, hM2⟩ := hq
          have hN : ∀ a, a ≠ 217 → M2 a = M a := fun a ha => (hM2 a ha).trans (hM a ha)
          have n207 : M2 207 (i2).toNat = M1 207 (i2).toNat := by rw [hM2 207 (by decide)]
          have n206 : M2 206 (i2).toNat = M1 206 (i2).toNat := by rw [hM2 206 (by decide)]
          have n4 : M2 188 4 = M1 188 4 := by rw [hM2 188 (by decide)]
          have n210 : M2 210 = M1 210 := hM2 210 (by decide)
          have n211 : M2 211 = M1 211 := hM2 211 (by decide)
          refine ⟨rfl, ?_⟩
          show zW X _ 85 4 [.ifCond .ne 6] [.ref 188, iv wd, iv i2] [iv e] (gH k M2) _
          refine wIf0 (n1 := 6) rfl bk_85_6 bk_85_5 (by omega) (fun g3 => ?_) (fun g3 => ?_)
          · replace g3 : ¬ e = 0 := g3
            refine wP (ls' := [.ref 188, iv wd, iv i2]) (st' := [.ref 188]) rfl rfl ?_
            refine wP (ls' := [.ref 188, iv wd, iv i2]) (st' := [iv 1, .ref 188]) rfl rfl ?_
            refine wPutN hk (f := 51) (by decide +kernel) (Or.inr ⟨rfl, by omega⟩) ?_
            refine wP (ls' := [.ref 188, iv wd, iv i2]) (st' := [.ref 188]) rfl rfl ?_
            refine wP (ls' := [.ref 188, iv wd, iv i2]) (st' := [.ref 188, .ref 188]) rfl rfl ?_
            refine wGetN hk (f := 4) (e := (M2 188 4).toInt) (by decide +kernel) (by rw [aPut_f (by decide)]; exact iE _) ?_
            refine wP (ls' := [.ref 188, iv wd, iv i2]) (st' := [.ref 188, iv (M2 188 4).toInt, .ref 188]) rfl rfl ?_
            refine wGetR hk (r := 206) (by decide +kernel) ?_
            refine wP (ls' := [.ref 188, iv wd, iv i2]) (st' := [iv i2, .ref 206, iv (M2 188 4).toInt, .ref 188]) rfl rfl ?_
            refine wIld hk (l := 80) (e := (M2 206 (i2).toNat).toInt) (by decide +kernel) (by omega) (by omega) (by rw [aPut_o (by decide)]; exact iE _) ?_
            refine wP (ls' := [.ref 188, iv wd, iv i2]) (st' := [.ref 188, iv (M2 206 (i2).toNat).toInt, iv (M2 188 4).toInt, .ref 188]) rfl rfl ?_
            refine wGetR hk (r := 207) (by decide +kernel) ?_
            refine wP (ls' := [.ref 188, iv wd, iv i2]) (st' := [iv i2, .ref 207, iv (M2 206 (i2).toNat).toInt, iv (M2 188 4).toInt, .ref 188]) rfl rfl ?_
            refine wIld hk (l := 80) (e := (M2 207 (i2).toNat).toInt) (by decide +kernel) (by omega) (by omega) (by rw [aPut_o (by decide)]; exact iE _) ?_
            refine wCall hk (q := 84) (na := 3) (a := 188) (as := [iv (M2 188 4).toInt, iv (M2 206 (i2).toNat).toInt, iv (M2 207 (i2).toNat).toInt]) (t := []) rfl (by decide +kernel) (by decide) (by decide +kernel) (Nat.le_of_ble_eq_true rfl) rfl rfl (zRn.mono (h84 hk (by rw [n4]; omega) (by rw [n206]; omega) (by rw [n206, n207]; omega) (by rw [n207]; omega) (by rw [aPut_r (by decide), aPut_r (by decide)]; rw [n4, n206, n207, n210, n211]; exact hc1)) (fun rv h' hq => ?_))
            obtain ⟨e9, M3, rfl, re9, rfl, hM3⟩ := hq
            refine ⟨rfl, ?_⟩
            show zW X _ 85 6 [.ireturn] [.ref 188, iv wd, iv i2] [iv e9] (gH k M3) _
            exact wIret (Or.inl (by decide +kernel)) ⟨_, _, rfl, rfl, fun a a1 a2 => by rw [hM3 a a1, aPut_r a2]; exact hN a a1, fun f hf => by rw [hM3 188 (by decide), aPut_f hf, hN 188 (by decide)], by rw [hM3 188 (by decide), aPut_e]; exact Or.inr rfl⟩
          · replace g3 : ¬ (¬ e = 0) := g3
            refine wGoto (n1 := 7) rfl bk_85_7 ?_
            refine wInc (ls' := [.ref 188, iv wd, iv (i2 + 1)]) rfl rfl ?_
            refine wGoto (n1 := 1) rfl bk_85_1 ?_
            exact ih (l + 1) (i2 + 1) M2 (by omega) (by omega) hN
theorem h85 {X : aX} {d : Nat} {k : Nat → aK} (hk : gKs k) {M : Nat → Nat → Int32} {wd : Int} (hw : -2147483648 ≤ wd ∧ wd ≤ 2147483647) {f n : Nat} (hf : (M 188 4).toInt = f) (hf3 : f < 4) (hn : (M 204 f).toInt = n) (hR : gRows (M 204) (M 206) (M 207) (M 208) (M 210) (M 211)) :
    zRn X (d + 1 + 1 + 1) 85 [.ref 188, iv wd] (gH k M) (fun rv h' => ∃ e M', rv = some (iv e) ∧ h' = gH k M' ∧ (∀ a, a ≠ 217 → a ≠ 188 → M' a = M a) ∧ (∀ f, f ≠ 51 → M' 188 f = M 188 f) ∧ ((M' 188 51).toInt = 0 ∨ (M' 188 51).toInt = 1)) := by
  refine wEnt (n := 3) (ls := [.ref 188, iv wd, aD]) bk_85_0 (by decide +kernel) rfl rfl rfl ?_
  refine wP (ls' := [.ref 188, iv wd, aD]) (st' := [iv 16]) rfl rfl ?_
  refine wP (ls' := [.ref 188, iv wd, aD]) (st' := [.ref 188, iv 16]) rfl rfl ?_
  refine wGetN hk (f := 4) (e := (M 188 4).toInt) (by decide +kernel) (iE _) ?_
  refine wMul ?_
  refine wP (ls' := [.ref 188, iv wd, iv (16 * (M 188 4).toInt)]) (st' := []) rfl rfl ?_
  refine zW_fall bk_85_1 ?_
  exact h85_loop hk hw hf hf3 hn hR n 0 (16 * (M 188 4).toInt) M (by omega) (by omega) (fun _ _ => rfl)
theorem gh_85_0_ok {X : aX} : zCk X (gP []) gG 85 gh_85_0 := by
  intro d ρ as h hd hb hargs hents hK hI hG
  obtain ⟨u0, q0, rfl, g0, hargs⟩ := zGl_cons hargs
  obtain ⟨u1, q1, rfl, g1, hargs⟩ := zGl_cons hargs
  obtain rfl := zGl_nil hargs
  obtain rfl := gRefx g0 (Or.inl (by decide))
  obtain ⟨rfl, hx⟩ := gIntx g1
  obtain ⟨dd, rfl⟩ : ∃ dd, d = dd + 1 + 1 + 1 := ⟨d - 3, by have hd : 5 ≤ d := hd; omega⟩
  have bw : -2147483648 ≤ ρ 0 ∧ ρ 0 ≤ 2147483647 := hb 0 _ rfl
  have b4 : (0 : Int) ≤ (h.2.2.2 188 4).toInt ∧ (h.2.2.2 188 4).toInt ≤ 3 := gBf hG hI (by decide) (by decide) (by decide +kernel) (by decide +kernel)
  obtain ⟨f, hf⟩ : ∃ f : Nat, (h.2.2.2 188 4).toInt = f := ⟨(h.2.2.2 188 4).toInt.toNat, by omega⟩
  have b204 : (0 : Int) ≤ (h.2.2.2 204 f).toInt ∧ (h.2.2.2 204 f).toInt ≤ 16 := gBa hG hI (by decide) (Or.inl (by decide +kernel)) (l := 5) (by decide +kernel) (by omega) (by decide +kernel)
  obtain ⟨n, hn⟩ : ∃ n : Nat, (h.2.2.2 204 f).toInt = n := ⟨(h.2.2.2 204 f).toInt.toNat, by omega⟩
  have base := h85 (X := X) (d := dd) (gKs_of hG.1) (M := h.2.2.2) bw hf (by omega) hn hG.2.2.1
  rw [← gH_of hG.1] at base
  refine base.mono (fun rv h' hq => ?_)
  obtain ⟨e, M', rfl, rfl, m1, m2, m3⟩ := hq
  have hR : gRm M' := gRm_eq (fun j _ => by rw [m1 203 (by decide) (by decide)]) (fun k _ => by rw [m1 204 (by decide) (by decide)]) (fun l _ => by rw [m1 206 (by decide) (by decide), m1 207 (by decide) (by decide), m1 208 (by decide) (by decide)]; exact ⟨rfl, rfl, rfl⟩) (fun i _ => by rw [m1 210 (by decide) (by decide), m1 211 (by decide) (by decide)]; exact ⟨rfl, rfl⟩)
    (fun i _ => by rw [m1 214 (by decide) (by decide), m1 215 (by decide) (by decide)]; exact ⟨rfl, rfl⟩) (fun i _ => by rw [m1 229 (by decide) (by decide)]) hG.2
  obtain ⟨d1, d2, d3⟩ := gDone (md := gh_85_0.2.2.2.2.2.2) hG hI hR (fun a i => by
    by_cases q : a = 217
    · subst q
      exact Or.inr ⟨217 * 128 + 127, Or.inr ⟨gAr hG (by decide) (Or.inl (by decide +kernel)), rfl⟩, by decide +kernel, iG _⟩
    · by_cases q2 : a = 188
      · subst q2
        by_cases q3 : i = 51
        · subst q3
          exact Or.inr ⟨188 * 128 + 51, Or.inl ⟨gFl hG (by decide) (by decide +kernel), rfl⟩, by decide +kernel, by rw [show gF (188 * 128 + 51) = (0, 1) from by decide +kernel]; omega⟩
        · exact Or.inl (m2 i q3)
      · exact Or.inl (by rw [m1 a q q2]))
  have e1 : h.1 = 230 := hG.1.1
  have e2 : h.2.1 = 108808 := hG.1.2.1
  rw [e1, e2] at d1 d2
  exact ⟨⟨_, List.mem_singleton.mpr rfl, ρ, fun _ _ => rfl, fun i b h => (by cases h), fun e he => (by cases he), ⟨zGi (zAny_s _), trivial⟩, fun e he => (by cases he)⟩, d1, d2, e1.symm, e2.symm, rfl, d3⟩
