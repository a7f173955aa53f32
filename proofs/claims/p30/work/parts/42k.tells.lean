/-! tells of the reference, by hand: printed by wip/safe/h85.py -/
theorem bk_85_0 : (aMC 85)[0]? = some [.bipush 16, .aload 0, .getfield 124612016, .imul, .istore 2] := by decide +kernel
theorem bk_85_1 : (aMC 85)[1]? = some [.iload 2, .bipush 16, .aload 0, .getfield 124612016, .imul, .aload 0, .getfield 127212122, .aload 0, .getfield 124612016, .iaload, .iadd, .if_icmp .ge 8] := by decide +kernel
theorem bk_85_2 : (aMC 85)[2]? = some [.aload 0, .getfield 127312126, .iload 2, .iaload, .iload 1, .if_icmp .ne 7] := by decide +kernel
theorem bk_85_3 : (aMC 85)[3]? = some [.aload 0, .getfield 127612138, .iload 2, .iaload, .aload 0, .getfield 127512134, .iload 2, .iaload, .if_icmp .le 6] := by decide +kernel
theorem bk_85_4 : (aMC 85)[4]? = some [.aload 0, .aload 0, .getfield 124612016, .aload 0, .getfield 127512134, .iload 2, .iaload, .aload 0, .getfield 127612138, .iload 2, .iaload, .invokevirtual 1670084, .ifCond .ne 6] := by decide +kernel
theorem bk_85_5 : (aMC 85)[5]? = some [.goto 7] := by decide +kernel
theorem bk_85_6 : (aMC 85)[6]? = some [.aload 0, .bipush 1, .putfield 129312205, .aload 0, .aload 0, .getfield 124612016, .aload 0, .getfield 127412130, .iload 2, .iaload, .aload 0, .getfield 127512134, .iload 2, .iaload, .invokevirtual 1670084, .ireturn] := by decide +kernel
theorem bk_85_7 : (aMC 85)[7]? = some [.iinc 2 1, .goto 1] := by decide +kernel
theorem bk_85_8 : (aMC 85)[8]? = some [.aload 0, .bipush 0, .putfield 129312205, .bipush 0, .ireturn] := by decide +kernel
theorem h85_loop {X : aX} {d : Nat} {k : Nat → aK} (hk : gKs k) {M : Nat → Nat → Int32} {wd : Int} (hw : -2147483648 ≤ wd ∧ wd ≤ 2147483647) {f n : Nat} (hf : (M 188 4).toInt = f) (hf3 : f < 4) (hn : (M 204 f).toInt = n) (hR : gRows (M 204) (M 206) (M 207) (M 208) (M 210) (M 211)) :
    ∀ (m l : Nat) (i2 : Int) (M1 : Nat → Nat → Int32), l + m = n → i2 = 16 * f + l → (∀ a, a ≠ 217 → M1 a = M a) →
    zW X (d + 1 + 1) 85 1 [.iload 2, .bipush 16, .aload 0, .getfield 124612016, .imul, .aload 0, .getfield 127212122, .aload 0, .getfield 124612016, .iaload, .iadd, .if_icmp .ge 8] [.ref 188, iv wd, iv i2] [] (gH k M1) (fun rv h' => ∃ e M', rv = some (iv e) ∧ h' = gH k M' ∧ (∀ a, a ≠ 217 → a ≠ 188 → M' a = M a) ∧ (∀ f, f ≠ 51 → M' 188 f = M 188 f) ∧ ((M' 188 51).toInt = 0 ∨ (M' 188 51).toInt = 1)) := by
  intro m
  induction m with
  | zero =>
    intro l i2 M1 hlm h2 hM
    have e4 : (M1 188 4).toInt = f := by rw [hM 188 (by decide), hf]
    have en : (M1 204 ((M1 188 4).toInt).toNat).toInt = n := by rw [e4, hM 204 (by decide), show ((f : Int)).toNat = f from rfl, hn]
    have hn16 : n ≤ 16 := by
      by_cases q : n = 0
      · omega
      · have := (hR f (n - 1) hf3 (by omega)).1
        omega
    refine wP (ls' := [.ref 188, iv wd, iv i2]) (st' := [iv i2]) rfl rfl ?_
    refine wP (ls' := [.ref 188, iv wd, iv i2]) (st' := [iv 16, iv i2]) rfl rfl ?_
    refine wP (ls' := [.ref 188, iv wd, iv i2]) (st' := [.ref 188, iv 16, iv i2]) rfl rfl ?_
    refine wGetN hk (f := 4) (e := (M1 188 4).toInt) (by decide +kernel) (iE _) ?_
    refine wMul ?_
    refine wP (ls' := [.ref 188, iv wd, iv i2]) (st' := [.ref 188, iv (16 * (M1 188 4).toInt), iv i2]) rfl rfl ?_
    refine wGetR hk (r := 204) (by decide +kernel) ?_
    refine wP (ls' := [.ref 188, iv wd, iv i2]) (st' := [.ref 188, .ref 204, iv (16 * (M1 188 4).toInt), iv i2]) rfl rfl ?_
    refine wGetN hk (f := 4) (e := (M1 188 4).toInt) (by decide +kernel) (iE _) ?_
    refine wIld hk (l := 5) (e := (M1 204 ((M1 188 4).toInt).toNat).toInt) (by decide +kernel) (by omega) (by omega) (iE _) ?_
    refine wAdd ?_
    refine wIfc (n1 := 8) rfl bk_85_8 bk_85_2 (by omega) (by first | exact iG _ | omega) (fun g0 => ?_) (fun g0 => ?_)
    · replace g0 : ((16 * (M1 188 4).toInt) + (M1 204 ((M1 188 4).toInt).toNat).toInt) ≤ i2 := g0
      refine wP (ls' := [.ref 188, iv wd, iv i2]) (st' := [.ref 188]) rfl rfl ?_
      refine wP (ls' := [.ref 188, iv wd, iv i2]) (st' := [iv 0, .ref 188]) rfl rfl ?_
      refine wPutN hk (f := 51) (by decide +kernel) (Or.inr ⟨rfl, by omega⟩) ?_
      refine wP (ls' := [.ref 188, iv wd, iv i2]) (st' := [iv 0]) rfl rfl ?_
      exact wIret (Or.inl (by decide +kernel)) ⟨0, _, rfl, rfl, fun a a1 a2 => by rw [aPut_r a2]; exact hM a a1, fun f hf => by rw [aPut_f hf, hM 188 (by decide)], by rw [aPut_e]; exact Or.inl rfl⟩
    · replace g0 : ¬ (((16 * (M1 188 4).toInt) + (M1 204 ((M1 188 4).toInt).toNat).toInt) ≤ i2) := g0
      exact absurd g0 (by omega)
  | succ m ih =>
    intro l i2 M1 hlm h2 hM
    have e4 : (M1 188 4).toInt = f := by rw [hM 188 (by decide), hf]
    have en : (M1 204 ((M1 188 4).toInt).toNat).toInt = n := by rw [e4, hM 204 (by decide), show ((f : Int)).toNat = f from rfl, hn]
    obtain ⟨r0, r1, r2, r3, r4, r5, r6⟩ := hR f l hf3 (by omega)
    have hn16 : n ≤ 16 := by
      have := (hR f (n - 1) hf3 (by omega)).1
      omega
    have e2 : 16 * f + l = (i2).toNat := by omega
    rw [e2] at r1 r2 r3 r4 r5 r6
    rw [← hM 206 (by decide)] at r1 r2 r5
    rw [← hM 207 (by decide)] at r2 r3 r5 r6
    rw [← hM 208 (by decide)] at r3 r4 r6
    rw [← hM 210 (by decide), ← hM 211 (by decide)] at r5 r6
    have hc1 : gCode (M1 210) (M1 211) (500 * (M1 188 4).toInt + (M1 206 (i2).toNat).toInt).toNat (500 * (M1 188 4).toInt + (M1 207 (i2).toNat).toInt).toNat := by
      rw [show (500 * (M1 188 4).toInt + (M1 206 (i2).toNat).toInt).toNat = 500 * f + (M1 206 (i2).toNat).toInt.toNat by omega, show (500 * (M1 188 4).toInt + (M1 207 (i2).toNat).toInt).toNat = 500 * f + (M1 207 (i2).toNat).toInt.toNat by omega]
      exact r5
    have hc2 : (M1 207 (i2).toNat).toInt < (M1 208 (i2).toNat).toInt → gCode (M1 210) (M1 211) (500 * (M1 188 4).toInt + (M1 207 (i2).toNat).toInt).toNat (500 * (M1 188 4).toInt + (M1 208 (i2).toNat).toInt).toNat := by
      intro z
      rw [show (500 * (M1 188 4).toInt + (M1 207 (i2).toNat).toInt).toNat = 500 * f + (M1 207 (i2).toNat).toInt.toNat by omega, show (500 * (M1 188 4).toInt + (M1 208 (i2).toNat).toInt).toNat = 500 * f + (M1 208 (i2).toNat).toInt.toNat by omega]
      exact r6 z
    refine wP (ls' := [.ref 188, iv wd, iv i2]) (st' := [iv i2]) rfl rfl ?_
    refine wP (ls' := [.ref 188, iv wd, iv i2]) (st' := [iv 16, iv i2]) rfl rfl ?_
    refine wP (ls' := [.ref 188, iv wd, iv i2]) (st' := [.ref 188, iv 16, iv i2]) rfl rfl ?_
    refine wGetN hk (f := 4) (e := (M1 188 4).toInt) (by decide +kernel) (iE _) ?_
    refine wMul ?_
    refine wP (ls' := [.ref 188, iv wd, iv i2]) (st' := [.ref 188, iv (16 * (M1 188 4).toInt), iv i2]) rfl rfl ?_
    refine wGetR hk (r := 204) (by decide +kernel) ?_
    refine wP (ls' := [.ref 188, iv wd, iv i2]) (st' := [.ref 188, .ref 204, iv (16 * (M1 188 4).toInt), iv i2]) rfl rfl ?_
    refine wGetN hk (f := 4) (e := (M1 188 4).toInt) (by decide +kernel) (iE _) ?_
    refine wIld hk (l := 5) (e := (M1 204 ((M1 188 4).toInt).toNat).toInt) (by decide +kernel) (by omega) (by omega) (iE _) ?_
    refine wAdd ?_
    refine wIfc (n1 := 8) rfl bk_85_8 bk_85_2 (by omega) (by first | exact iG _ | omega) (fun g0 => ?_) (fun g0 => ?_)
    · replace g0 : ((16 * (M1 188 4).toInt) + (M1 204 ((M1 188 4).toInt).toNat).toInt) ≤ i2 := g0
      exact absurd g0 (by omega)
    · replace g0 : ¬ (((16 * (M1 188 4).toInt) + (M1 204 ((M1 188 4).toInt).toNat).toInt) ≤ i2) := g0
      refine wP (ls' := [.ref 188, iv wd, iv i2]) (st' := [.ref 188]) rfl rfl ?_
      refine wGetR hk (r := 205) (by decide +kernel) ?_
      refine wP (ls' := [.ref 188, iv wd, iv i2]) (st' := [iv i2, .ref 205]) rfl rfl ?_
      refine wIld hk (l := 80) (e := (M1 205 (i2).toNat).toInt) (by decide +kernel) (by omega) (by omega) (iE _) ?_
      refine wP (ls' := [.ref 188, iv wd, iv i2]) (st' := [iv wd, iv (M1 205 (i2).toNat).toInt]) rfl rfl ?_
      refine wIfc (n1 := 7) rfl bk_85_7 bk_85_3 (by first | exact iG _ | omega) (by omega) (fun g1 => ?_) (fun g1 => ?_)
      · replace g1 : ¬ (M1 205 (i2).toNat).toInt = wd := g1
        refine wInc (ls' := [.ref 188, iv wd, iv (i2 + 1)]) rfl rfl ?_
        refine wGoto (n1 := 1) rfl bk_85_1 ?_
        exact ih (l + 1) (i2 + 1) M1 (by omega) (by omega) hM
      · replace g1 : ¬ (¬ (M1 205 (i2).toNat).toInt = wd) := g1
        refine wP (ls' := [.ref 188, iv wd, iv i2]) (st' := [.ref 188]) rfl rfl ?_
        refine wGetR hk (r := 208) (by decide +kernel) ?_
        refine wP (ls' := [.ref 188, iv wd, iv i2]) (st' := [iv i2, .ref 208]) rfl rfl ?_
        refine wIld hk (l := 80) (e := (M1 208 (i2).toNat).toInt) (by decide +kernel) (by omega) (by omega) (iE _) ?_
        refine wP (ls' := [.ref 188, iv wd, iv i2]) (st' := [.ref 188, iv (M1 208 (i2).toNat).toInt]) rfl rfl ?_
        refine wGetR hk (r := 207) (by decide +kernel) ?_
        refine wP (ls' := [.ref 188, iv wd, iv i2]) (st' := [iv i2, .ref 207, iv (M1 208 (i2).toNat).toInt]) rfl rfl ?_
        refine wIld hk (l := 80) (e := (M1 207 (i2).toNat).toInt) (by decide +kernel) (by omega) (by omega) (iE _) ?_
        refine wIfc (n1 := 6) rfl bk_85_6 bk_85_4 (by first | exact iG _ | omega) (by first | exact iG _ | omega) (fun g2 => ?_) (fun g2 => ?_)
        · replace g2 : (M1 208 (i2).toNat).toInt ≤ (M1 207 (i2).toNat).toInt := g2
          refine wP (ls' := [.ref 188, iv wd, iv i2]) (st' := [.ref 188]) rfl rfl ?_
          refine wP (ls' := [.ref 188, iv wd, iv i2]) (st' := [iv 1, .ref 188]) rfl rfl ?_
          refine wPutN hk (f := 51) (by decide +kernel) (Or.inr ⟨rfl, by omega⟩) ?_
          refine wP (ls' := [.ref 188, iv wd, iv i2]) (st' := [.ref 188]) rfl rfl ?_
          refine wP (ls' := [.ref 188, iv wd, iv i2]) (st' := [.ref 188, .ref 188]) rfl rfl ?_
          refine wGetN hk (f := 4) (e := (M1 188 4).toInt) (by decide +kernel) (by rw [aPut_f (by decide)]; exact iE _) ?_
          refine wP (ls' := [.ref 188, iv wd, iv i2]) (st' := [.ref 188, iv (M1 188 4).toInt, .ref 188]) rfl rfl ?_
          refine wGetR hk (r := 206) (by decide +kernel) ?_
          refine wP (ls' := [.ref 188, iv wd, iv i2]) (st' := [iv i2, .ref 206, iv (M1 188 4).toInt, .ref 188]) rfl rfl ?_
          refine wIld hk (l := 80) (e := (M1 206 (i2).toNat).toInt) (by decide +kernel) (by omega) (by omega) (by rw [aPut_o (by decide)]; exact iE _) ?_
          refine wP (ls' := [.ref 188, iv wd, iv i2]) (st' := [.ref 188, iv (M1 206 (i2).toNat).toInt, iv (M1 188 4).toInt, .ref 188]) rfl rfl ?_
          refine wGetR hk (r := 207) (by decide +kernel) ?_
          refine wP (ls' := [.ref 188, iv wd, iv i2]) (st' := [iv i2, .ref 207, iv (M1 206 (i2).toNat).toInt, iv (M1 188 4).toInt, .ref 188]) rfl rfl ?_
          refine wIld hk (l := 80) (e := (M1 207 (i2).toNat).toInt) (by decide +kernel) (by omega) (by omega) (by rw [aPut_o (by decide)]; exact iE _) ?_
          refine wCall hk (q := 84) (na := 3) (a := 188) (as := [iv (M1 188 4).toInt, iv (M1 206 (i2).toNat).toInt, iv (M1 207 (i2).toNat).toInt]) (t := []) rfl (by decide +kernel) (by decide) (by decide +kernel) (Nat.le_of_ble_eq_true rfl) rfl rfl (zRn.mono (h84 hk (by omega) (by omega) (by omega) (by omega) (by rw [aPut_r (by decide), aPut_r (by decide)]; exact hc1)) (fun rv h' hq => ?_))
          obtain ⟨e9, M3, rfl, re9, rfl, hM3⟩ := hq
          refine ⟨rfl, ?_⟩
          show zW X _ 85 6 [.ireturn] [.ref 188, iv wd, iv i2] [iv e9] (gH k M3) _
          exact wIret (Or.inl (by decide +kernel)) ⟨_, _, rfl, rfl, fun a a1 a2 => by rw [hM3 a a1, aPut_r a2]; exact hM a a1, fun f hf => by rw [hM3 188 (by decide), aPut_f hf, hM 188 (by decide)], by rw [hM3 188 (by decide), aPut_e]; exact Or.inr rfl⟩
        · replace g2 : ¬ ((M1 208 (i2).toNat).toInt ≤ (M1 207 (i2).toNat).toInt) := g2
          refine wP (ls' := [.ref 188, iv wd, iv i2]) (st' := [.ref 188]) rfl rfl ?_
          refine wP (ls' := [.ref 188, iv wd, iv i2]) (st' := [.ref 188, .ref 188]) rfl rfl ?_
          refine wGetN hk (f := 4) (e := (M1 188 4).toInt) (by decide +kernel) (iE _) ?_
          refine wP (ls' := [.ref 188, iv wd, iv i2]) (st' := [.ref 188, iv (M1 188 4).toInt, .ref 188]) rfl rfl ?_
          refine wGetR hk (r := 207) (by decide +kernel) ?_
          refine wP (ls' := [.ref 188, iv wd, iv i2]) (st' := [iv i2, .ref 207, iv (M1 188 4).toInt, .ref 188]) rfl rfl ?_
          refine wIld hk (l := 80) (e := (M1 207 (i2).toNat).toInt) (by decide +kernel) (by omega) (by omega) (iE _) ?_
          refine wP (ls' := [.ref 188, iv wd, iv i2]) (st' := [.ref 188, iv (M1 207 (i2).toNat).toInt, iv (M1 188 4).toInt, .ref 188]) rfl rfl ?_
          refine wGetR hk (r := 208) (by decide +kernel) ?_
          refine wP (ls' := [.ref 188, iv wd, iv i2]) (st' := [iv i2, .ref 208, iv (M1 207 (i2).toNat).toInt, iv (M1 188 4).toInt, .ref 188]) rfl rfl ?_
          refine wIld hk (l := 80) (e := (M1 208 (i2).toNat).toInt) (by decide +kernel) (by omega) (by omega) (iE _) ?_
          refine wCall hk (q := 84) (na := 3) (a := 188) (as := [iv (M1 188 4).toInt, iv (M1 207 (i2).toNat).toInt, iv (M1 208 (i2).toNat).toInt]) (t := []) rfl (by decide +kernel) (by decide) (by decide +kernel) (Nat.le_of_ble_eq_true rfl) rfl rfl (zRn.mono (h84 hk (by omega) (by omega) (by omega) (by omega) (hc2 (by omega))) (fun rv h' hq => ?_))
          obtain ⟨e, M2, rfl, re, rfl, hM2⟩ := hq
          have hN : ∀ a, a ≠ 217 → M2 a = M a := fun a ha => (hM2 a ha).trans (hM a ha)
          have n207 : M2 207 (i2).toNat = M1 207 (i2).toNat := by rw [hM2 207 (by decide)]
          have n206 : M2 206 (i2).toNat = M1 206 (i2).toNat := by rw [hM2 206 (by decide)]
          have n4 : M2 188 4 = M1 188 4 := by rw [hM2 188 (by decide)]
          have n210 : M2 210 = M1 210 := hM2 210 (by decide)
          have n211 : M2 211 = M1 211 := hM2 211 (by decide)
          refine ⟨rfl, ?_⟩
          show zW X _ 85 4 [.ifCond .ne 6] [.ref 188, iv wd, iv i2] [iv e] (gH k M2) _
          refine wIf0 (n1 := 6) rfl bk_85_6 bk_85_5 (by omega) (fun g3 => ?_) (fun g3 => ?_)
          · replace g3 : ¬ e = 0 := g3
            refine wP (ls' := [.ref 188, iv wd, iv i2]) (st' := [.ref 188]) rfl rfl ?_
            refine wP (ls' := [.ref 188, iv wd, iv i2]) (st' := [iv 1, .ref 188]) rfl rfl ?_
            refine wPutN hk (f := 51) (by decide +kernel) (Or.inr ⟨rfl, by omega⟩) ?_
            refine wP (ls' := [.ref 188, iv wd, iv i2]) (st' := [.ref 188]) rfl rfl ?_
            refine wP (ls' := [.ref 188, iv wd, iv i2]) (st' := [.ref 188, .ref 188]) rfl rfl ?_
            refine wGetN hk (f := 4) (e := (M2 188 4).toInt) (by decide +kernel) (by rw [aPut_f (by decide)]; exact iE _) ?_
            refine wP (ls' := [.ref 188, iv wd, iv i2]) (st' := [.ref 188, iv (M2 188 4).toInt, .ref 188]) rfl rfl ?_
            refine wGetR hk (r := 206) (by decide +kernel) ?_
            refine wP (ls' := [.ref 188, iv wd, iv i2]) (st' := [iv i2, .ref 206, iv (M2 188 4).toInt, .ref 188]) rfl rfl ?_
            refine wIld hk (l := 80) (e := (M2 206 (i2).toNat).toInt) (by decide +kernel) (by omega) (by omega) (by rw [aPut_o (by decide)]; exact iE _) ?_
            refine wP (ls' := [.ref 188, iv wd, iv i2]) (st' := [.ref 188, iv (M2 206 (i2).toNat).toInt, iv (M2 188 4).toInt, .ref 188]) rfl rfl ?_
            refine wGetR hk (r := 207) (by decide +kernel) ?_
            refine wP (ls' := [.ref 188, iv wd, iv i2]) (st' := [iv i2, .ref 207, iv (M2 206 (i2).toNat).toInt, iv (M2 188 4).toInt, .ref 188]) rfl rfl ?_
            refine wIld hk (l := 80) (e := (M2 207 (i2).toNat).toInt) (by decide +kernel) (by omega) (by omega) (by rw [aPut_o (by decide)]; exact iE _) ?_
            refine wCall hk (q := 84) (na := 3) (a := 188) (as := [iv (M2 188 4).toInt, iv (M2 206 (i2).toNat).toInt, iv (M2 207 (i2).toNat).toInt]) (t := []) rfl (by decide +kernel) (by decide) (by decide +kernel) (Nat.le_of_ble_eq_true rfl) rfl rfl (zRn.mono (h84 hk (by rw [n4]; omega) (by rw [n206]; omega) (by rw [n206, n207]; omega) (by rw [n207]; omega) (by rw [aPut_r (by decide), aPut_r (by decide)]; rw [n4, n206, n207, n210, n211]; exact hc1)) (fun rv h' hq => ?_))
            obtain ⟨e9, M3, rfl, re9, rfl, hM3⟩ := hq
            refine ⟨rfl, ?_⟩
            show zW X _ 85 6 [.ireturn] [.ref 188, iv wd, iv i2] [iv e9] (gH k M3) _
            exact wIret (Or.inl (by decide +kernel)) ⟨_, _, rfl, rfl, fun a a1 a2 => by rw [hM3 a a1, aPut_r a2]; exact hN a a1, fun f hf => by rw [hM3 188 (by decide), aPut_f hf, hN 188 (by decide)], by rw [hM3 188 (by decide), aPut_e]; exact Or.inr rfl⟩
          · replace g3 : ¬ (¬ e = 0) := g3
            refine wGoto (n1 := 7) rfl bk_85_7 ?_
            refine wInc (ls' := [.ref 188, iv wd, iv (i2 + 1)]) rfl rfl ?_
            refine wGoto (n1 := 1) rfl bk_85_1 ?_
            exact ih (l + 1) (i2 + 1) M2 (by omega) (by omega) hN
theorem h85 {X : aX} {d : Nat} {k : Nat → aK} (hk : gKs k) {M : Nat → Nat → Int32} {wd : Int} (hw : -2147483648 ≤ wd ∧ wd ≤ 2147483647) {f n : Nat} (hf : (M 188 4).toInt = f) (hf3 : f < 4) (hn : (M 204 f).toInt = n) (hR : gRows (M 204) (M 206) (M 207) (M 208) (M 210) (M 211)) :
    zRn X (d + 1 + 1 + 1) 85 [.ref 188, iv wd] (gH k M) (fun rv h' => ∃ e M', rv = some (iv e) ∧ h' = gH k M' ∧ (∀ a, a ≠ 217 → a ≠ 188 → M' a = M a) ∧ (∀ f, f ≠ 51 → M' 188 f = M 188 f) ∧ ((M' 188 51).toInt = 0 ∨ (M' 188 51).toInt = 1)) := by
  refine wEnt (n := 3) (ls := [.ref 188, iv wd, aD]) bk_85_0 (by decide +kernel) rfl rfl rfl ?_
  refine wP (ls' := [.ref 188, iv wd, aD]) (st' := [iv 16]) rfl rfl ?_
  refine wP (ls' := [.ref 188, iv wd, aD]) (st' := [.ref 188, iv 16]) rfl rfl ?_
  refine wGetN hk (f := 4) (e := (M 188 4).toInt) (by decide +kernel) (iE _) ?_
  refine wMul ?_
  refine wP (ls' := [.ref 188, iv wd, iv (16 * (M 188 4).toInt)]) (st' := []) rfl rfl ?_
  refine zW_fall bk_85_1 ?_
  exact h85_loop hk hw hf hf3 hn hR n 0 (16 * (M 188 4).toInt) M (by omega) (by omega) (fun _ _ => rfl)
theorem gh_85_0_ok {X : aX} : zCk X (gP []) gG 85 gh_85_0 := by
  intro d ρ as h hd hb hargs hents hK hI hG
  obtain ⟨u0, q0, rfl, g0, hargs⟩ := zGl_cons hargs
  obtain ⟨u1, q1, rfl, g1, hargs⟩ := zGl_cons hargs
  obtain rfl := zGl_nil hargs
  obtain rfl := gRefx g0 (Or.inl (by decide))
  obtain ⟨rfl, hx⟩ := gIntx g1
  obtain ⟨dd, rfl⟩ : ∃ dd, d = dd + 1 + 1 + 1 := ⟨d - 3, by have hd : 5 ≤ d := hd; omega⟩
  have bw : -2147483648 ≤ ρ 0 ∧ ρ 0 ≤ 2147483647 := hb 0 _ rfl
  have b4 : (0 : Int) ≤ (h.2.2.2 188 4).toInt ∧ (h.2.2.2 188 4).toInt ≤ 3 := gBf hG hI (by decide) (by decide) (by decide +kernel) (by decide +kernel)
  obtain ⟨f, hf⟩ : ∃ f : Nat, (h.2.2.2 188 4).toInt = f := ⟨(h.2.2.2 188 4).toInt.toNat, by omega⟩
  have b204 : (0 : Int) ≤ (h.2.2.2 204 f).toInt ∧ (h.2.2.2 204 f).toInt ≤ 16 := gBa hG hI (by decide) (Or.inl (by decide +kernel)) (l := 5) (by decide +kernel) (by omega) (by decide +kernel)
  obtain ⟨n, hn⟩ : ∃ n : Nat, (h.2.2.2 204 f).toInt = n := ⟨(h.2.2.2 204 f).toInt.toNat, by omega⟩
  have base := h85 (X := X) (d := dd) (gKs_of hG.1) (M := h.2.2.2) bw hf (by omega) hn hG.2.2.1
  rw [← gH_of hG.1] at base
  refine base.mono (fun rv h' hq => ?_)
  obtain ⟨e, M', rfl, rfl, m1, m2, m3⟩ := hq
  have hR : gRm M' := gRm_eq (fun j _ => by rw [m1 203 (by decide) (by decide)]) (fun k _ => by rw [m1 204 (by decide) (by decide)]) (fun l _ => by rw [m1 206 (by decide) (by decide), m1 207 (by decide) (by decide), m1 208 (by decide) (by decide)]; exact ⟨rfl, rfl, rfl⟩) (fun i _ => by rw [m1 210 (by decide) (by decide), m1 211 (by decide) (by decide)]; exact ⟨rfl, rfl⟩)
    (fun i _ => by rw [m1 214 (by decide) (by decide), m1 215 (by decide) (by decide)]; exact ⟨rfl, rfl⟩) (fun i _ => by rw [m1 229 (by decide) (by decide)]) hG.2
  obtain ⟨d1, d2, d3⟩ := gDone (md := gh_85_0.2.2.2.2.2.2) hG hI hR (fun a i => by
    by_cases q : a = 217
    · subst q
      exact Or.inr ⟨217 * 128 + 127, Or.inr ⟨gAr hG (by decide) (Or.inl (by decide +kernel)), rfl⟩, by decide +kernel, iG _⟩
    · by_cases q2 : a = 188
      · subst q2
        by_cases q3 : i = 51
        · subst q3
          exact Or.inr ⟨188 * 128 + 51, Or.inl ⟨gFl hG (by decide) (by decide +kernel), rfl⟩, by decide +kernel, by rw [show gF (188 * 128 + 51) = (0, 1) from by decide +kernel]; omega⟩
        · exact Or.inl (m2 i q3)
      · exact Or.inl (by rw [m1 a q q2]))
  have e1 : h.1 = 230 := hG.1.1
  have e2 : h.2.1 = 108808 := hG.1.2.1
  rw [e1, e2] at d1 d2
  exact ⟨⟨_, List.mem_singleton.mpr rfl, ρ, fun _ _ => rfl, fun i b h => (by cases h), fun e he => (by cases he), ⟨zGi (zAny_s _), trivial⟩, fun e he => (by cases he)⟩, d1, d2, e1.symm, e2.symm, rfl, d3⟩
/-! images of texts, by hand: printed by wip/safe/h133.py -/
theorem bk_132_0 : (aMC 132)[0]? = some [.aload 0, .aload 0, .getfield 132112316, .bipush 1, .iadd, .putfield 132112316, .aload 0, .getfield 131112277, .ifCond .ne 2] := by decide +kernel
theorem bk_132_1 : (aMC 132)[1]? = some [.aload 0, .getfield 132012314, .aload 0, .getfield 132112316, .bipush 1, .isub, .iaload, .ireturn] := by decide +kernel
theorem bk_132_2 : (aMC 132)[2]? = some [.aload 0, .getfield 132012314, .aload 0, .getfield 132112316, .bipush 1, .isub, .iload 1, .iastore, .iload 1, .ireturn] := by decide +kernel
theorem bk_133_0 : (aMC 133)[0]? = some [.bipush 0, .istore 1] := by decide +kernel
theorem bk_133_1 : (aMC 133)[1]? = some [.iload 1, .bipush 4, .if_icmp .ge 3] := by decide +kernel
theorem bk_133_2 : (aMC 133)[2]? = some [.aload 0, .getfield 127212122, .iload 1, .aload 0, .aload 0, .getfield 127212122, .iload 1, .iaload, .invokevirtual 1859132, .iastore, .aload 0, .getfield 127712142, .iload 1, .aload 0, .aload 0, .getfield 127712142, .iload 1, .iaload, .invokevirtual 1859132, .iastore, .aload 0, .getfield 128812186, .iload 1, .aload 0, .aload 0, .getfield 128812186, .iload 1, .iaload, .invokevirtual 1859132, .iastore, .iinc 1 1, .goto 1] := by decide +kernel
theorem bk_133_3 : (aMC 133)[3]? = some [.bipush 0, .istore 1] := by decide +kernel
theorem bk_133_4 : (aMC 133)[4]? = some [.iload 1, .bipush 64, .if_icmp .ge 6] := by decide +kernel
theorem bk_133_5 : (aMC 133)[5]? = some [.aload 0, .getfield 127312126, .iload 1, .aload 0, .aload 0, .getfield 127312126, .iload 1, .iaload, .invokevirtual 1859132, .iastore, .aload 0, .getfield 127412130, .iload 1, .aload 0, .aload 0, .getfield 127412130, .iload 1, .iaload, .invokevirtual 1859132, .iastore, .aload 0, .getfield 127512134, .iload 1, .aload 0, .aload 0, .getfield 127512134, .iload 1, .iaload, .invokevirtual 1859132, .iastore, .aload 0, .getfield 127612138, .iload 1, .aload 0, .aload 0, .getfield 127612138, .iload 1, .iaload, .invokevirtual 1859132, .iastore, .iinc 1 1, .goto 4] := by decide +kernel
theorem bk_133_6 : (aMC 133)[6]? = some [.bipush 0, .istore 1] := by decide +kernel
theorem bk_133_7 : (aMC 133)[7]? = some [.iload 1, .bipush 2000, .if_icmp .ge 9] := by decide +kernel
theorem bk_133_8 : (aMC 133)[8]? = some [.aload 0, .getfield 127812146, .iload 1, .aload 0, .aload 0, .getfield 127812146, .iload 1, .iaload, .invokevirtual 1859132, .iastore, .aload 0, .getfield 127912150, .iload 1, .aload 0, .aload 0, .getfield 127912150, .iload 1, .iaload, .invokevirtual 1859132, .iastore, .iinc 1 1, .goto 7] := by decide +kernel
theorem bk_133_9 : (aMC 133)[9]? = some [.bipush 0, .istore 1] := by decide +kernel
theorem bk_133_10 : (aMC 133)[10]? = some [.iload 1, .bipush 96, .if_icmp .ge 12] := by decide +kernel
theorem bk_133_11 : (aMC 133)[11]? = some [.aload 0, .getfield 128912190, .iload 1, .aload 0, .aload 0, .getfield 128912190, .iload 1, .iaload, .invokevirtual 1859132, .iastore, .aload 0, .getfield 129012194, .iload 1, .aload 0, .aload 0, .getfield 129012194, .iload 1, .iaload, .invokevirtual 1859132, .iastore, .iinc 1 1, .goto 10] := by decide +kernel
theorem bk_133_12 : (aMC 133)[12]? = some [.return_] := by decide +kernel
/-- where an image keeps what -/
def gPos (a i : Nat) : Nat := if a = 204 ∧ i < 4 then 3 * i else if a = 209 ∧ i < 4 then 3 * i + 1 else if a = 213 ∧ i < 4 then 3 * i + 2 else if a = 205 ∧ i < 64 then 4 * i + 12 else if a = 206 ∧ i < 64 then 4 * i + 13 else if a = 207 ∧ i < 64 then 4 * i + 14 else if a = 208 ∧ i < 64 then 4 * i + 15
  else if a = 210 ∧ i < 2000 then 2 * i + 268 else if a = 211 ∧ i < 2000 then 2 * i + 269 else if a = 214 ∧ i < 96 then 2 * i + 4268 else if a = 215 ∧ i < 96 then 2 * i + 4269 else 10000
def gInv (j : Nat) : Nat × Nat := if j < 12 then (if j % 3 = 0 then (204, j / 3) else if j % 3 = 1 then (209, j / 3) else (213, j / 3)) else if j < 268 then (if j % 4 = 0 then (205, (j - 12) / 4) else if j % 4 = 1 then (206, (j - 12) / 4) else if j % 4 = 2 then (207, (j - 12) / 4) else (208, (j - 12) / 4))
  else if j < 4268 then (if j % 2 = 0 then (210, (j - 268) / 2) else (211, (j - 268) / 2)) else (if j % 2 = 0 then (214, (j - 4268) / 2) else (215, (j - 4268) / 2))
theorem gInv_s {a i : Nat} (h : gPos a i < 9999) : gInv (gPos a i) = (a, i) := by
  unfold gPos at h ⊢
  by_cases c1 : a = 204 ∧ i < 4
  · rw [if_pos c1]; unfold gInv; rw [if_pos (by omega), if_pos (by omega)]; exact Prod.ext c1.1.symm (by show 3 * i / 3 = i; omega)
  rw [if_neg c1] at h ⊢
  by_cases c2 : a = 209 ∧ i < 4
  · rw [if_pos c2]; unfold gInv; rw [if_pos (by omega), if_neg (by omega), if_pos (by omega)]; exact Prod.ext c2.1.symm (by show (3 * i + 1) / 3 = i; omega)
  rw [if_neg c2] at h ⊢
  by_cases c3 : a = 213 ∧ i < 4
  · rw [if_pos c3]; unfold gInv; rw [if_pos (by omega), if_neg (by omega), if_neg (by omega)]; exact Prod.ext c3.1.symm (by show (3 * i + 2) / 3 = i; omega)
  rw [if_neg c3] at h ⊢
  by_cases c4 : a = 205 ∧ i < 64
  · rw [if_pos c4]; unfold gInv; rw [if_neg (by omega), if_pos (by omega), if_pos (by omega)]; exact Prod.ext c4.1.symm (by show (4 * i + 12 - 12) / 4 = i; omega)
  rw [if_neg c4] at h ⊢
  by_cases c5 : a = 206 ∧ i < 64
  · rw [if_pos c5]; unfold gInv; rw [if_neg (by omega), if_pos (by omega), if_neg (by omega), if_pos (by omega)]; exact Prod.ext c5.1.symm (by show (4 * i + 13 - 12) / 4 = i; omega)
  rw [if_neg c5] at h ⊢
  by_cases c6 : a = 207 ∧ i < 64
  · rw [if_pos c6]; unfold gInv; rw [if_neg (by omega), if_pos (by omega), if_neg (by omega), if_neg (by omega), if_pos (by omega)]; exact Prod.ext c6.1.symm (by show (4 * i + 14 - 12) / 4 = i; omega)
  rw [if_neg c6] at h ⊢
  by_cases c7 : a = 208 ∧ i < 64
  · rw [if_pos c7]; unfold gInv; rw [if_neg (by omega), if_pos (by omega), if_neg (by omega), if_neg (by omega), if_neg (by omega)]; exact Prod.ext c7.1.symm (by show (4 * i + 15 - 12) / 4 = i; omega)
  rw [if_neg c7] at h ⊢
  by_cases c8 : a = 210 ∧ i < 2000
  · rw [if_pos c8]; unfold gInv; rw [if_neg (by omega), if_neg (by omega), if_pos (by omega), if_pos (by omega)]; exact Prod.ext c8.1.symm (by show (2 * i + 268 - 268) / 2 = i; omega)
  rw [if_neg c8] at h ⊢
  by_cases c9 : a = 211 ∧ i < 2000
  · rw [if_pos c9]; unfold gInv; rw [if_neg (by omega), if_neg (by omega), if_pos (by omega), if_neg (by omega)]; exact Prod.ext c9.1.symm (by show (2 * i + 269 - 268) / 2 = i; omega)
  rw [if_neg c9] at h ⊢
  by_cases c10 : a = 214 ∧ i < 96
  · rw [if_pos c10]; unfold gInv; rw [if_neg (by omega), if_neg (by omega), if_neg (by omega), if_pos (by omega)]; exact Prod.ext c10.1.symm (by show (2 * i + 4268 - 4268) / 2 = i; omega)
  rw [if_neg c10] at h ⊢
  by_cases c11 : a = 215 ∧ i < 96
  · rw [if_pos c11]; unfold gInv; rw [if_neg (by omega), if_neg (by omega), if_neg (by omega), if_neg (by omega)]; exact Prod.ext c11.1.symm (by show (2 * i + 4269 - 4268) / 2 = i; omega)
  rw [if_neg c11] at h
  omega
theorem gPos_inj {a i a' i' : Nat} (h : gPos a i < 9999) (e : gPos a' i' = gPos a i) : a' = a ∧ i' = i := by
  have h1 := gInv_s h
  have h2 := gInv_s (a := a') (i := i') (by omega)
  rw [e, h1] at h2
  exact ⟨(congrArg Prod.fst h2).symm, (congrArg Prod.snd h2).symm⟩
/-- an image is being taken: so far -/
def gTk (M M1 : Nat → Nat → Int32) (t : Nat) : Prop := (∀ a, a ≠ 188 → a ≠ 229 → M1 a = M a) ∧ (∀ f, f ≠ 79 → M1 188 f = M 188 f) ∧ (M1 188 79).toInt = t ∧ (∀ a i, gPos a i < t → M1 229 (gPos a i) = M a i) ∧ (∀ j, t ≤ j → M1 229 j = M 229 j)
/-- gone back to: so far (the next place, what has been written) -/
def gBk_ (M M1 : Nat → Nat → Int32) (t w : Nat) : Prop := (∀ f, f ≠ 79 → M1 188 f = M 188 f) ∧ (M1 188 79).toInt = t ∧ (∀ a i, a ≠ 188 → M1 a i = if gPos a i < w then M 229 (gPos a i) else M a i)
theorem aPut_id {M : Nat → Nat → Int32} {a j : Nat} {x : Int32} (h : M a j = x) : aPut M a j x = M := by
  funext b i
  unfold aPut
  by_cases e : b = a
  · rw [if_pos e]
    by_cases e2 : i = j
    · rw [if_pos e2, e, e2, h]
    · rw [if_neg e2]
  · rw [if_neg e]
theorem gTk_id {M M1 : Nat → Nat → Int32} {t a j : Nat} {x : Int32} (h : gTk M M1 t) (ha : a ≠ 188) (hb : a ≠ 229) (e : M a j = x) : gTk M (aPut M1 a j x) t := by
  rw [aPut_id (by rw [h.1 a ha hb]; exact e)]
  exact h
theorem gBk_wr {M M1 : Nat → Nat → Int32} {t w a j : Nat} {x : Int32} (h : gBk_ M M1 t w) (ha : a ≠ 188) (hp : gPos a j = w) (hw : w < 9999) (e : x = M 229 w) : gBk_ M (aPut M1 a j x) t (w + 1) := by
  obtain ⟨h1, h2, h3⟩ := h
  refine ⟨fun f hf => ?_, ?_, fun b i hb => ?_⟩
  · rw [aPut_o (by omega)]; exact h1 f hf
  · rw [aPut_o (by omega)]; exact h2
  · by_cases q : b = a ∧ i = j
    · obtain ⟨q1, q2⟩ := q
      subst q1
      subst q2
      rw [aPut_e, if_pos (by omega), hp, e]
    · have e1 : aPut M1 a j x b i = M1 b i := by
        unfold aPut
        by_cases q1 : b = a
        · rw [if_pos q1, if_neg (fun z => q ⟨q1, z⟩)]
        · rw [if_neg q1]
      rw [e1, h3 b i hb]
      have hne : gPos b i ≠ w := fun z => q (gPos_inj (by omega) (z.trans hp.symm))
      by_cases q3 : gPos b i < w
      · rw [if_pos q3, if_pos (by omega)]
      · rw [if_neg q3, if_neg (by omega)]

theorem h132_p {X : aX} {d : Nat} {k : Nat → aK} (hk : gKs k) {M M1 : Nat → Nat → Int32} {t a0 j0 : Nat} {v : Int} (h : gTk M M1 t) (hP : (M 188 69).toInt = 1) (hp : gPos a0 j0 = t) (ht : t < 4460) (hv : v = (M a0 j0).toInt) :
    zRn X (d + 1) 132 [.ref 188, iv v] (gH k M1) (fun rv h' => ∃ M2, rv = some (iv v) ∧ h' = gH k M2 ∧ gTk M M2 (t + 1)) := by
  have hP1 : (M1 188 69).toInt = 1 := by rw [h.2.1 69 (by decide), hP]
  have hT := h.2.2.1
  refine wEnt (n := 2) (ls := [.ref 188, iv v]) bk_132_0 (by decide +kernel) rfl rfl rfl ?_
  refine wP (ls' := [.ref 188, iv v]) (st' := [.ref 188]) rfl rfl ?_
  refine wP (ls' := [.ref 188, iv v]) (st' := [.ref 188, .ref 188]) rfl rfl ?_
  refine wGetN hk (f := 79) (e := (M1 188 79).toInt) (by decide +kernel) (iE _) ?_
  refine wP (ls' := [.ref 188, iv v]) (st' := [iv 1, iv (M1 188 79).toInt, .ref 188]) rfl rfl ?_
  refine wAdd ?_
  refine wPutN hk (f := 79) (by decide +kernel) (Or.inl rfl) ?_
  refine wP (ls' := [.ref 188, iv v]) (st' := [.ref 188]) rfl rfl ?_
  refine wGetN hk (f := 69) (e := (M1 188 69).toInt) (by decide +kernel) (by rw [aPut_f (by decide)]; exact iE _) ?_
  refine wIf0 (n1 := 2) rfl bk_132_2 bk_132_1 (by first | exact iG _ | omega) (fun g0 => ?_) (fun g0 => ?_)
  · replace g0 : ¬ (M1 188 69).toInt = 0 := g0
    refine wP (ls' := [.ref 188, iv v]) (st' := [.ref 188]) rfl rfl ?_
    refine wGetR hk (r := 229) (by decide +kernel) ?_
    refine wP (ls' := [.ref 188, iv v]) (st' := [.ref 188, .ref 229]) rfl rfl ?_
    refine wGetN hk (f := 79) (e := ((M1 188 79).toInt + 1)) (by decide +kernel) (by rw [aPut_e]) ?_
    refine wP (ls' := [.ref 188, iv v]) (st' := [iv 1, iv ((M1 188 79).toInt + 1), .ref 229]) rfl rfl ?_
    refine wSub ?_
    refine wP (ls' := [.ref 188, iv v]) (st' := [iv v, iv (((M1 188 79).toInt + 1) - 1), .ref 229]) rfl rfl ?_
    refine wIst hk (l := 8600) (by decide +kernel) (by omega) (by omega) ?_
    refine wP (ls' := [.ref 188, iv v]) (st' := [iv v]) rfl rfl ?_
    refine wIret (Or.inl (by decide +kernel)) ⟨_, rfl, rfl, fun a a1 a2 => ?_, fun f hf => ?_, ?_, fun a i hi => ?_, fun j hj => ?_⟩
    · rw [aPut_r a2, aPut_r a1]; exact h.1 a a1 a2
    · rw [aPut_o (by decide), aPut_f hf]; exact h.2.1 f hf
    · rw [aPut_o (by decide), aPut_e, iR (by omega) (by omega)]; omega
    · by_cases q : gPos a i = t
      · rw [show ((M1 188 79).toInt + 1 - 1).toNat = t by omega, q, aPut_e]
        obtain ⟨q1, q2⟩ := gPos_inj (by omega) (q.trans hp.symm)
        rw [q1, q2, hv, ← iE]
      · rw [aPut_f (by omega), aPut_o (by decide)]
        exact h.2.2.2.1 a i (by omega)
    · rw [aPut_f (by omega), aPut_o (by decide)]
      exact h.2.2.2.2 j (by omega)
  · replace g0 : ¬ (¬ (M1 188 69).toInt = 0) := g0
    exact absurd g0 (by omega)
theorem h132_b {X : aX} {d : Nat} {k : Nat → aK} (hk : gKs k) {M M1 : Nat → Nat → Int32} {t : Nat} {v : Int} (h : gBk_ M M1 t t) (hP : (M 188 69).toInt = 0) (ht : t < 4460) :
    zRn X (d + 1) 132 [.ref 188, iv v] (gH k M1) (fun rv h' => ∃ M2, rv = some (iv (M 229 t).toInt) ∧ h' = gH k M2 ∧ gBk_ M M2 (t + 1) t) := by
  have hP1 : (M1 188 69).toInt = 0 := by rw [h.1 69 (by decide), hP]
  have hT := h.2.1
  refine wEnt (n := 2) (ls := [.ref 188, iv v]) bk_132_0 (by decide +kernel) rfl rfl rfl ?_
  refine wP (ls' := [.ref 188, iv v]) (st' := [.ref 188]) rfl rfl ?_
  refine wP (ls' := [.ref 188, iv v]) (st' := [.ref 188, .ref 188]) rfl rfl ?_
  refine wGetN hk (f := 79) (e := (M1 188 79).toInt) (by decide +kernel) (iE _) ?_
  refine wP (ls' := [.ref 188, iv v]) (st' := [iv 1, iv (M1 188 79).toInt, .ref 188]) rfl rfl ?_
  refine wAdd ?_
  refine wPutN hk (f := 79) (by decide +kernel) (Or.inl rfl) ?_
  refine wP (ls' := [.ref 188, iv v]) (st' := [.ref 188]) rfl rfl ?_
  refine wGetN hk (f := 69) (e := (M1 188 69).toInt) (by decide +kernel) (by rw [aPut_f (by decide)]; exact iE _) ?_
  refine wIf0 (n1 := 2) rfl bk_132_2 bk_132_1 (by first | exact iG _ | omega) (fun g0 => ?_) (fun g0 => ?_)
  · replace g0 : ¬ (M1 188 69).toInt = 0 := g0
    exact absurd g0 (by omega)
  · replace g0 : ¬ (¬ (M1 188 69).toInt = 0) := g0
    refine wP (ls' := [.ref 188, iv v]) (st' := [.ref 188]) rfl rfl ?_
    refine wGetR hk (r := 229) (by decide +kernel) ?_
    refine wP (ls' := [.ref 188, iv v]) (st' := [.ref 188, .ref 229]) rfl rfl ?_
    refine wGetN hk (f := 79) (e := ((M1 188 79).toInt + 1)) (by decide +kernel) (by rw [aPut_e]) ?_
    refine wP (ls' := [.ref 188, iv v]) (st' := [iv 1, iv ((M1 188 79).toInt + 1), .ref 229]) rfl rfl ?_
    refine wSub ?_
    refine wIld hk (l := 8600) (e := (M1 229 ((((M1 188 79).toInt + 1) - 1)).toNat).toInt) (by decide +kernel) (by omega) (by omega) (by rw [aPut_o (by decide)]; exact iE _) ?_
    refine wIret (Or.inl (by decide +kernel)) ⟨_, ?_, rfl, fun f hf => ?_, ?_, fun a i ha => ?_⟩
    · rw [show ((M1 188 79).toInt + 1 - 1).toNat = t by omega, h.2.2 229 t (by decide), if_neg (by unfold gPos; simp; omega)]
    · rw [aPut_f hf]; exact h.1 f hf
    · rw [aPut_e, iR (by omega) (by omega)]; omega
    · rw [aPut_o ha]; exact h.2.2 a i ha
theorem gPos_204 {i : Nat} (h : i < 4) : gPos 204 i = 3 * i := by unfold gPos; simp [h]
theorem gPos_209 {i : Nat} (h : i < 4) : gPos 209 i = 3 * i + 1 := by unfold gPos; simp [h]
theorem gPos_213 {i : Nat} (h : i < 4) : gPos 213 i = 3 * i + 2 := by unfold gPos; simp [h]
theorem gPos_205 {i : Nat} (h : i < 64) : gPos 205 i = 4 * i + 12 := by unfold gPos; simp [h]
theorem gPos_206 {i : Nat} (h : i < 64) : gPos 206 i = 4 * i + 13 := by unfold gPos; simp [h]
theorem gPos_207 {i : Nat} (h : i < 64) : gPos 207 i = 4 * i + 14 := by unfold gPos; simp [h]
theorem gPos_208 {i : Nat} (h : i < 64) : gPos 208 i = 4 * i + 15 := by unfold gPos; simp [h]
theorem gPos_210 {i : Nat} (h : i < 2000) : gPos 210 i = 2 * i + 268 := by unfold gPos; simp [h]
theorem gPos_211 {i : Nat} (h : i < 2000) : gPos 211 i = 2 * i + 269 := by unfold gPos; simp [h]
theorem gPos_214 {i : Nat} (h : i < 96) : gPos 214 i = 2 * i + 4268 := by unfold gPos; simp [h]
theorem gPos_215 {i : Nat} (h : i < 96) : gPos 215 i = 2 * i + 4269 := by unfold gPos; simp [h]
theorem h133_p0 {X : aX} {d : Nat} {k : Nat → aK} (hk : gKs k) {M : Nat → Nat → Int32} (hP : (M 188 69).toInt = 1) {Q : Option Value → aH → Prop} (hx : ∀ (i1 : Int) (M1 : Nat → Nat → Int32), -2147483648 ≤ i1 ∧ i1 ≤ 2147483647 → gTk M M1 (3 * 4 + 0) → zW X (d + 1) 133 3 [.bipush 0, .istore 1] [.ref 188, iv i1] [] (gH k M1) Q) :
    ∀ (m n : Nat) (i1 : Int) (M1 : Nat → Nat → Int32), n + m = 4 → i1 = n → gTk M M1 (3 * n + 0) → zW X (d + 1) 133 1 [.iload 1, .bipush 4, .if_icmp .ge 3] [.ref 188, iv i1] [] (gH k M1) Q := by
  intro m
  induction m with
  | zero =>
    intro n i1 M1 hnm h1 hI
    refine wP (ls' := [.ref 188, iv i1]) (st' := [iv i1]) rfl rfl ?_
    refine wP (ls' := [.ref 188, iv i1]) (st' := [iv 4, iv i1]) rfl rfl ?_
    refine wIfc (n1 := 3) rfl bk_133_3 bk_133_2 (by omega) (by omega) (fun g0 => ?_) (fun g0 => ?_)
    · replace g0 : 4 ≤ i1 := g0
      exact hx i1 M1 (by omega) (by rw [show n = 4 by omega] at hI; exact hI)
    · replace g0 : ¬ (4 ≤ i1) := g0
      exact absurd g0 (by omega)
  | succ m ih =>
    intro n i1 M1 hnm h1 hI
    have en : (i1).toNat = n := by omega
    refine wP (ls' := [.ref 188, iv i1]) (st' := [iv i1]) rfl rfl ?_
    refine wP (ls' := [.ref 188, iv i1]) (st' := [iv 4, iv i1]) rfl rfl ?_
    refine wIfc (n1 := 3) rfl bk_133_3 bk_133_2 (by omega) (by omega) (fun g0 => ?_) (fun g0 => ?_)
    · replace g0 : 4 ≤ i1 := g0
      exact absurd g0 (by omega)
    · replace g0 : ¬ (4 ≤ i1) := g0
      refine wP (ls' := [.ref 188, iv i1]) (st' := [.ref 188]) rfl rfl ?_
      refine wGetR hk (r := 204) (by decide +kernel) ?_
      refine wP (ls' := [.ref 188, iv i1]) (st' := [iv i1, .ref 204]) rfl rfl ?_
      refine wP (ls' := [.ref 188, iv i1]) (st' := [.ref 188, iv i1, .ref 204]) rfl rfl ?_
      refine wP (ls' := [.ref 188, iv i1]) (st' := [.ref 188, .ref 188, iv i1, .ref 204]) rfl rfl ?_
      refine wGetR hk (r := 204) (by decide +kernel) ?_
      refine wP (ls' := [.ref 188, iv i1]) (st' := [iv i1, .ref 204, .ref 188, iv i1, .ref 204]) rfl rfl ?_
      refine wIld hk (l := 5) (e := (M1 204 (i1).toNat).toInt) (by decide +kernel) (by omega) (by omega) (iE _) ?_
      refine wCall hk (q := 132) (na := 1) (a := 188) (as := [iv (M1 204 (i1).toNat).toInt]) (t := [iv i1, .ref 204]) rfl (by decide +kernel) (by decide) (by decide +kernel) (Nat.le_of_ble_eq_true rfl) rfl rfl (zRn.mono (h132_p hk (a0 := 204) (j0 := n) (t := 3 * n + 0 + 0) hI hP (by rw [gPos_204 (by omega)] <;> omega) (by omega) (by rw [hI.1 204 (by decide) (by decide), en])) (fun rv h' hq => ?_))
      obtain ⟨N0, rfl, rfl, H0⟩ := hq
      refine ⟨rfl, ?_⟩
      show zW X _ 133 2 [.iastore, .aload 0, .getfield 127712142, .iload 1, .aload 0, .aload 0, .getfield 127712142, .iload 1, .iaload, .invokevirtual 1859132, .iastore, .aload 0, .getfield 128812186, .iload 1, .aload 0, .aload 0, .getfield 128812186, .iload 1, .iaload, .invokevirtual 1859132, .iastore, .iinc 1 1, .goto 1] [.ref 188, iv i1] [iv (M1 204 (i1).toNat).toInt, iv i1, .ref 204] (gH k N0) _
      refine wIst hk (l := 5) (by decide +kernel) (by omega) (by omega) ?_
      refine wP (ls' := [.ref 188, iv i1]) (st' := [.ref 188]) rfl rfl ?_
      refine wGetR hk (r := 209) (by decide +kernel) ?_
      refine wP (ls' := [.ref 188, iv i1]) (st' := [iv i1, .ref 209]) rfl rfl ?_
      refine wP (ls' := [.ref 188, iv i1]) (st' := [.ref 188, iv i1, .ref 209]) rfl rfl ?_
      refine wP (ls' := [.ref 188, iv i1]) (st' := [.ref 188, .ref 188, iv i1, .ref 209]) rfl rfl ?_
      refine wGetR hk (r := 209) (by decide +kernel) ?_
      refine wP (ls' := [.ref 188, iv i1]) (st' := [iv i1, .ref 209, .ref 188, iv i1, .ref 209]) rfl rfl ?_
      refine wIld hk (l := 5) (e := (N0 209 (i1).toNat).toInt) (by decide +kernel) (by omega) (by omega) (by rw [aPut_o (by decide)]; exact iE _) ?_
      refine wCall hk (q := 132) (na := 1) (a := 188) (as := [iv (N0 209 (i1).toNat).toInt]) (t := [iv i1, .ref 209]) rfl (by decide +kernel) (by decide) (by decide +kernel) (Nat.le_of_ble_eq_true rfl) rfl rfl (zRn.mono (h132_p hk (a0 := 209) (j0 := n) (t := 3 * n + 0 + 1) (gTk_id H0 (by decide) (by decide) (by rw [hI.1 204 (by decide) (by decide), en]; exact iE _)) hP (by rw [gPos_209 (by omega)] <;> omega) (by omega) (by rw [H0.1 209 (by decide) (by decide), en])) (fun rv h' hq => ?_))
      obtain ⟨N1, rfl, rfl, H1⟩ := hq
      refine ⟨rfl, ?_⟩
      show zW X _ 133 2 [.iastore, .aload 0, .getfield 128812186, .iload 1, .aload 0, .aload 0, .getfield 128812186, .iload 1, .iaload, .invokevirtual 1859132, .iastore, .iinc 1 1, .goto 1] [.ref 188, iv i1] [iv (N0 209 (i1).toNat).toInt, iv i1, .ref 209] (gH k N1) _
      refine wIst hk (l := 5) (by decide +kernel) (by omega) (by omega) ?_
      refine wP (ls' := [.ref 188, iv i1]) (st' := [.ref 188]) rfl rfl ?_
      refine wGetR hk (r := 213) (by decide +kernel) ?_
      refine wP (ls' := [.ref 188, iv i1]) (st' := [iv i1, .ref 213]) rfl rfl ?_
      refine wP (ls' := [.ref 188, iv i1]) (st' := [.ref 188, iv i1, .ref 213]) rfl rfl ?_
      refine wP (ls' := [.ref 188, iv i1]) (st' := [.ref 188, .ref 188, iv i1, .ref 213]) rfl rfl ?_
      refine wGetR hk (r := 213) (by decide +kernel) ?_
      refine wP (ls' := [.ref 188, iv i1]) (st' := [iv i1, .ref 213, .ref 188, iv i1, .ref 213]) rfl rfl ?_
      refine wIld hk (l := 5) (e := (N1 213 (i1).toNat).toInt) (by decide +kernel) (by omega) (by omega) (by rw [aPut_o (by decide)]; exact iE _) ?_
      refine wCall hk (q := 132) (na := 1) (a := 188) (as := [iv (N1 213 (i1).toNat).toInt]) (t := [iv i1, .ref 213]) rfl (by decide +kernel) (by decide) (by decide +kernel) (Nat.le_of_ble_eq_true rfl) rfl rfl (zRn.mono (h132_p hk (a0 := 213) (j0 := n) (t := 3 * n + 0 + 2) (gTk_id H1 (by decide) (by decide) (by rw [H0.1 209 (by decide) (by decide), en]; exact iE _)) hP (by rw [gPos_213 (by omega)] <;> omega) (by omega) (by rw [H1.1 213 (by decide) (by decide), en])) (fun rv h' hq => ?_))
      obtain ⟨N2, rfl, rfl, H2⟩ := hq
      refine ⟨rfl, ?_⟩
      show zW X _ 133 2 [.iastore, .iinc 1 1, .goto 1] [.ref 188, iv i1] [iv (N1 213 (i1).toNat).toInt, iv i1, .ref 213] (gH k N2) _
      refine wIst hk (l := 5) (by decide +kernel) (by omega) (by omega) ?_
      refine wInc (ls' := [.ref 188, iv (i1 + 1)]) rfl rfl ?_
      refine wGoto (n1 := 1) rfl bk_133_1 ?_
      exact ih (n + 1) (i1 + 1) (aPut N2 213 (i1).toNat (Int32.ofInt (N1 213 (i1).toNat).toInt)) (by omega) (by omega) (by rw [show 3 * (n + 1) + 0 = 3 * n + 0 + 2 + 1 by omega]; exact (gTk_id H2 (by decide) (by decide) (by rw [H1.1 213 (by decide) (by decide), en]; exact iE _)))
theorem h133_p1 {X : aX} {d : Nat} {k : Nat → aK} (hk : gKs k) {M : Nat → Nat → Int32} (hP : (M 188 69).toInt = 1) {Q : Option Value → aH → Prop} (hx : ∀ (i1 : Int) (M1 : Nat → Nat → Int32), -2147483648 ≤ i1 ∧ i1 ≤ 2147483647 → gTk M M1 (4 * 64 + 12) → zW X (d + 1) 133 6 [.bipush 0, .istore 1] [.ref 188, iv i1] [] (gH k M1) Q) :
    ∀ (m n : Nat) (i1 : Int) (M1 : Nat → Nat → Int32), n + m = 64 → i1 = n → gTk M M1 (4 * n + 12) → zW X (d + 1) 133 4 [.iload 1, .bipush 64, .if_icmp .ge 6] [.ref 188, iv i1] [] (gH k M1) Q := by
  intro m
  induction m with
  | zero =>
    intro n i1 M1 hnm h1 hI
    refine wP (ls' := [.ref 188, iv i1]) (st' := [iv i1]) rfl rfl ?_
    refine wP (ls' := [.ref 188, iv i1]) (st' := [iv 64, iv i1]) rfl rfl ?_
    refine wIfc (n1 := 6) rfl bk_133_6 bk_133_5 (by omega) (by omega) (fun g0 => ?_) (fun g0 => ?_)
    · replace g0 : 64 ≤ i1 := g0
      exact hx i1 M1 (by omega) (by rw [show n = 64 by omega] at hI; exact hI)
    · replace g0 : ¬ (64 ≤ i1) := g0
      exact absurd g0 (by omega)
  | succ m ih =>
    intro n i1 M1 hnm h1 hI
    have en : (i1).toNat = n := by omega
    refine wP (ls' := [.ref 188, iv i1]) (st' := [iv i1]) rfl rfl ?_
    refine wP (ls' := [.ref 188, iv i1]) (st' := [iv 64, iv i1]) rfl rfl ?_
    refine wIfc (n1 := 6) rfl bk_133_6 bk_133_5 (by omega) (by omega) (fun g0 => ?_) (fun g0 => ?_)
    · replace g0 : 64 ≤ i1 := g0
      exact absurd g0 (by omega)
    · replace g0 : ¬ (64 ≤ i1) := g0
      refine wP (ls' := [.ref 188, iv i1]) (st' := [.ref 188]) rfl rfl ?_
      refine wGetR hk (r := 205) (by decide +kernel) ?_
      refine wP (ls' := [.ref 188, iv i1]) (st' := [iv i1, .ref 205]) rfl rfl ?_
      refine wP (ls' := [.ref 188, iv i1]) (st' := [.ref 188, iv i1, .ref 205]) rfl rfl ?_
      refine wP (ls' := [.ref 188, iv i1]) (st' := [.ref 188, .ref 188, iv i1, .ref 205]) rfl rfl ?_
      refine wGetR hk (r := 205) (by decide +kernel) ?_
      refine wP (ls' := [.ref 188, iv i1]) (st' := [iv i1, .ref 205, .ref 188, iv i1, .ref 205]) rfl rfl ?_
      refine wIld hk (l := 80) (e := (M1 205 (i1).toNat).toInt) (by decide +kernel) (by omega) (by omega) (iE _) ?_
      refine wCall hk (q := 132) (na := 1) (a := 188) (as := [iv (M1 205 (i1).toNat).toInt]) (t := [iv i1, .ref 205]) rfl (by decide +kernel) (by decide) (by decide +kernel) (Nat.le_of_ble_eq_true rfl) rfl rfl (zRn.mono (h132_p hk (a0 := 205) (j0 := n) (t := 4 * n + 12 + 0) hI hP (by rw [gPos_205 (by omega)] <;> omega) (by omega) (by rw [hI.1 205 (by decide) (by decide), en])) (fun rv h' hq => ?_))
      obtain ⟨N0, rfl, rfl, H0⟩ := hq
      refine ⟨rfl, ?_⟩
      show zW X _ 133 5 [.iastore, .aload 0, .getfield 127412130, .iload 1, .aload 0, .aload 0, .getfield 127412130, .iload 1, .iaload, .invokevirtual 1859132, .iastore, .aload 0, .getfield 127512134, .iload 1, .aload 0, .aload 0, .getfield 127512134, .iload 1, .iaload, .invokevirtual 1859132, .iastore, .aload 0, .getfield 127612138, .iload 1, .aload 0, .aload 0, .getfield 127612138, .iload 1, .iaload, .invokevirtual 1859132, .iastore, .iinc 1 1, .goto 4] [.ref 188, iv i1] [iv (M1 205 (i1).toNat).toInt, iv i1, .ref 205] (gH k N0) _
      refine wIst hk (l := 80) (by decide +kernel) (by omega) (by omega) ?_
      refine wP (ls' := [.ref 188, iv i1]) (st' := [.ref 188]) rfl rfl ?_
      refine wGetR hk (r := 206) (by decide +kernel) ?_
      refine wP (ls' := [.ref 188, iv i1]) (st' := [iv i1, .ref 206]) rfl rfl ?_
      refine wP (ls' := [.ref 188, iv i1]) (st' := [.ref 188, iv i1, .ref 206]) rfl rfl ?_
      refine wP (ls' := [.ref 188, iv i1]) (st' := [.ref 188, .ref 188, iv i1, .ref 206]) rfl rfl ?_
      refine wGetR hk (r := 206) (by decide +kernel) ?_
      refine wP (ls' := [.ref 188, iv i1]) (st' := [iv i1, .ref 206, .ref 188, iv i1, .ref 206]) rfl rfl ?_
      refine wIld hk (l := 80) (e := (N0 206 (i1).toNat).toInt) (by decide +kernel) (by omega) (by omega) (by rw [aPut_o (by decide)]; exact iE _) ?_
      refine wCall hk (q := 132) (na := 1) (a := 188) (as := [iv (N0 206 (i1).toNat).toInt]) (t := [iv i1, .ref 206]) rfl (by decide +kernel) (by decide) (by decide +kernel) (Nat.le_of_ble_eq_true rfl) rfl rfl (zRn.mono (h132_p hk (a0 := 206) (j0 := n) (t := 4 * n + 12 + 1) (gTk_id H0 (by decide) (by decide) (by rw [hI.1 205 (by decide) (by decide), en]; exact iE _)) hP (by rw [gPos_206 (by omega)] <;> omega) (by omega) (by rw [H0.1 206 (by decide) (by decide), en])) (fun rv h' hq => ?_))
      obtain ⟨N1, rfl, rfl, H1⟩ := hq
      refine ⟨rfl, ?_⟩
      show zW X _ 133 5 [.iastore, .aload 0, .getfield 127512134, .iload 1, .aload 0, .aload 0, .getfield 127512134, .iload 1, .iaload, .invokevirtual 1859132, .iastore, .aload 0, .getfield 127612138, .iload 1, .aload 0, .aload 0, .getfield 127612138, .iload 1, .iaload, .invokevirtual 1859132, .iastore, .iinc 1 1, .goto 4] [.ref 188, iv i1] [iv (N0 206 (i1).toNat).toInt, iv i1, .ref 206] (gH k N1) _
      refine wIst hk (l := 80) (by decide +kernel) (by omega) (by omega) ?_
      refine wP (ls' := [.ref 188, iv i1]) (st' := [.ref 188]) rfl rfl ?_
      refine wGetR hk (r := 207) (by decide +kernel) ?_
      refine wP (ls' := [.ref 188, iv i1]) (st' := [iv i1, .ref 207]) rfl rfl ?_
      refine wP (ls' := [.ref 188, iv i1]) (st' := [.ref 188, iv i1, .ref 207]) rfl rfl ?_
      refine wP (ls' := [.ref 188, iv i1]) (st' := [.ref 188, .ref 188, iv i1, .ref 207]) rfl rfl ?_
      refine wGetR hk (r := 207) (by decide +kernel) ?_
      refine wP (ls' := [.ref 188, iv i1]) (st' := [iv i1, .ref 207, .ref 188, iv i1, .ref 207]) rfl rfl ?_
      refine wIld hk (l := 80) (e := (N1 207 (i1).toNat).toInt) (by decide +kernel) (by omega) (by omega) (by rw [aPut_o (by decide)]; exact iE _) ?_
      refine wCall hk (q := 132) (na := 1) (a := 188) (as := [iv (N1 207 (i1).toNat).toInt]) (t := [iv i1, .ref 207]) rfl (by decide +kernel) (by decide) (by decide +kernel) (Nat.le_of_ble_eq_true rfl) rfl rfl (zRn.mono (h132_p hk (a0 := 207) (j0 := n) (t := 4 * n + 12 + 2) (gTk_id H1 (by decide) (by decide) (by rw [H0.1 206 (by decide) (by decide), en]; exact iE _)) hP (by rw [gPos_207 (by omega)] <;> omega) (by omega) (by rw [H1.1 207 (by decide) (by decide), en])) (fun rv h' hq => ?_))
      obtain ⟨N2, rfl, rfl, H2⟩ := hq
      refine ⟨rfl, ?_⟩
      show zW X _ 133 5 [.iastore, .aload 0, .getfield 127612138, .iload 1, .aload 0, .aload 0, .getfield 127612138, .iload 1, .iaload, .invokevirtual 1859132, .iastore, .iinc 1 1, .goto 4] [.ref 188, iv i1] [iv (N1 207 (i1).toNat).toInt, iv i1, .ref 207] (gH k N2) _
      refine wIst hk (l := 80) (by decide +kernel) (by omega) (by omega) ?_
      refine wP (ls' := [.ref 188, iv i1]) (st' := [.ref 188]) rfl rfl ?_
      refine wGetR hk (r := 208) (by decide +kernel) ?_
      refine wP (ls' := [.ref 188, iv i1]) (st' := [iv i1, .ref 208]) rfl rfl ?_
      refine wP (ls' := [.ref 188, iv i1]) (st' := [.ref 188, iv i1, .ref 208]) rfl rfl ?_
      refine wP (ls' := [.ref 188, iv i1]) (st' := [.ref 188, .ref 188, iv i1, .ref 208]) rfl rfl ?_
      refine wGetR hk (r := 208) (by decide +kernel) ?_
      refine wP (ls' := [.ref 188, iv i1]) (st' := [iv i1, .ref 208, .ref 188, iv i1, .ref 208]) rfl rfl ?_
      refine wIld hk (l := 80) (e := (N2 208 (i1).toNat).toInt) (by decide +kernel) (by omega) (by omega) (by rw [aPut_o (by decide)]; exact iE _) ?_
      refine wCall hk (q := 132) (na := 1) (a := 188) (as := [iv (N2 208 (i1).toNat).toInt]) (t := [iv i1, .ref 208]) rfl (by decide +kernel) (by decide) (by decide +kernel) (Nat.le_of_ble_eq_true rfl) rfl rfl (zRn.mono (h132_p hk (a0 := 208) (j0 := n) (t := 4 * n + 12 + 3) (gTk_id H2 (by decide) (by decide) (by rw [H1.1 207 (by decide) (by decide), en]; exact iE _)) hP (by rw [gPos_208 (by omega)] <;> omega) (by omega) (by rw [H2.1 208 (by decide) (by decide), en])) (fun rv h' hq => ?_))
      obtain ⟨N3, rfl, rfl, H3⟩ := hq
      refine ⟨rfl, ?_⟩
      show zW X _ 133 5 [.iastore, .iinc 1 1, .goto 4] [.ref 188, iv i1] [iv (N2 208 (i1).toNat).toInt, iv i1, .ref 208] (gH k N3) _
      refine wIst hk (l := 80) (by decide +kernel) (by omega) (by omega) ?_
      refine wInc (ls' := [.ref 188, iv (i1 + 1)]) rfl rfl ?_
      refine wGoto (n1 := 4) rfl bk_133_4 ?_
      exact ih (n + 1) (i1 + 1) (aPut N3 208 (i1).toNat (Int32.ofInt (N2 208 (i1).toNat).toInt)) (by omega) (by omega) (by rw [show 4 * (n + 1) + 12 = 4 * n + 12 + 3 + 1 by omega]; exact (gTk_id H3 (by decide) (by decide) (by rw [H2.1 208 (by decide) (by decide), en]; exact iE _)))
theorem h133_p2 {X : aX} {d : Nat} {k : Nat → aK} (hk : gKs k) {M : Nat → Nat → Int32} (hP : (M 188 69).toInt = 1) {Q : Option Value → aH → Prop} (hx : ∀ (i1 : Int) (M1 : Nat → Nat → Int32), -2147483648 ≤ i1 ∧ i1 ≤ 2147483647 → gTk M M1 (2 * 2000 + 268) → zW X (d + 1) 133 9 [.bipush 0, .istore 1] [.ref 188, iv i1] [] (gH k M1) Q) :
    ∀ (m n : Nat) (i1 : Int) (M1 : Nat → Nat → Int32), n + m = 2000 → i1 = n → gTk M M1 (2 * n + 268) → zW X (d + 1) 133 7 [.iload 1, .bipush 2000, .if_icmp .ge 9] [.ref 188, iv i1] [] (gH k M1) Q := by
  intro m
  induction m with
  | zero =>
    intro n i1 M1 hnm h1 hI
    refine wP (ls' := [.ref 188, iv i1]) (st' := [iv i1]) rfl rfl ?_
    refine wP (ls' := [.ref 188, iv i1]) (st' := [iv 2000, iv i1]) rfl rfl ?_
    refine wIfc (n1 := 9) rfl bk_133_9 bk_133_8 (by omega) (by omega) (fun g0 => ?_) (fun g0 => ?_)
    · replace g0 : 2000 ≤ i1 := g0
      exact hx i1 M1 (by omega) (by rw [show n = 2000 by omega] at hI; exact hI)
    · replace g0 : ¬ (2000 ≤ i1) := g0
      exact absurd g0 (by omega)
  | succ m ih =>
    intro n i1 M1 hnm h1 hI
    have en : (i1).toNat = n := by omega
    refine wP (ls' := [.ref 188, iv i1]) (st' := [iv i1]) rfl rfl ?_
    refine wP (ls' := [.ref 188, iv i1]) (st' := [iv 2000, iv i1]) rfl rfl ?_
    refine wIfc (n1 := 9) rfl bk_133_9 bk_133_8 (by omega) (by omega) (fun g0 => ?_) (fun g0 => ?_)
    · replace g0 : 2000 ≤ i1 := g0
      exact absurd g0 (by omega)
    · replace g0 : ¬ (2000 ≤ i1) := g0
      refine wP (ls' := [.ref 188, iv i1]) (st' := [.ref 188]) rfl rfl ?_
      refine wGetR hk (r := 210) (by decide +kernel) ?_
      refine wP (ls' := [.ref 188, iv i1]) (st' := [iv i1, .ref 210]) rfl rfl ?_
      refine wP (ls' := [.ref 188, iv i1]) (st' := [.ref 188, iv i1, .ref 210]) rfl rfl ?_
      refine wP (ls' := [.ref 188, iv i1]) (st' := [.ref 188, .ref 188, iv i1, .ref 210]) rfl rfl ?_
      refine wGetR hk (r := 210) (by decide +kernel) ?_
      refine wP (ls' := [.ref 188, iv i1]) (st' := [iv i1, .ref 210, .ref 188, iv i1, .ref 210]) rfl rfl ?_
      refine wIld hk (l := 2500) (e := (M1 210 (i1).toNat).toInt) (by decide +kernel) (by omega) (by omega) (iE _) ?_
      refine wCall hk (q := 132) (na := 1) (a := 188) (as := [iv (M1 210 (i1).toNat).toInt]) (t := [iv i1, .ref 210]) rfl (by decide +kernel) (by decide) (by decide +kernel) (Nat.le_of_ble_eq_true rfl) rfl rfl (zRn.mono (h132_p hk (a0 := 210) (j0 := n) (t := 2 * n + 268 + 0) hI hP (by rw [gPos_210 (by omega)] <;> omega) (by omega) (by rw [hI.1 210 (by decide) (by decide), en])) (fun rv h' hq => ?_))
      obtain ⟨N0, rfl, rfl, H0⟩ := hq
      refine ⟨rfl, ?_⟩
      show zW X _ 133 8 [.iastore, .aload 0, .getfield 127912150, .iload 1, .aload 0, .aload 0, .getfield 127912150, .iload 1, .iaload, .invokevirtual 1859132, .iastore, .iinc 1 1, .goto 7] [.ref 188, iv i1] [iv (M1 210 (i1).toNat).toInt, iv i1, .ref 210] (gH k N0) _
      refine wIst hk (l := 2500) (by decide +kernel) (by omega) (by omega) ?_
      refine wP (ls' := [.ref 188, iv i1]) (st' := [.ref 188]) rfl rfl ?_
      refine wGetR hk (r := 211) (by decide +kernel) ?_
      refine wP (ls' := [.ref 188, iv i1]) (st' := [iv i1, .ref 211]) rfl rfl ?_
      refine wP (ls' := [.ref 188, iv i1]) (st' := [.ref 188, iv i1, .ref 211]) rfl rfl ?_
      refine wP (ls' := [.ref 188, iv i1]) (st' := [.ref 188, .ref 188, iv i1, .ref 211]) rfl rfl ?_
      refine wGetR hk (r := 211) (by decide +kernel) ?_
      refine wP (ls' := [.ref 188, iv i1]) (st' := [iv i1, .ref 211, .ref 188, iv i1, .ref 211]) rfl rfl ?_
      refine wIld hk (l := 2500) (e := (N0 211 (i1).toNat).toInt) (by decide +kernel) (by omega) (by omega) (by rw [aPut_o (by decide)]; exact iE _) ?_
      refine wCall hk (q := 132) (na := 1) (a := 188) (as := [iv (N0 211 (i1).toNat).toInt]) (t := [iv i1, .ref 211]) rfl (by decide +kernel) (by decide) (by decide +kernel) (Nat.le_of_ble_eq_true rfl) rfl rfl (zRn.mono (h132_p hk (a0 := 211) (j0 := n) (t := 2 * n + 268 + 1) (gTk_id H0 (by decide) (by decide) (by rw [hI.1 210 (by decide) (by decide), en]; exact iE _)) hP (by rw [gPos_211 (by omega)] <;> omega) (by omega) (by rw [H0.1 211 (by decide) (by decide), en])) (fun rv h' hq => ?_))
      obtain ⟨N1, rfl, rfl, H1⟩ := hq
      refine ⟨rfl, ?_⟩
      show zW X _ 133 8 [.iastore, .iinc 1 1, .goto 7] [.ref 188, iv i1] [iv (N0 211 (i1).toNat).toInt, iv i1, .ref 211] (gH k N1) _
      refine wIst hk (l := 2500) (by decide +kernel) (by omega) (by omega) ?_
      refine wInc (ls' := [.ref 188, iv (i1 + 1)]) rfl rfl ?_
      refine wGoto (n1 := 7) rfl bk_133_7 ?_
      exact ih (n + 1) (i1 + 1) (aPut N1 211 (i1).toNat (Int32.ofInt (N0 211 (i1).toNat).toInt)) (by omega) (by omega) (by rw [show 2 * (n + 1) + 268 = 2 * n + 268 + 1 + 1 by omega]; exact (gTk_id H1 (by decide) (by decide) (by rw [H0.1 211 (by decide) (by decide), en]; exact iE _)))
theorem h133_p3 {X : aX} {d : Nat} {k : Nat → aK} (hk : gKs k) {M : Nat → Nat → Int32} (hP : (M 188 69).toInt = 1) {Q : Option Value → aH → Prop} (hx : ∀ (i1 : Int) (M1 : Nat → Nat → Int32), -2147483648 ≤ i1 ∧ i1 ≤ 2147483647 → gTk M M1 (2 * 96 + 4268) → zW X (d + 1) 133 12 [.return_] [.ref 188, iv i1] [] (gH k M1) Q) :
    ∀ (m n : Nat) (i1 : Int) (M1 : Nat → Nat → Int32), n + m = 96 → i1 = n → gTk M M1 (2 * n + 4268) → zW X (d + 1) 133 10 [.iload 1, .bipush 96, .if_icmp .ge 12] [.ref 188, iv i1] [] (gH k M1) Q := by
  intro m
  induction m with
  | zero =>
    intro n i1 M1 hnm h1 hI
    refine wP (ls' := [.ref 188, iv i1]) (st' := [iv i1]) rfl rfl ?_
    refine wP (ls' := [.ref 188, iv i1]) (st' := [iv 96, iv i1]) rfl rfl ?_
    refine wIfc (n1 := 12) rfl bk_133_12 bk_133_11 (by omega) (by omega) (fun g0 => ?_) (fun g0 => ?_)
    · replace g0 : 96 ≤ i1 := g0
      exact hx i1 M1 (by omega) (by rw [show n = 96 by omega] at hI; exact hI)
    · replace g0 : ¬ (96 ≤ i1) := g0
      exact absurd g0 (by omega)
  | succ m ih =>
    intro n i1 M1 hnm h1 hI
    have en : (i1).toNat = n := by omega
    refine wP (ls' := [.ref 188, iv i1]) (st' := [iv i1]) rfl rfl ?_
    refine wP (ls' := [.ref 188, iv i1]) (st' := [iv 96, iv i1]) rfl rfl ?_
    refine wIfc (n1 := 12) rfl bk_133_12 bk_133_11 (by omega) (by omega) (fun g0 => ?_) (fun g0 => ?_)
    · replace g0 : 96 ≤ i1 := g0
      exact absurd g0 (by omega)
    · replace g0 : ¬ (96 ≤ i1) := g0
      refine wP (ls' := [.ref 188, iv i1]) (st' := [.ref 188]) rfl rfl ?_
      refine wGetR hk (r := 214) (by decide +kernel) ?_
      refine wP (ls' := [.ref 188, iv i1]) (st' := [iv i1, .ref 214]) rfl rfl ?_
      refine wP (ls' := [.ref 188, iv i1]) (st' := [.ref 188, iv i1, .ref 214]) rfl rfl ?_
      refine wP (ls' := [.ref 188, iv i1]) (st' := [.ref 188, .ref 188, iv i1, .ref 214]) rfl rfl ?_
      refine wGetR hk (r := 214) (by decide +kernel) ?_
      refine wP (ls' := [.ref 188, iv i1]) (st' := [iv i1, .ref 214, .ref 188, iv i1, .ref 214]) rfl rfl ?_
      refine wIld hk (l := 120) (e := (M1 214 (i1).toNat).toInt) (by decide +kernel) (by omega) (by omega) (iE _) ?_
      refine wCall hk (q := 132) (na := 1) (a := 188) (as := [iv (M1 214 (i1).toNat).toInt]) (t := [iv i1, .ref 214]) rfl (by decide +kernel) (by decide) (by decide +kernel) (Nat.le_of_ble_eq_true rfl) rfl rfl (zRn.mono (h132_p hk (a0 := 214) (j0 := n) (t := 2 * n + 4268 + 0) hI hP (by rw [gPos_214 (by omega)] <;> omega) (by omega) (by rw [hI.1 214 (by decide) (by decide), en])) (fun rv h' hq => ?_))
      obtain ⟨N0, rfl, rfl, H0⟩ := hq
      refine ⟨rfl, ?_⟩
      show zW X _ 133 11 [.iastore, .aload 0, .getfield 129012194, .iload 1, .aload 0, .aload 0, .getfield 129012194, .iload 1, .iaload, .invokevirtual 1859132, .iastore, .iinc 1 1, .goto 10] [.ref 188, iv i1] [iv (M1 214 (i1).toNat).toInt, iv i1, .ref 214] (gH k N0) _
      refine wIst hk (l := 120) (by decide +kernel) (by omega) (by omega) ?_
      refine wP (ls' := [.ref 188, iv i1]) (st' := [.ref 188]) rfl rfl ?_
      refine wGetR hk (r := 215) (by decide +kernel) ?_
      refine wP (ls' := [.ref 188, iv i1]) (st' := [iv i1, .ref 215]) rfl rfl ?_
      refine wP (ls' := [.ref 188, iv i1]) (st' := [.ref 188, iv i1, .ref 215]) rfl rfl ?_
      refine wP (ls' := [.ref 188, iv i1]) (st' := [.ref 188, .ref 188, iv i1, .ref 215]) rfl rfl ?_
      refine wGetR hk (r := 215) (by decide +kernel) ?_
      refine wP (ls' := [.ref 188, iv i1]) (st' := [iv i1, .ref 215, .ref 188, iv i1, .ref 215]) rfl rfl ?_
      refine wIld hk (l := 120) (e := (N0 215 (i1).toNat).toInt) (by decide +kernel) (by omega) (by omega) (by rw [aPut_o (by decide)]; exact iE _) ?_
      refine wCall hk (q := 132) (na := 1) (a := 188) (as := [iv (N0 215 (i1).toNat).toInt]) (t := [iv i1, .ref 215]) rfl (by decide +kernel) (by decide) (by decide +kernel) (Nat.le_of_ble_eq_true rfl) rfl rfl (zRn.mono (h132_p hk (a0 := 215) (j0 := n) (t := 2 * n + 4268 + 1) (gTk_id H0 (by decide) (by decide) (by rw [hI.1 214 (by decide) (by decide), en]; exact iE _)) hP (by rw [gPos_215 (by omega)] <;> omega) (by omega) (by rw [H0.1 215 (by decide) (by decide), en])) (fun rv h' hq => ?_))
      obtain ⟨N1, rfl, rfl, H1⟩ := hq
      refine ⟨rfl, ?_⟩
      show zW X _ 133 11 [.iastore, .iinc 1 1, .goto 10] [.ref 188, iv i1] [iv (N0 215 (i1).toNat).toInt, iv i1, .ref 215] (gH k N1) _
      refine wIst hk (l := 120) (by decide +kernel) (by omega) (by omega) ?_
      refine wInc (ls' := [.ref 188, iv (i1 + 1)]) rfl rfl ?_
      refine wGoto (n1 := 10) rfl bk_133_10 ?_
      exact ih (n + 1) (i1 + 1) (aPut N1 215 (i1).toNat (Int32.ofInt (N0 215 (i1).toNat).toInt)) (by omega) (by omega) (by rw [show 2 * (n + 1) + 4268 = 2 * n + 4268 + 1 + 1 by omega]; exact (gTk_id H1 (by decide) (by decide) (by rw [H0.1 215 (by decide) (by decide), en]; exact iE _)))
theorem h133_b0 {X : aX} {d : Nat} {k : Nat → aK} (hk : gKs k) {M : Nat → Nat → Int32} (hP : (M 188 69).toInt = 0) {Q : Option Value → aH → Prop} (hx : ∀ (i1 : Int) (M1 : Nat → Nat → Int32), -2147483648 ≤ i1 ∧ i1 ≤ 2147483647 → gBk_ M M1 (3 * 4 + 0) (3 * 4 + 0) → zW X (d + 1) 133 3 [.bipush 0, .istore 1] [.ref 188, iv i1] [] (gH k M1) Q) :
    ∀ (m n : Nat) (i1 : Int) (M1 : Nat → Nat → Int32), n + m = 4 → i1 = n → gBk_ M M1 (3 * n + 0) (3 * n + 0) → zW X (d + 1) 133 1 [.iload 1, .bipush 4, .if_icmp .ge 3] [.ref 188, iv i1] [] (gH k M1) Q := by
  intro m
  induction m with
  | zero =>
    intro n i1 M1 hnm h1 hI
    refine wP (ls' := [.ref 188, iv i1]) (st' := [iv i1]) rfl rfl ?_
    refine wP (ls' := [.ref 188, iv i1]) (st' := [iv 4, iv i1]) rfl rfl ?_
    refine wIfc (n1 := 3) rfl bk_133_3 bk_133_2 (by omega) (by omega) (fun g0 => ?_) (fun g0 => ?_)
    · replace g0 : 4 ≤ i1 := g0
      exact hx i1 M1 (by omega) (by rw [show n = 4 by omega] at hI; exact hI)
    · replace g0 : ¬ (4 ≤ i1) := g0
      exact absurd g0 (by omega)
  | succ m ih =>
    intro n i1 M1 hnm h1 hI
    have en : (i1).toNat = n := by omega
    refine wP (ls' := [.ref 188, iv i1]) (st' := [iv i1]) rfl rfl ?_
    refine wP (ls' := [.ref 188, iv i1]) (st' := [iv 4, iv i1]) rfl rfl ?_
    refine wIfc (n1 := 3) rfl bk_133_3 bk_133_2 (by omega) (by omega) (fun g0 => ?_) (fun g0 => ?_)
    · replace g0 : 4 ≤ i1 := g0
      exact absurd g0 (by omega)
    · replace g0 : ¬ (4 ≤ i1) := g0
      refine wP (ls' := [.ref 188, iv i1]) (st' := [.ref 188]) rfl rfl ?_
      refine wGetR hk (r := 204) (by decide +kernel) ?_
      refine wP (ls' := [.ref 188, iv i1]) (st' := [iv i1, .ref 204]) rfl rfl ?_
      refine wP (ls' := [.ref 188, iv i1]) (st' := [.ref 188, iv i1, .ref 204]) rfl rfl ?_
      refine wP (ls' := [.ref 188, iv i1]) (st' := [.ref 188, .ref 188, iv i1, .ref 204]) rfl rfl ?_
      refine wGetR hk (r := 204) (by decide +kernel) ?_
      refine wP (ls' := [.ref 188, iv i1]) (st' := [iv i1, .ref 204, .ref 188, iv i1, .ref 204]) rfl rfl ?_
      refine wIld hk (l := 5) (e := (M1 204 (i1).toNat).toInt) (by decide +kernel) (by omega) (by omega) (iE _) ?_
      refine wCall hk (q := 132) (na := 1) (a := 188) (as := [iv (M1 204 (i1).toNat).toInt]) (t := [iv i1, .ref 204]) rfl (by decide +kernel) (by decide) (by decide +kernel) (Nat.le_of_ble_eq_true rfl) rfl rfl (zRn.mono (h132_b hk (t := 3 * n + 0 + 0) hI hP (by omega)) (fun rv h' hq => ?_))
      obtain ⟨N0, rfl, rfl, H0⟩ := hq
      refine ⟨rfl, ?_⟩
      show zW X _ 133 2 [.iastore, .aload 0, .getfield 127712142, .iload 1, .aload 0, .aload 0, .getfield 127712142, .iload 1, .iaload, .invokevirtual 1859132, .iastore, .aload 0, .getfield 128812186, .iload 1, .aload 0, .aload 0, .getfield 128812186, .iload 1, .iaload, .invokevirtual 1859132, .iastore, .iinc 1 1, .goto 1] [.ref 188, iv i1] [iv (M 229 (3 * n + 0 + 0)).toInt, iv i1, .ref 204] (gH k N0) _
      refine wIst hk (l := 5) (by decide +kernel) (by omega) (by omega) ?_
      refine wP (ls' := [.ref 188, iv i1]) (st' := [.ref 188]) rfl rfl ?_
      refine wGetR hk (r := 209) (by decide +kernel) ?_
      refine wP (ls' := [.ref 188, iv i1]) (st' := [iv i1, .ref 209]) rfl rfl ?_
      refine wP (ls' := [.ref 188, iv i1]) (st' := [.ref 188, iv i1, .ref 209]) rfl rfl ?_
      refine wP (ls' := [.ref 188, iv i1]) (st' := [.ref 188, .ref 188, iv i1, .ref 209]) rfl rfl ?_
      refine wGetR hk (r := 209) (by decide +kernel) ?_
      refine wP (ls' := [.ref 188, iv i1]) (st' := [iv i1, .ref 209, .ref 188, iv i1, .ref 209]) rfl rfl ?_
      refine wIld hk (l := 5) (e := (N0 209 (i1).toNat).toInt) (by decide +kernel) (by omega) (by omega) (by rw [aPut_o (by decide)]; exact iE _) ?_
      refine wCall hk (q := 132) (na := 1) (a := 188) (as := [iv (N0 209 (i1).toNat).toInt]) (t := [iv i1, .ref 209]) rfl (by decide +kernel) (by decide) (by decide +kernel) (Nat.le_of_ble_eq_true rfl) rfl rfl (zRn.mono (h132_b hk (t := 3 * n + 0 + 1) (gBk_wr (w := 3 * n + 0 + 0) H0 (by decide) (by rw [en, gPos_204 (by omega)] <;> omega) (by omega) (iE _).symm) hP (by omega)) (fun rv h' hq => ?_))
      obtain ⟨N1, rfl, rfl, H1⟩ := hq
      refine ⟨rfl, ?_⟩
      show zW X _ 133 2 [.iastore, .aload 0, .getfield 128812186, .iload 1, .aload 0, .aload 0, .getfield 128812186, .iload 1, .iaload, .invokevirtual 1859132, .iastore, .iinc 1 1, .goto 1] [.ref 188, iv i1] [iv (M 229 (3 * n + 0 + 1)).toInt, iv i1, .ref 209] (gH k N1) _
      refine wIst hk (l := 5) (by decide +kernel) (by omega) (by omega) ?_
      refine wP (ls' := [.ref 188, iv i1]) (st' := [.ref 188]) rfl rfl ?_
      refine wGetR hk (r := 213) (by decide +kernel) ?_
      refine wP (ls' := [.ref 188, iv i1]) (st' := [iv i1, .ref 213]) rfl rfl ?_
      refine wP (ls' := [.ref 188, iv i1]) (st' := [.ref 188, iv i1, .ref 213]) rfl rfl ?_
      refine wP (ls' := [.ref 188, iv i1]) (st' := [.ref 188, .ref 188, iv i1, .ref 213]) rfl rfl ?_
      refine wGetR hk (r := 213) (by decide +kernel) ?_
      refine wP (ls' := [.ref 188, iv i1]) (st' := [iv i1, .ref 213, .ref 188, iv i1, .ref 213]) rfl rfl ?_
      refine wIld hk (l := 5) (e := (N1 213 (i1).toNat).toInt) (by decide +kernel) (by omega) (by omega) (by rw [aPut_o (by decide)]; exact iE _) ?_
      refine wCall hk (q := 132) (na := 1) (a := 188) (as := [iv (N1 213 (i1).toNat).toInt]) (t := [iv i1, .ref 213]) rfl (by decide +kernel) (by decide) (by decide +kernel) (Nat.le_of_ble_eq_true rfl) rfl rfl (zRn.mono (h132_b hk (t := 3 * n + 0 + 2) (gBk_wr (w := 3 * n + 0 + 1) H1 (by decide) (by rw [en, gPos_209 (by omega)] <;> omega) (by omega) (iE _).symm) hP (by omega)) (fun rv h' hq => ?_))
      obtain ⟨N2, rfl, rfl, H2⟩ := hq
      refine ⟨rfl, ?_⟩
      show zW X _ 133 2 [.iastore, .iinc 1 1, .goto 1] [.ref 188, iv i1] [iv (M 229 (3 * n + 0 + 2)).toInt, iv i1, .ref 213] (gH k N2) _
      refine wIst hk (l := 5) (by decide +kernel) (by omega) (by omega) ?_
      refine wInc (ls' := [.ref 188, iv (i1 + 1)]) rfl rfl ?_
      refine wGoto (n1 := 1) rfl bk_133_1 ?_
      exact ih (n + 1) (i1 + 1) (aPut N2 213 (i1).toNat (Int32.ofInt (M 229 (3 * n + 0 + 2)).toInt)) (by omega) (by omega) (by rw [show 3 * (n + 1) + 0 = 3 * n + 0 + 2 + 1 by omega]; exact (gBk_wr (w := 3 * n + 0 + 2) H2 (by decide) (by rw [en, gPos_213 (by omega)] <;> omega) (by omega) (iE _).symm))
theorem h133_b1 {X : aX} {d : Nat} {k : Nat → aK} (hk : gKs k) {M : Nat → Nat → Int32} (hP : (M 188 69).toInt = 0) {Q : Option Value → aH → Prop} (hx : ∀ (i1 : Int) (M1 : Nat → Nat → Int32), -2147483648 ≤ i1 ∧ i1 ≤ 2147483647 → gBk_ M M1 (4 * 64 + 12) (4 * 64 + 12) → zW X (d + 1) 133 6 [.bipush 0, .istore 1] [.ref 188, iv i1] [] (gH k M1) Q) :
    ∀ (m n : Nat) (i1 : Int) (M1 : Nat → Nat → Int32), n + m = 64 → i1 = n → gBk_ M M1 (4 * n + 12) (4 * n + 12) → zW X (d + 1) 133 4 [.iload 1, .bipush 64, .if_icmp .ge 6] [.ref 188, iv i1] [] (gH k M1) Q := by
  intro m
  induction m with
  | zero =>
    intro n i1 M1 hnm h1 hI
    refine wP (ls' := [.ref 188, iv i1]) (st' := [iv i1]) rfl rfl ?_
    refine wP (ls' := [.ref 188, iv i1]) (st' := [iv 64, iv i1]) rfl rfl ?_
    refine wIfc (n1 := 6) rfl bk_133_6 bk_133_5 (by omega) (by omega) (fun g0 => ?_) (fun g0 => ?_)
    · replace g0 : 64 ≤ i1 := g0
      exact hx i1 M1 (by omega) (by rw [show n = 64 by omega] at hI; exact hI)
    · replace g0 : ¬ (64 ≤ i1) := g0
      exact absurd g0 (by omega)
  | succ m ih =>
    intro n i1 M1 hnm h1 hI
    have en : (i1).toNat = n := by omega
    refine wP (ls' := [.ref 188, iv i1]) (st' := [iv i1]) rfl rfl ?_
    refine wP (ls' := [.ref 188, iv i1]) (st' := [iv 64, iv i1]) rfl rfl ?_
    refine wIfc (n1 := 6) rfl bk_133_6 bk_133_5 (by omega) (by omega) (fun g0 => ?_) (fun g0 => ?_)
    · replace g0 : 64 ≤ i1 := g0
      exact absurd g0 (by omega)
    · replace g0 : ¬ (64 ≤ i1) := g0
      refine wP (ls' := [.ref 188, iv i1]) (st' := [.ref 188]) rfl rfl ?_
      refine wGetR hk (r := 205) (by decide +kernel) ?_
      refine wP (ls' := [.ref 188, iv i1]) (st' := [iv i1, .ref 205]) rfl rfl ?_
      refine wP (ls' := [.ref 188, iv i1]) (st' := [.ref 188, iv i1, .ref 205]) rfl rfl ?_
      refine wP (ls' := [.ref 188, iv i1]) (st' := [.ref 188, .ref 188, iv i1, .ref 205]) rfl rfl ?_
      refine wGetR hk (r := 205) (by decide +kernel) ?_
      refine wP (ls' := [.ref 188, iv i1]) (st' := [iv i1, .ref 205, .ref 188, iv i1, .ref 205]) rfl rfl ?_
      refine wIld hk (l := 80) (e := (M1 205 (i1).toNat).toInt) (by decide +kernel) (by omega) (by omega) (iE _) ?_
      refine wCall hk (q := 132) (na := 1) (a := 188) (as := [iv (M1 205 (i1).toNat).toInt]) (t := [iv i1, .ref 205]) rfl (by decide +kernel) (by decide) (by decide +kernel) (Nat.le_of_ble_eq_true rfl) rfl rfl (zRn.mono (h132_b hk (t := 4 * n + 12 + 0) hI hP (by omega)) (fun rv h' hq => ?_))
      obtain ⟨N0, rfl, rfl, H0⟩ := hq
      refine ⟨rfl, ?_⟩
      show zW X _ 133 5 [.iastore, .aload 0, .getfield 127412130, .iload 1, .aload 0, .aload 0, .getfield 127412130, .iload 1, .iaload, .invokevirtual 1859132, .iastore, .aload 0, .getfield 127512134, .iload 1, .aload 0, .aload 0, .getfield 127512134, .iload 1, .iaload, .invokevirtual 1859132, .iastore, .aload 0, .getfield 127612138, .iload 1, .aload 0, .aload 0, .getfield 127612138, .iload 1, .iaload, .invokevirtual 1859132, .iastore, .iinc 1 1, .goto 4] [.ref 188, iv i1] [iv (M 229 (4 * n + 12 + 0)).toInt, iv i1, .ref 205] (gH k N0) _
      refine wIst hk (l := 80) (by decide +kernel) (by omega) (by omega) ?_
      refine wP (ls' := [.ref 188, iv i1]) (st' := [.ref 188]) rfl rfl ?_
      refine wGetR hk (r := 206) (by decide +kernel) ?_
      refine wP (ls' := [.ref 188, iv i1]) (st' := [iv i1, .ref 206]) rfl rfl ?_
      refine wP (ls' := [.ref 188, iv i1]) (st' := [.ref 188, iv i1, .ref 206]) rfl rfl ?_
      refine wP (ls' := [.ref 188, iv i1]) (st' := [.ref 188, .ref 188, iv i1, .ref 206]) rfl rfl ?_
      refine wGetR hk (r := 206) (by decide +kernel) ?_
      refine wP (ls' := [.ref 188, iv i1]) (st' := [iv i1, .ref 206, .ref 188, iv i1, .ref 206]) rfl rfl ?_
      refine wIld hk (l := 80) (e := (N0 206 (i1).toNat).toInt) (by decide +kernel) (by omega) (by omega) (by rw [aPut_o (by decide)]; exact iE _) ?_
      refine wCall hk (q := 132) (na := 1) (a := 188) (as := [iv (N0 206 (i1).toNat).toInt]) (t := [iv i1, .ref 206]) rfl (by decide +kernel) (by decide) (by decide +kernel) (Nat.le_of_ble_eq_true rfl) rfl rfl (zRn.mono (h132_b hk (t := 4 * n + 12 + 1) (gBk_wr (w := 4 * n + 12 + 0) H0 (by decide) (by rw [en, gPos_205 (by omega)] <;> omega) (by omega) (iE _).symm) hP (by omega)) (fun rv h' hq => ?_))
      obtain ⟨N1, rfl, rfl, H1⟩ := hq
      refine ⟨rfl, ?_⟩
      show zW X _ 133 5 [.iastore, .aload 0, .getfield 127512134, .iload 1, .aload 0, .aload 0, .getfield 127512134, .iload 1, .iaload, .invokevirtual 1859132, .iastore, .aload 0, .getfield 127612138, .iload 1, .aload 0, .aload 0, .getfield 127612138, .iload 1, .iaload, .invokevirtual 1859132, .iastore, .iinc 1 1, .goto 4] [.ref 188, iv i1] [iv (M 229 (4 * n + 12 + 1)).toInt, iv i1, .ref 206] (gH k N1) _
      refine wIst hk (l := 80) (by decide +kernel) (by omega) (by omega) ?_
      refine wP (ls' := [.ref 188, iv i1]) (st' := [.ref 188]) rfl rfl ?_
      refine wGetR hk (r := 207) (by decide +kernel) ?_
      refine wP (ls' := [.ref 188, iv i1]) (st' := [iv i1, .ref 207]) rfl rfl ?_
      refine wP (ls' := [.ref 188, iv i1]) (st' := [.ref 188, iv i1, .ref 207]) rfl rfl ?_
      refine wP (ls' := [.ref 188, iv i1]) (st' := [.ref 188, .ref 188, iv i1, .ref 207]) rfl rfl ?_
      refine wGetR hk (r := 207) (by decide +kernel) ?_
      refine wP (ls' := [.ref 188, iv i1]) (st' := [iv i1, .ref 207, .ref 188, iv i1, .ref 207]) rfl rfl ?_
      refine wIld hk (l := 80) (e := (N1 207 (i1).toNat).toInt) (by decide +kernel) (by omega) (by omega) (by rw [aPut_o (by decide)]; exact iE _) ?_
      refine wCall hk (q := 132) (na := 1) (a := 188) (as := [iv (N1 207 (i1).toNat).toInt]) (t := [iv i1, .ref 207]) rfl (by decide +kernel) (by decide) (by decide +kernel) (Nat.le_of_ble_eq_true rfl) rfl rfl (zRn.mono (h132_b hk (t := 4 * n + 12 + 2) (gBk_wr (w := 4 * n + 12 + 1) H1 (by decide) (by rw [en, gPos_206 (by omega)] <;> omega) (by omega) (iE _).symm) hP (by omega)) (fun rv h' hq => ?_))
      obtain ⟨N2, rfl, rfl, H2⟩ := hq
      refine ⟨rfl, ?_⟩
      show zW X _ 133 5 [.iastore, .aload 0, .getfield 127612138, .iload 1, .aload 0, .aload 0, .getfield 127612138, .iload 1, .iaload, .invokevirtual 1859132, .iastore, .iinc 1 1, .goto 4] [.ref 188, iv i1] [iv (M 229 (4 * n + 12 + 2)).toInt, iv i1, .ref 207] (gH k N2) _
      refine wIst hk (l := 80) (by decide +kernel) (by omega) (by omega) ?_
      refine wP (ls' := [.ref 188, iv i1]) (st' := [.ref 188]) rfl rfl ?_
      refine wGetR hk (r := 208) (by decide +kernel) ?_
      refine wP (ls' := [.ref 188, iv i1]) (st' := [iv i1, .ref 208]) rfl rfl ?_
      refine wP (ls' := [.ref 188, iv i1]) (st' := [.ref 188, iv i1, .ref 208]) rfl rfl ?_
      refine wP (ls' := [.ref 188, iv i1]) (st' := [.ref 188, .ref 188, iv i1, .ref 208]) rfl rfl ?_
      refine wGetR hk (r := 208) (by decide +kernel) ?_
      refine wP (ls' := [.ref 188, iv i1]) (st' := [iv i1, .ref 208, .ref 188, iv i1, .ref 208]) rfl rfl ?_
      refine wIld hk (l := 80) (e := (N2 208 (i1).toNat).toInt) (by decide +kernel) (by omega) (by omega) (by rw [aPut_o (by decide)]; exact iE _) ?_
      refine wCall hk (q := 132) (na := 1) (a := 188) (as := [iv (N2 208 (i1).toNat).toInt]) (t := [iv i1, .ref 208]) rfl (by decide +kernel) (by decide) (by decide +kernel) (Nat.le_of_ble_eq_true rfl) rfl rfl (zRn.mono (h132_b hk (t := 4 * n + 12 + 3) (gBk_wr (w := 4 * n + 12 + 2) H2 (by decide) (by rw [en, gPos_207 (by omega)] <;> omega) (by omega) (iE _).symm) hP (by omega)) (fun rv h' hq => ?_))
      obtain ⟨N3, rfl, rfl, H3⟩ := hq
      refine ⟨rfl, ?_⟩
      show zW X _ 133 5 [.iastore, .iinc 1 1, .goto 4] [.ref 188, iv i1] [iv (M 229 (4 * n + 12 + 3)).toInt, iv i1, .ref 208] (gH k N3) _
      refine wIst hk (l := 80) (by decide +kernel) (by omega) (by omega) ?_
      refine wInc (ls' := [.ref 188, iv (i1 + 1)]) rfl rfl ?_
      refine wGoto (n1 := 4) rfl bk_133_4 ?_
      exact ih (n + 1) (i1 + 1) (aPut N3 208 (i1).toNat (Int32.ofInt (M 229 (4 * n + 12 + 3)).toInt)) (by omega) (by omega) (by rw [show 4 * (n + 1) + 12 = 4 * n + 12 + 3 + 1 by omega]; exact (gBk_wr (w := 4 * n + 12 + 3) H3 (by decide) (by rw [en, gPos_208 (by omega)] <;> omega) (by omega) (iE _).symm))
theorem h133_b2 {X : aX} {d : Nat} {k : Nat → aK} (hk : gKs k) {M : Nat → Nat → Int32} (hP : (M 188 69).toInt = 0) {Q : Option Value → aH → Prop} (hx : ∀ (i1 : Int) (M1 : Nat → Nat → Int32), -2147483648 ≤ i1 ∧ i1 ≤ 2147483647 → gBk_ M M1 (2 * 2000 + 268) (2 * 2000 + 268) → zW X (d + 1) 133 9 [.bipush 0, .istore 1] [.ref 188, iv i1] [] (gH k M1) Q) :
    ∀ (m n : Nat) (i1 : Int) (M1 : Nat → Nat → Int32), n + m = 2000 → i1 = n → gBk_ M M1 (2 * n + 268) (2 * n + 268) → zW X (d + 1) 133 7 [.iload 1, .bipush 2000, .if_icmp .ge 9] [.ref 188, iv i1] [] (gH k M1) Q := by
  intro m
  induction m with
  | zero =>
    intro n i1 M1 hnm h1 hI
    refine wP (ls' := [.ref 188, iv i1]) (st' := [iv i1]) rfl rfl ?_
    refine wP (ls' := [.ref 188, iv i1]) (st' := [iv 2000, iv i1]) rfl rfl ?_
    refine wIfc (n1 := 9) rfl bk_133_9 bk_133_8 (by omega) (by omega) (fun g0 => ?_) (fun g0 => ?_)
    · replace g0 : 2000 ≤ i1 := g0
      exact hx i1 M1 (by omega) (by rw [show n = 2000 by omega] at hI; exact hI)
    · replace g0 : ¬ (2000 ≤ i1) := g0
      exact absurd g0 (by omega)
  | succ m ih =>
    intro n i1 M1 hnm h1 hI
    have en : (i1).toNat = n := by omega
    refine wP (ls' := [.ref 188, iv i1]) (st' := [iv i1]) rfl rfl ?_
    refine wP (ls' := [.ref 188, iv i1]) (st' := [iv 2000, iv i1]) rfl rfl ?_
    refine wIfc (n1 := 9) rfl bk_133_9 bk_133_8 (by omega) (by omega) (fun g0 => ?_) (fun g0 => ?_)
    · replace g0 : 2000 ≤ i1 := g0
      exact absurd g0 (by omega)
    · replace g0 : ¬ (2000 ≤ i1) := g0
      refine wP (ls' := [.ref 188, iv i1]) (st' := [.ref 188]) rfl rfl ?_
      refine wGetR hk (r := 210) (by decide +kernel) ?_
      refine wP (ls' := [.ref 188, iv i1]) (st' := [iv i1, .ref 210]) rfl rfl ?_
      refine wP (ls' := [.ref 188, iv i1]) (st' := [.ref 188, iv i1, .ref 210]) rfl rfl ?_
      refine wP (ls' := [.ref 188, iv i1]) (st' := [.ref 188, .ref 188, iv i1, .ref 210]) rfl rfl ?_
      refine wGetR hk (r := 210) (by decide +kernel) ?_
      refine wP (ls' := [.ref 188, iv i1]) (st' := [iv i1, .ref 210, .ref 188, iv i1, .ref 210]) rfl rfl ?_
      refine wIld hk (l := 2500) (e := (M1 210 (i1).toNat).toInt) (by decide +kernel) (by omega) (by omega) (iE _) ?_
      refine wCall hk (q := 132) (na := 1) (a := 188) (as := [iv (M1 210 (i1).toNat).toInt]) (t := [iv i1, .ref 210]) rfl (by decide +kernel) (by decide) (by decide +kernel) (Nat.le_of_ble_eq_true rfl) rfl rfl (zRn.mono (h132_b hk (t := 2 * n + 268 + 0) hI hP (by omega)) (fun rv h' hq => ?_))
      obtain ⟨N0, rfl, rfl, H0⟩ := hq
      refine ⟨rfl, ?_⟩
      show zW X _ 133 8 [.iastore, .aload 0, .getfield 127912150, .iload 1, .aload 0, .aload 0, .getfield 127912150, .iload 1, .iaload, .invokevirtual 1859132, .iastore, .iinc 1 1, .goto 7] [.ref 188, iv i1] [iv (M 229 (2 * n + 268 + 0)).toInt, iv i1, .ref 210] (gH k N0) _
      refine wIst hk (l := 2500) (by decide +kernel) (by omega) (by omega) ?_
      refine wP (ls' := [.ref 188, iv i1]) (st' := [.ref 188]) rfl rfl ?_
      refine wGetR hk (r := 211) (by decide +kernel) ?_
      refine wP (ls' := [.ref 188, iv i1]) (st' := [iv i1, .ref 211]) rfl rfl ?_
      refine wP (ls' := [.ref 188, iv i1]) (st' := [.ref 188, iv i1, .ref 211]) rfl rfl ?_
      refine wP (ls' := [.ref 188, iv i1]) (st' := [.ref 188, .ref 188, iv i1, .ref 211]) rfl rfl ?_
      refine wGetR hk (r := 211) (by decide +kernel) ?_
      refine wP (ls' := [.ref 188, iv i1]) (st' := [iv i1, .ref 211, .ref 188, iv i1, .ref 211]) rfl rfl ?_
      refine wIld hk (l := 2500) (e := (N0 211 (i1).toNat).toInt) (by decide +kernel) (by omega) (by omega) (by rw [aPut_o (by decide)]; exact iE _) ?_
      refine wCall hk (q := 132) (na := 1) (a := 188) (as := [iv (N0 211 (i1).toNat).toInt]) (t := [iv i1, .ref 211]) rfl (by decide +kernel) (by decide) (by decide +kernel) (Nat.le_of_ble_eq_true rfl) rfl rfl (zRn.mono (h132_b hk (t := 2 * n + 268 + 1) (gBk_wr (w := 2 * n + 268 + 0) H0 (by decide) (by rw [en, gPos_210 (by omega)] <;> omega) (by omega) (iE _).symm) hP (by omega)) (fun rv h' hq => ?_))
      obtain ⟨N1, rfl, rfl, H1⟩ := hq
      refine ⟨rfl, ?_⟩
      show zW X _ 133 8 [.iastore, .iinc 1 1, .goto 7] [.ref 188, iv i1] [iv (M 229 (2 * n + 268 + 1)).toInt, iv i1, .ref 211] (gH k N1) _
      refine wIst hk (l := 2500) (by decide +kernel) (by omega) (by omega) ?_
      refine wInc (ls' := [.ref 188, iv (i1 + 1)]) rfl rfl ?_
      refine wGoto (n1 := 7) rfl bk_133_7 ?_
      exact ih (n + 1) (i1 + 1) (aPut N1 211 (i1).toNat (Int32.ofInt (M 229 (2 * n + 268 + 1)).toInt)) (by omega) (by omega) (by rw [show 2 * (n + 1) + 268 = 2 * n + 268 + 1 + 1 by omega]; exact (gBk_wr (w := 2 * n + 268 + 1) H1 (by decide) (by rw [en, gPos_211 (by omega)] <;> omega) (by omega) (iE _).symm))
theorem h133_b3 {X : aX} {d : Nat} {k : Nat → aK} (hk : gKs k) {M : Nat → Nat → Int32} (hP : (M 188 69).toInt = 0) {Q : Option Value → aH → Prop} (hx : ∀ (i1 : Int) (M1 : Nat → Nat → Int32), -2147483648 ≤ i1 ∧ i1 ≤ 2147483647 → gBk_ M M1 (2 * 96 + 4268) (2 * 96 + 4268) → zW X (d + 1) 133 12 [.return_] [.ref 188, iv i1] [] (gH k M1) Q) :
    ∀ (m n : Nat) (i1 : Int) (M1 : Nat → Nat → Int32), n + m = 96 → i1 = n → gBk_ M M1 (2 * n + 4268) (2 * n + 4268) → zW X (d + 1) 133 10 [.iload 1, .bipush 96, .if_icmp .ge 12] [.ref 188, iv i1] [] (gH k M1) Q := by
  intro m
  induction m with
  | zero =>
    intro n i1 M1 hnm h1 hI
    refine wP (ls' := [.ref 188, iv i1]) (st' := [iv i1]) rfl rfl ?_
    refine wP (ls' := [.ref 188, iv i1]) (st' := [iv 96, iv i1]) rfl rfl ?_
    refine wIfc (n1 := 12) rfl bk_133_12 bk_133_11 (by omega) (by omega) (fun g0 => ?_) (fun g0 => ?_)
    · replace g0 : 96 ≤ i1 := g0
      exact hx i1 M1 (by omega) (by rw [show n = 96 by omega] at hI; exact hI)
    · replace g0 : ¬ (96 ≤ i1) := g0
      exact absurd g0 (by omega)
  | succ m ih =>
    intro n i1 M1 hnm h1 hI
    have en : (i1).toNat = n := by omega
    refine wP (ls' := [.ref 188, iv i1]) (st' := [iv i1]) rfl rfl ?_
    refine wP (ls' := [.ref 188, iv i1]) (st' := [iv 96, iv i1]) rfl rfl ?_
    refine wIfc (n1 := 12) rfl bk_133_12 bk_133_11 (by omega) (by omega) (fun g0 => ?_) (fun g0 => ?_)
    · replace g0 : 96 ≤ i1 := g0
      exact absurd g0 (by omega)
    · replace g0 : ¬ (96 ≤ i1) := g0
      refine wP (ls' := [.ref 188, iv i1]) (st' := [.ref 188]) rfl rfl ?_
      refine wGetR hk (r := 214) (by decide +kernel) ?_
      refine wP (ls' := [.ref 188, iv i1]) (st' := [iv i1, .ref 214]) rfl rfl ?_
      refine wP (ls' := [.ref 188, iv i1]) (st' := [.ref 188, iv i1, .ref 214]) rfl rfl ?_
      refine wP (ls' := [.ref 188, iv i1]) (st' := [.ref 188, .ref 188, iv i1, .ref 214]) rfl rfl ?_
      refine wGetR hk (r := 214) (by decide +kernel) ?_
      refine wP (ls' := [.ref 188, iv i1]) (st' := [iv i1, .ref 214, .ref 188, iv i1, .ref 214]) rfl rfl ?_
      refine wIld hk (l := 120) (e := (M1 214 (i1).toNat).toInt) (by decide +kernel) (by omega) (by omega) (iE _) ?_
      refine wCall hk (q := 132) (na := 1) (a := 188) (as := [iv (M1 214 (i1).toNat).toInt]) (t := [iv i1, .ref 214]) rfl (by decide +kernel) (by decide) (by decide +kernel) (Nat.le_of_ble_eq_true rfl) rfl rfl (zRn.mono (h132_b hk (t := 2 * n + 4268 + 0) hI hP (by omega)) (fun rv h' hq => ?_))
      obtain ⟨N0, rfl, rfl, H0⟩ := hq
      refine ⟨rfl, ?_⟩
      show zW X _ 133 11 [.iastore, .aload 0, .getfield 129012194, .iload 1, .aload 0, .aload 0, .getfield 129012194, .iload 1, .iaload, .invokevirtual 1859132, .iastore, .iinc 1 1, .goto 10] [.ref 188, iv i1] [iv (M 229 (2 * n + 4268 + 0)).toInt, iv i1, .ref 214] (gH k N0) _
      refine wIst hk (l := 120) (by decide +kernel) (by omega) (by omega) ?_
      refine wP (ls' := [.ref 188, iv i1]) (st' := [.ref 188]) rfl rfl ?_
      refine wGetR hk (r := 215) (by decide +kernel) ?_
      refine wP (ls' := [.ref 188, iv i1]) (st' := [iv i1, .ref 215]) rfl rfl ?_
      refine wP (ls' := [.ref 188, iv i1]) (st' := [.ref 188, iv i1, .ref 215]) rfl rfl ?_
      refine wP (ls' := [.ref 188, iv i1]) (st' := [.ref 188, .ref 188, iv i1, .ref 215]) rfl rfl ?_
      refine wGetR hk (r := 215) (by decide +kernel) ?_
      refine wP (ls' := [.ref 188, iv i1]) (st' := [iv i1, .ref 215, .ref 188, iv i1, .ref 215]) rfl rfl ?_
      refine wIld hk (l := 120) (e := (N0 215 (i1).toNat).toInt) (by decide +kernel) (by omega) (by omega) (by rw [aPut_o (by decide)]; exact iE _) ?_
      refine wCall hk (q := 132) (na := 1) (a := 188) (as := [iv (N0 215 (i1).toNat).toInt]) (t := [iv i1, .ref 215]) rfl (by decide +kernel) (by decide) (by decide +kernel) (Nat.le_of_ble_eq_true rfl) rfl rfl (zRn.mono (h132_b hk (t := 2 * n + 4268 + 1) (gBk_wr (w := 2 * n + 4268 + 0) H0 (by decide) (by rw [en, gPos_214 (by omega)] <;> omega) (by omega) (iE _).symm) hP (by omega)) (fun rv h' hq => ?_))
      obtain ⟨N1, rfl, rfl, H1⟩ := hq
      refine ⟨rfl, ?_⟩
      show zW X _ 133 11 [.iastore, .iinc 1 1, .goto 10] [.ref 188, iv i1] [iv (M 229 (2 * n + 4268 + 1)).toInt, iv i1, .ref 215] (gH k N1) _
      refine wIst hk (l := 120) (by decide +kernel) (by omega) (by omega) ?_
      refine wInc (ls' := [.ref 188, iv (i1 + 1)]) rfl rfl ?_
      refine wGoto (n1 := 10) rfl bk_133_10 ?_
      exact ih (n + 1) (i1 + 1) (aPut N1 215 (i1).toNat (Int32.ofInt (M 229 (2 * n + 4268 + 1)).toInt)) (by omega) (by omega) (by rw [show 2 * (n + 1) + 4268 = 2 * n + 4268 + 1 + 1 by omega]; exact (gBk_wr (w := 2 * n + 4268 + 1) H1 (by decide) (by rw [en, gPos_215 (by omega)] <;> omega) (by omega) (iE _).symm))
theorem h133_p {X : aX} {d : Nat} {k : Nat → aK} (hk : gKs k) {M : Nat → Nat → Int32} (hP : (M 188 69).toInt = 1) (hA : (M 188 79).toInt = 0) :
    zRn X (d + 1 + 1) 133 [.ref 188] (gH k M) (fun rv h' => ∃ M', rv = none ∧ h' = gH k M' ∧ gTk M M' (2 * 96 + 4268)) := by
  have h0 : gTk M M (3 * 0 + 0) := ⟨fun _ _ _ => rfl, fun _ _ => rfl, hA, fun a i h => absurd h (by omega), fun _ _ => rfl⟩
  refine wEnt (n := 2) (ls := [.ref 188, aD]) bk_133_0 (by decide +kernel) rfl rfl rfl ?_
  refine wP (ls' := [.ref 188, aD]) (st' := [iv 0]) rfl rfl ?_
  refine wP (ls' := [.ref 188, iv 0]) (st' := []) rfl rfl ?_
  refine zW_fall bk_133_1 ?_
  refine h133_p0 hk hP (fun i0 N0 r0 H0 => ?_) 4 0 0 M (by omega) rfl h0
  refine wP (ls' := [.ref 188, iv i0]) (st' := [iv 0]) rfl rfl ?_
  refine wP (ls' := [.ref 188, iv 0]) (st' := []) rfl rfl ?_
  refine zW_fall bk_133_4 ?_
  refine h133_p1 hk hP (fun i1 N1 r1 H1 => ?_) 64 0 0 N0 (by omega) rfl (by rw [show 4 * 0 + 12 = 3 * 4 + 0 by omega]; exact H0)
  refine wP (ls' := [.ref 188, iv i1]) (st' := [iv 0]) rfl rfl ?_
  refine wP (ls' := [.ref 188, iv 0]) (st' := []) rfl rfl ?_
  refine zW_fall bk_133_7 ?_
  refine h133_p2 hk hP (fun i2 N2 r2 H2 => ?_) 2000 0 0 N1 (by omega) rfl (by rw [show 2 * 0 + 268 = 4 * 64 + 12 by omega]; exact H1)
  refine wP (ls' := [.ref 188, iv i2]) (st' := [iv 0]) rfl rfl ?_
  refine wP (ls' := [.ref 188, iv 0]) (st' := []) rfl rfl ?_
  refine zW_fall bk_133_10 ?_
  refine h133_p3 hk hP (fun i3 N3 r3 H3 => ?_) 96 0 0 N2 (by omega) rfl (by rw [show 2 * 0 + 4268 = 2 * 2000 + 268 by omega]; exact H2)
  exact wRet0 (by decide +kernel) ⟨_, rfl, rfl, H3⟩
theorem h133_b {X : aX} {d : Nat} {k : Nat → aK} (hk : gKs k) {M : Nat → Nat → Int32} (hP : (M 188 69).toInt = 0) (hA : (M 188 79).toInt = 0) :
    zRn X (d + 1 + 1) 133 [.ref 188] (gH k M) (fun rv h' => ∃ M', rv = none ∧ h' = gH k M' ∧ gBk_ M M' (2 * 96 + 4268) (2 * 96 + 4268)) := by
  have h0 : gBk_ M M (3 * 0 + 0) (3 * 0 + 0) := ⟨fun _ _ => rfl, hA, fun a i _ => by rw [if_neg (by omega)]⟩
  refine wEnt (n := 2) (ls := [.ref 188, aD]) bk_133_0 (by decide +kernel) rfl rfl rfl ?_
  refine wP (ls' := [.ref 188, aD]) (st' := [iv 0]) rfl rfl ?_
  refine wP (ls' := [.ref 188, iv 0]) (st' := []) rfl rfl ?_
  refine zW_fall bk_133_1 ?_
  refine h133_b0 hk hP (fun i0 N0 r0 H0 => ?_) 4 0 0 M (by omega) rfl h0
  refine wP (ls' := [.ref 188, iv i0]) (st' := [iv 0]) rfl rfl ?_
  refine wP (ls' := [.ref 188, iv 0]) (st' := []) rfl rfl ?_
  refine zW_fall bk_133_4 ?_
  refine h133_b1 hk hP (fun i1 N1 r1 H1 => ?_) 64 0 0 N0 (by omega) rfl (by rw [show 4 * 0 + 12 = 3 * 4 + 0 by omega]; exact H0)
  refine wP (ls' := [.ref 188, iv i1]) (st' := [iv 0]) rfl rfl ?_
  refine wP (ls' := [.ref 188, iv 0]) (st' := []) rfl rfl ?_
  refine zW_fall bk_133_7 ?_
  refine h133_b2 hk hP (fun i2 N2 r2 H2 => ?_) 2000 0 0 N1 (by omega) rfl (by rw [show 2 * 0 + 268 = 4 * 64 + 12 by omega]; exact H1)
  refine wP (ls' := [.ref 188, iv i2]) (st' := [iv 0]) rfl rfl ?_
  refine wP (ls' := [.ref 188, iv 0]) (st' := []) rfl rfl ?_
  refine zW_fall bk_133_10 ?_
  refine h133_b3 hk hP (fun i3 N3 r3 H3 => ?_) 96 0 0 N2 (by omega) rfl (by rw [show 2 * 0 + 4268 = 2 * 2000 + 268 by omega]; exact H2)
  exact wRet0 (by decide +kernel) ⟨_, rfl, rfl, H3⟩
/-! images of texts: the contracts -/
theorem gPos_in {a i : Nat} (h : gPos a i < 9999) : a = 204 ∧ i < 4 ∨ a = 209 ∨ a = 213 ∧ i < 4 ∨ a = 205 ∨ a = 206 ∨ a = 207 ∨ a = 208 ∨ a = 210 ∨ a = 211 ∨ a = 214 ∨ a = 215 := by
  unfold gPos at h
  by_cases c1 : a = 204 ∧ i < 4
  · exact Or.inl c1
  rw [if_neg c1] at h
  by_cases c2 : a = 209 ∧ i < 4
  · exact Or.inr (Or.inl c2.1)
  rw [if_neg c2] at h
  by_cases c3 : a = 213 ∧ i < 4
  · exact Or.inr (Or.inr (Or.inl c3))
  rw [if_neg c3] at h
  by_cases c4 : a = 205 ∧ i < 64
  · omega
  rw [if_neg c4] at h
  by_cases c5 : a = 206 ∧ i < 64
  · omega
  rw [if_neg c5] at h
  by_cases c6 : a = 207 ∧ i < 64
  · omega
  rw [if_neg c6] at h
  by_cases c7 : a = 208 ∧ i < 64
  · omega
  rw [if_neg c7] at h
  by_cases c8 : a = 210 ∧ i < 2000
  · omega
  rw [if_neg c8] at h
  by_cases c9 : a = 211 ∧ i < 2000
  · omega
  rw [if_neg c9] at h
  by_cases c10 : a = 214 ∧ i < 96
  · omega
  rw [if_neg c10] at h
  by_cases c11 : a = 215 ∧ i < 96
  · omega
  rw [if_neg c11] at h
  omega
/-- an entry of images -/
theorem gIm {ρ : Nat → Int} {n f t : Nat} {v : zV} {h : aH} (hG : gG h) : zGp ρ n h (29439, f, t, v) ↔ ∀ i, f ≤ i → i < t → zN ρ n 0 v (h.2.2.2 229 i).toInt := by
  have hp : zPl h 29439 := zPla (a := 229) (by rw [hG.1.1]; decide) (by decide) (gAr hG (by decide) (Or.inl (by decide +kernel)))
  refine ⟨fun k i h1 h2 => ?_, fun k => ⟨hp, fun i h1 h2 _ => ?_⟩⟩
  · have := k.2 i h1 h2 (fun z => absurd (show (29439 : Nat) % 128 = 127 from rfl) z)
    rwa [show (29439 : Nat) = 229 * 128 + 127 from rfl, zMa'] at this
  · show zN ρ n 0 v (zM h (229 * 128 + 127) i).toInt
    rw [zMa']
    exact k i h1 h2
/-- a field of the reference -/
theorem gFd {ρ : Nat → Int} {n f : Nat} {v : zV} {h : aH} (hG : gG h) (hf : f < 127) : zGp ρ n h (188 * 128 + f, 0, 1, v) ↔ zN ρ n 0 v (h.2.2.2 188 f).toInt := by
  have hp : zPl h (188 * 128 + f) := zPlf hf (by rw [hG.1.1]; decide) (by decide) (gFl hG (by decide) (by decide +kernel))
  refine ⟨fun k => ?_, fun k => ⟨hp, fun i h1 h2 _ => ?_⟩⟩
  · have := k.2 0 (Nat.le_refl _) Nat.zero_lt_one (fun _ => rfl)
    rwa [zMf hf] at this
  · show zN ρ n 0 v (zM h (188 * 128 + f) i).toInt
    rw [zMf hf]
    exact k
theorem zNc {ρ : Nat → Int} {n : Nat} {c : Int} {s : Nat} {x : Int} (h : zN ρ n 0 (0, c, .ofNat 0, s) x) : x = c := by
  rcases h with ⟨_, _, h⟩ | ⟨h, _⟩
  · have h : x = c + 0 * ρ s := h
    omega
  · cases h
theorem zNr' {ρ : Nat → Int} {n : Nat} {lo hi : Int} {s : Nat} {x : Int} (h : zN ρ n 0 (1, lo, hi, s) x) : lo ≤ x ∧ x ≤ hi := by
  rcases h with ⟨h, _⟩ | ⟨_, h⟩
  · cases h
  · exact h
def gLsm : List zE := [(29439, 0, 1, (1, (.ofNat 0), (.ofNat 16), 0)), (29439, 3, 4, (1, (.ofNat 0), (.ofNat 16), 0)), (29439, 6, 7, (1, (.ofNat 0), (.ofNat 16), 0)), (29439, 9, 10, (1, (.ofNat 0), (.ofNat 16), 0)), (29439, 2, 3, (1, (.ofNat 0), (.ofNat 24), 0)), (29439, 5, 6, (1, (.ofNat 0), (.ofNat 24), 0)), (29439, 8, 9, (1, (.ofNat 0), (.ofNat 24), 0)), (29439, 11, 12, (1, (.ofNat 0), (.ofNat 24), 0))]
theorem gLsm_ok {ρ : Nat → Int} {n : Nat} {h : aH} (hG : gG h) (h1 : ∀ k, k < 4 → 0 ≤ (h.2.2.2 229 (3 * k)).toInt ∧ (h.2.2.2 229 (3 * k)).toInt ≤ 16) (h2 : ∀ k, k < 4 → 0 ≤ (h.2.2.2 229 (3 * k + 2)).toInt ∧ (h.2.2.2 229 (3 * k + 2)).toInt ≤ 24) : ∀ e ∈ gLsm, zGp ρ n h e := by
  have a1 : ∀ k, k < 4 → zGp ρ n h (29439, 3 * k, 3 * k + 1, (1, (.ofNat 0), (.ofNat 16), 0)) := fun k hk => (gIm hG).mpr (fun i i1 i2 => by
    rw [show i = 3 * k by omega]
    exact znR (w := 0) (h1 k hk).1 (h1 k hk).2)
  have a2 : ∀ k, k < 4 → zGp ρ n h (29439, 3 * k + 2, 3 * k + 2 + 1, (1, (.ofNat 0), (.ofNat 24), 0)) := fun k hk => (gIm hG).mpr (fun i i1 i2 => by
    rw [show i = 3 * k + 2 by omega]
    exact znR (w := 0) (h2 k hk).1 (h2 k hk).2)
  intro e he
  unfold gLsm at he
  simp only [List.mem_cons, List.not_mem_nil, or_false] at he
  rcases he with rfl | rfl | rfl | rfl | rfl | rfl | rfl | rfl
  · exact a1 0 (by decide)
  · exact a1 1 (by decide)
  · exact a1 2 (by decide)
  · exact a1 3 (by decide)
  · exact a2 0 (by decide)
  · exact a2 1 (by decide)
  · exact a2 2 (by decide)
  · exact a2 3 (by decide)
theorem gLsm_of {ρ : Nat → Int} {n : Nat} {h : aH} (hG : gG h) (hL : ∀ e ∈ gLsm, zGp ρ n h e) : (∀ k, k < 4 → 0 ≤ (h.2.2.2 229 (3 * k)).toInt ∧ (h.2.2.2 229 (3 * k)).toInt ≤ 16) ∧ (∀ k, k < 4 → 0 ≤ (h.2.2.2 229 (3 * k + 2)).toInt ∧ (h.2.2.2 229 (3 * k + 2)).toInt ≤ 24) := by
  have g : ∀ f v, (29439, f, f + 1, v) ∈ gLsm → zN ρ n 0 v (h.2.2.2 229 f).toInt := fun f v hm => (gIm hG).mp (hL _ hm) f (Nat.le_refl _) (Nat.lt_succ_self _)
  refine ⟨fun k hk => ?_, fun k hk => ?_⟩
  · rcases (show k = 0 ∨ k = 1 ∨ k = 2 ∨ k = 3 by omega) with rfl | rfl | rfl | rfl
    · exact zNr' (g 0 (1, (.ofNat 0), (.ofNat 16), 0) (by decide +kernel))
    · exact zNr' (g 3 (1, (.ofNat 0), (.ofNat 16), 0) (by decide +kernel))
    · exact zNr' (g 6 (1, (.ofNat 0), (.ofNat 16), 0) (by decide +kernel))
    · exact zNr' (g 9 (1, (.ofNat 0), (.ofNat 16), 0) (by decide +kernel))
  · rcases (show k = 0 ∨ k = 1 ∨ k = 2 ∨ k = 3 by omega) with rfl | rfl | rfl | rfl
    · exact zNr' (g 2 (1, (.ofNat 0), (.ofNat 24), 0) (by decide +kernel))
    · exact zNr' (g 5 (1, (.ofNat 0), (.ofNat 24), 0) (by decide +kernel))
    · exact zNr' (g 8 (1, (.ofNat 0), (.ofNat 24), 0) (by decide +kernel))
    · exact zNr' (g 11 (1, (.ofNat 0), (.ofNat 24), 0) (by decide +kernel))
def gPut : zE := (188 * 128 + 69, 0, 1, (0, (.ofNat 1), (.ofNat 0), 0))
def gPut0 : zE := (188 * 128 + 69, 0, 1, (0, (.ofNat 0), (.ofNat 0), 0))
def gAt (c : Nat) : zE := (188 * 128 + 79, 0, 1, (0, (.ofNat c), (.ofNat 0), 0))
theorem gh_133_0_ok {X : aX} : zCk X (gP []) gG 133 gh_133_0 := by
  intro d ρ as h hd hb hargs hents hK hI hG
  obtain ⟨u0, q0, rfl, g0, hargs⟩ := zGl_cons hargs
  obtain rfl := zGl_nil hargs
  obtain rfl := gRefx g0 (Or.inl (by decide))
  obtain ⟨dd, rfl⟩ : ∃ dd, d = dd + 1 + 1 := ⟨d - 2, by have hd : 3 ≤ d := hd; omega⟩
  have hP : (h.2.2.2 188 69).toInt = 1 := zNc ((gFd hG (by decide)).mp (hents gPut (by decide +kernel)))
  have hA : (h.2.2.2 188 79).toInt = 0 := zNc ((gFd hG (by decide)).mp (hents (gAt 0) (by decide +kernel)))
  have base := h133_p (X := X) (d := dd) (gKs_of hG.1) (M := h.2.2.2) hP hA
  rw [← gH_of hG.1] at base
  refine base.mono (fun rv h' hq => ?_)
  obtain ⟨M', rfl, rfl, m1, m2, m3, m4, m5⟩ := hq
  have ps : ∀ a i j, gPos a i = j → j < 4460 → M' 229 j = h.2.2.2 a i := fun a i j e hj => by rw [← e]; exact m4 a i (by omega)
  have hR : gRm M' := by
    obtain ⟨r0, r1, r2, r3, r4⟩ := hG.2
    refine ⟨fun j hj => by rw [m1 203 (by decide) (by decide)]; exact r0 j hj, by rw [m1 204 (by decide) (by decide), m1 206 (by decide) (by decide), m1 207 (by decide) (by decide), m1 208 (by decide) (by decide), m1 210 (by decide) (by decide), m1 211 (by decide) (by decide)]; exact r1, by rw [m1 214 (by decide) (by decide), m1 215 (by decide) (by decide)]; exact r2, ?_, ?_⟩
    · exact gRows_eq (fun k hk => ps 204 k _ (gPos_204 hk) (by omega)) (fun l hl => ⟨ps 206 l _ (gPos_206 hl) (by omega), ps 207 l _ (gPos_207 hl) (by omega), ps 208 l _ (gPos_208 hl) (by omega)⟩) (fun i hi => ⟨ps 210 i _ (gPos_210 hi) (by omega), ps 211 i _ (gPos_211 hi) (by omega)⟩) r1
    · exact gSteps_eq (fun i hi => ⟨ps 214 i _ (gPos_214 hi) (by omega), ps 215 i _ (gPos_215 hi) (by omega)⟩) r2
  obtain ⟨d1, d2, d3⟩ := gDone (md := gh_133_0.2.2.2.2.2.2) hG hI hR (fun a i => by
    by_cases q : a = 229
    · subst q
      exact Or.inr ⟨229 * 128 + 127, Or.inr ⟨gAr hG (by decide) (Or.inl (by decide +kernel)), rfl⟩, by decide +kernel, iG _⟩
    · by_cases q2 : a = 188
      · subst q2
        by_cases q3 : i = 79
        · subst q3
          exact Or.inr ⟨188 * 128 + 79, Or.inl ⟨gFl hG (by decide) (by decide +kernel), rfl⟩, by decide +kernel, by rw [show gF (188 * 128 + 79) = (0, 8600) from by decide +kernel, m3]; decide⟩
        · exact Or.inl (m2 i q3)
      · exact Or.inl (by rw [m1 a q2 q]))
  have e1 : h.1 = 230 := hG.1.1
  have e2 : h.2.1 = 108808 := hG.1.2.1
  rw [e1, e2] at d1 d2
  have ep : gh_133_0.2.2.2.2.2.1 = [([], [], [], [], gPut :: gAt 4460 :: (gLsm ++ gh_133_0.2.2.2.2.1.drop 10))] := rfl
  have kp : (gh_133_0.2.2.2.2.1.drop 10).all (fun e => Nat.beq e.1 29439 && Nat.ble 4460 e.2.1) = true := by decide +kernel
  refine ⟨⟨([], [], [], [], gPut :: gAt 4460 :: (gLsm ++ gh_133_0.2.2.2.2.1.drop 10)), by rw [ep]; exact List.mem_singleton.mpr rfl, ρ, fun _ _ => rfl, fun i b h => (by cases h), fun e he => (by cases he), trivial, fun e he => ?_⟩, d1, d2, e1.symm, e2.symm, rfl, d3⟩
  have sp : e = gPut ∨ e = gAt 4460 ∨ e ∈ gLsm ∨ (e ∈ gh_133_0.2.2.2.2.1 ∧ e.1 = 29439 ∧ 4460 ≤ e.2.1) := by
    rcases List.mem_cons.mp he with q | he
    · exact Or.inl q
    rcases List.mem_cons.mp he with q | he
    · exact Or.inr (Or.inl q)
    rcases List.mem_append.mp he with q | q
    · exact Or.inr (Or.inr (Or.inl q))
    · obtain ⟨k1, k2⟩ := zAnd (List.all_eq_true.mp kp e q)
      exact Or.inr (Or.inr (Or.inr ⟨List.mem_of_mem_drop q, zbe k1, zbl k2⟩))
  rcases sp with rfl | rfl | q | ⟨q1, q2, q3⟩
  · exact (gFd d2 (by decide)).mpr (znC (by show (M' 188 69).toInt = _; rw [m2 69 (by decide), hP]; rfl))
  · exact (gFd d2 (by decide)).mpr (znC (by show (M' 188 79).toInt = _; rw [m3]; rfl))
  · refine gLsm_ok d2 (fun k hk => ?_) (fun k hk => ?_) e q
    · show 0 ≤ (M' 229 (3 * k)).toInt ∧ (M' 229 (3 * k)).toInt ≤ 16
      rw [ps 204 k _ (gPos_204 hk) (by omega)]
      exact gBa hG hI (by decide) (Or.inl (by decide +kernel)) (l := 5) (by decide +kernel) (by omega) (by decide +kernel)
    · show 0 ≤ (M' 229 (3 * k + 2)).toInt ∧ (M' 229 (3 * k + 2)).toInt ≤ 24
      rw [ps 213 k _ (gPos_213 hk) (by omega)]
      exact gBa hG hI (by decide) (Or.inl (by decide +kernel)) (l := 5) (by decide +kernel) (by omega) (by decide +kernel)
  · obtain ⟨p, f, t, v⟩ := e
    have q2 : p = 29439 := q2
    subst q2
    have q3 : 4460 ≤ f := q3
    refine (gIm d2).mpr (fun i i1 i2 => ?_)
    show zN ρ _ 0 v (M' 229 i).toInt
    rw [m5 i (by omega)]
    exact (gIm hG).mp (hents _ q1) i i1 i2
theorem gh_133_1_ok {X : aX} : zCk X (gP []) gG 133 gh_133_1 := by
  intro d ρ as h hd hb hargs hents hK hI hG
  obtain ⟨u0, q0, rfl, g0, hargs⟩ := zGl_cons hargs
  obtain rfl := zGl_nil hargs
  obtain rfl := gRefx g0 (Or.inl (by decide))
  obtain ⟨dd, rfl⟩ : ∃ dd, d = dd + 1 + 1 := ⟨d - 2, by have hd : 3 ≤ d := hd; omega⟩
  have hP : (h.2.2.2 188 69).toInt = 0 := zNc ((gFd hG (by decide)).mp (hents gPut0 (by decide +kernel)))
  have hA : (h.2.2.2 188 79).toInt = 0 := zNc ((gFd hG (by decide)).mp (hents (gAt 0) (by decide +kernel)))
  have hLm : ∀ e ∈ gLsm, e ∈ gh_133_1.2.2.2.2.1 := by decide +kernel
  obtain ⟨L1, L2⟩ := gLsm_of hG (fun e he => hents e (hLm e he))
  have base := h133_b (X := X) (d := dd) (gKs_of hG.1) (M := h.2.2.2) hP hA
  rw [← gH_of hG.1] at base
  refine base.mono (fun rv h' hq => ?_)
  obtain ⟨M', rfl, rfl, m1, m2, m3⟩ := hq
  have ps : ∀ a i j, gPos a i = j → j < 4460 → a ≠ 188 → M' a i = h.2.2.2 229 j := fun a i j e hj ha => by rw [m3 a i ha, e, if_pos (by omega)]
  have sm : ∀ a i, a ≠ 188 → 9999 ≤ gPos a i → M' a i = h.2.2.2 a i := fun a i ha hp => by rw [m3 a i ha, if_neg (by omega)]
  have o203 : ∀ i, 9999 ≤ gPos 203 i := fun i => by
    by_cases q : gPos 203 i < 9999
    · rcases gPos_in q with q | q | q | q | q | q | q | q | q | q | q <;> omega
    · omega
  have o229 : ∀ i, 9999 ≤ gPos 229 i := fun i => by
    by_cases q : gPos 229 i < 9999
    · rcases gPos_in q with q | q | q | q | q | q | q | q | q | q | q <;> omega
    · omega
  have hR : gRm M' := by
    obtain ⟨r0, r1, r2, r3, r4⟩ := hG.2
    have e229 : ∀ i, M' 229 i = h.2.2.2 229 i := fun i => sm 229 i (by decide) (o229 i)
    refine ⟨fun j hj => by rw [sm 203 j (by decide) (o203 j)]; exact r0 j hj, ?_, ?_, gRows_eq (fun k _ => e229 _) (fun l _ => ⟨e229 _, e229 _, e229 _⟩) (fun i _ => ⟨e229 _, e229 _⟩) r3, gSteps_eq (fun i _ => ⟨e229 _, e229 _⟩) r4⟩
    · exact gRows_eq (fun k hk => ps 204 k _ (gPos_204 hk) (by omega) (by decide)) (fun l hl => ⟨ps 206 l _ (gPos_206 hl) (by omega) (by decide), ps 207 l _ (gPos_207 hl) (by omega) (by decide), ps 208 l _ (gPos_208 hl) (by omega) (by decide)⟩) (fun i hi => ⟨ps 210 i _ (gPos_210 hi) (by omega) (by decide), ps 211 i _ (gPos_211 hi) (by omega) (by decide)⟩) r3
    · exact gSteps_eq (fun i hi => ⟨ps 214 i _ (gPos_214 hi) (by omega) (by decide), ps 215 i _ (gPos_215 hi) (by omega) (by decide)⟩) r4
  obtain ⟨d1, d2, d3⟩ := gDone (md := gh_133_1.2.2.2.2.2.2) hG hI hR (fun a i => by
    by_cases q2 : a = 188
    · subst q2
      by_cases q3 : i = 79
      · subst q3
        exact Or.inr ⟨188 * 128 + 79, Or.inl ⟨gFl hG (by decide) (by decide +kernel), rfl⟩, by decide +kernel, by rw [show gF (188 * 128 + 79) = (0, 8600) from by decide +kernel, m2]; decide⟩
      · exact Or.inl (m1 i q3)
    · by_cases q : gPos a i < 9999
      · have ar : ∀ b, a = b → b < 230 → (gK b).1 = 100 → zBit gh_133_1.2.2.2.2.2.2 (b * 128 + 127) = true → gF (b * 128 + 127) = (-2147483648, 2147483647) → ∃ p, (((h.2.2.1 a).1 < 100 ∧ p = a * 128 + i) ∨ (100 ≤ (h.2.2.1 a).1 ∧ p = a * 128 + 127)) ∧ zBit gh_133_1.2.2.2.2.2.2 p = true ∧ (gF p).1 ≤ (M' a i).toInt ∧ (M' a i).toInt ≤ (gF p).2 := fun b e b1 b2 b3 b4 => by
          subst e
          exact ⟨a * 128 + 127, Or.inr ⟨gAr hG b1 (Or.inl b2), rfl⟩, b3, by rw [b4]; exact iG _⟩
        rcases gPos_in q with q5 | q5 | q5 | q5 | q5 | q5 | q5 | q5 | q5 | q5 | q5
        · obtain ⟨q5, q6⟩ := q5
          subst q5
          exact Or.inr ⟨204 * 128 + 127, Or.inr ⟨gAr hG (by decide) (Or.inl (by decide +kernel)), rfl⟩, by decide +kernel, by rw [show gF (204 * 128 + 127) = (0, 16) from by decide +kernel, ps 204 i _ (gPos_204 q6) (by omega) (by decide)]; exact L1 i q6⟩
        · exact Or.inr (ar 209 q5 (by decide) (by decide +kernel) (by decide +kernel) (by decide +kernel))
        · obtain ⟨q5, q6⟩ := q5
          subst q5
          exact Or.inr ⟨213 * 128 + 127, Or.inr ⟨gAr hG (by decide) (Or.inl (by decide +kernel)), rfl⟩, by decide +kernel, by rw [show gF (213 * 128 + 127) = (0, 24) from by decide +kernel, ps 213 i _ (gPos_213 q6) (by omega) (by decide)]; exact L2 i q6⟩
        · exact Or.inr (ar 205 q5 (by decide) (by decide +kernel) (by decide +kernel) (by decide +kernel))
        · exact Or.inr (ar 206 q5 (by decide) (by decide +kernel) (by decide +kernel) (by decide +kernel))
        · exact Or.inr (ar 207 q5 (by decide) (by decide +kernel) (by decide +kernel) (by decide +kernel))
        · exact Or.inr (ar 208 q5 (by decide) (by decide +kernel) (by decide +kernel) (by decide +kernel))
        · exact Or.inr (ar 210 q5 (by decide) (by decide +kernel) (by decide +kernel) (by decide +kernel))
        · exact Or.inr (ar 211 q5 (by decide) (by decide +kernel) (by decide +kernel) (by decide +kernel))
        · exact Or.inr (ar 214 q5 (by decide) (by decide +kernel) (by decide +kernel) (by decide +kernel))
        · exact Or.inr (ar 215 q5 (by decide) (by decide +kernel) (by decide +kernel) (by decide +kernel))
      · exact Or.inl (sm a i q2 (by omega)))
  have e1 : h.1 = 230 := hG.1.1
  have e2 : h.2.1 = 108808 := hG.1.2.1
  rw [e1, e2] at d1 d2
  have ep : gh_133_1.2.2.2.2.2.1 = [([], [], [], [], gPut0 :: gAt 4460 :: gLsm)] := rfl
  refine ⟨⟨([], [], [], [], gPut0 :: gAt 4460 :: gLsm), by rw [ep]; exact List.mem_singleton.mpr rfl, ρ, fun _ _ => rfl, fun i b h => (by cases h), fun e he => (by cases he), trivial, fun e he => ?_⟩, d1, d2, e1.symm, e2.symm, rfl, d3⟩
  have sp : e = gPut0 ∨ e = gAt 4460 ∨ e ∈ gLsm := by
    rcases List.mem_cons.mp he with q | he
    · exact Or.inl q
    rcases List.mem_cons.mp he with q | he
    · exact Or.inr (Or.inl q)
    exact Or.inr (Or.inr he)
  rcases sp with rfl | rfl | q
  · exact (gFd d2 (by decide)).mpr (znC (by show (M' 188 69).toInt = _; rw [m1 69 (by decide), hP]; rfl))
  · exact (gFd d2 (by decide)).mpr (znC (by show (M' 188 79).toInt = _; rw [m2]; rfl))
  · refine gLsm_ok d2 (fun k hk => ?_) (fun k hk => ?_) e q
    · show 0 ≤ (M' 229 (3 * k)).toInt ∧ (M' 229 (3 * k)).toInt ≤ 16
      rw [sm 229 _ (by decide) (o229 _)]
      exact L1 k hk
    · show 0 ≤ (M' 229 (3 * k + 2)).toInt ∧ (M' 229 (3 * k + 2)).toInt ≤ 24
      rw [sm 229 _ (by decide) (o229 _)]
      exact L2 k hk
