/-! reads, by hand -/
theorem bk_65_0 : (aMC 65)[0]? = some [.aload 0, .aload 0, .getfield 126712100, .invokevirtual 1536060, .bipush 32, .if_icmp .eq 2] := by decide +kernel
theorem bk_65_1 : (aMC 65)[1]? = some [.aload 0, .aload 0, .getfield 126712100, .invokevirtual 1536060, .bipush 10, .if_icmp .ne 3] := by decide +kernel
theorem bk_65_2 : (aMC 65)[2]? = some [.aload 0, .aload 0, .getfield 126712100, .bipush 1, .iadd, .putfield 126712100, .goto 0] := by decide +kernel
theorem bk_65_3 : (aMC 65)[3]? = some [.aload 0, .aload 0, .getfield 126712100, .putfield 126812104, .aload 0, .bipush 1, .putfield 126912108, .aload 0, .aload 0, .getfield 126712100, .invokevirtual 1536060, .istore 1, .iload 1, .bipush (-1), .if_icmp .ne 5] := by decide +kernel
theorem bk_65_4 : (aMC 65)[4]? = some [.aload 0, .bipush 0, .putfield 126912108, .return_] := by decide +kernel
theorem bk_65_5 : (aMC 65)[5]? = some [.aload 0, .aload 0, .getfield 126712100, .bipush 1, .iadd, .putfield 126712100, .aload 0, .iload 1, .putfield 127012112, .aload 0, .iload 1, .invokevirtual 1540061, .ifCond .eq 10] := by decide +kernel
theorem bk_65_6 : (aMC 65)[6]? = some [.aload 0, .aload 0, .aload 0, .getfield 126712100, .invokevirtual 1536060, .invokevirtual 1540061, .ifCond .eq 8] := by decide +kernel
theorem bk_65_7 : (aMC 65)[7]? = some [.aload 0, .aload 0, .getfield 126712100, .bipush 1, .iadd, .putfield 126712100, .goto 6] := by decide +kernel
theorem bk_65_8 : (aMC 65)[8]? = some [.aload 0, .aload 0, .aload 0, .getfield 126812104, .aload 0, .getfield 126712100, .invokevirtual 1544064, .putfield 127012112, .aload 0, .getfield 127012112, .bipush (-1), .if_icmp .eq 21] := by decide +kernel
theorem bk_65_9 : (aMC 65)[9]? = some [.aload 0, .bipush 2, .putfield 126912108, .goto 21] := by decide +kernel
theorem bk_65_10 : (aMC 65)[10]? = some [.aload 0, .iload 1, .invokevirtual 1548062, .ifCond .eq 19] := by decide +kernel
theorem bk_65_11 : (aMC 65)[11]? = some [.aload 0, .iload 1, .bipush 48, .isub, .putfield 127012112] := by decide +kernel
theorem bk_65_12 : (aMC 65)[12]? = some [.aload 0, .aload 0, .aload 0, .getfield 126712100, .invokevirtual 1536060, .invokevirtual 1548062, .ifCond .eq 17] := by decide +kernel
theorem bk_65_13 : (aMC 65)[13]? = some [.aload 0, .aload 0, .getfield 127012112, .bipush 10000, .if_icmp .ge 15] := by decide +kernel
theorem bk_65_14 : (aMC 65)[14]? = some [.bipush 10, .aload 0, .getfield 127012112, .imul, .aload 0, .aload 0, .getfield 126712100, .invokevirtual 1536060, .iadd, .bipush 48, .isub, .goto 16] := by decide +kernel
theorem bk_65_15 : (aMC 65)[15]? = some [.aload 0, .getfield 127012112] := by decide +kernel
theorem bk_65_16 : (aMC 65)[16]? = some [.putfield 127012112, .aload 0, .aload 0, .getfield 126712100, .bipush 1, .iadd, .putfield 126712100, .goto 12] := by decide +kernel
theorem bk_65_17 : (aMC 65)[17]? = some [.aload 0, .getfield 126712100, .aload 0, .getfield 126812104, .isub, .bipush 5, .if_icmp .ge 21] := by decide +kernel
theorem bk_65_18 : (aMC 65)[18]? = some [.aload 0, .bipush 3, .putfield 126912108, .goto 21] := by decide +kernel
theorem bk_65_19 : (aMC 65)[19]? = some [.aload 0, .iload 1, .invokevirtual 1552063, .ifCond .eq 21] := by decide +kernel
theorem bk_65_20 : (aMC 65)[20]? = some [.aload 0, .bipush 4, .putfield 126912108] := by decide +kernel
theorem bk_65_21 : (aMC 65)[21]? = some [.return_] := by decide +kernel
/-- a token is read -/
def gRd (M M' : Nat → Nat → Int32) : Prop := (∀ a, a ≠ 188 → M' a = M a) ∧ (∀ f, f ≠ 25 → f ≠ 26 → f ≠ 27 → f ≠ 28 → M' 188 f = M 188 f) ∧ (M 188 25).toInt ≤ (M' 188 26).toInt ∧ (M' 188 26).toInt ≤ (M' 188 25).toInt ∧ (M' 188 25).toInt ≤ (M 188 24).toInt ∧ 0 ≤ (M' 188 27).toInt ∧ (M' 188 27).toInt ≤ 4 ∧
  ((M' 188 27).toInt ≠ 0 → (M' 188 26).toInt < (M' 188 25).toInt) ∧ ((M' 188 27).toInt = 2 → 0 ≤ (M' 188 28).toInt ∧ (M' 188 28).toInt ≤ 28) ∧ ((M' 188 27).toInt = 3 → 0 ≤ (M' 188 28).toInt)
def gLet (c : Int) : Prop := 97 ≤ c ∧ c ≤ 122 ∨ 65 ≤ c ∧ c ≤ 90
theorem h65_l2 {X : aX} {d : Nat} {k : Nat → aK} (hk : gKs k) {M : Nat → Nat → Int32} (ht : 0 ≤ (M 188 24).toInt ∧ (M 188 24).toInt ≤ 500) (h0 : 0 ≤ (M 188 25).toInt) (hw : ∀ j, j < 156 → M 203 j = Int32.ofInt (gWd.getD j 0)) {f0 c : Int} (hf0 : (M 188 25).toInt ≤ f0) :
    ∀ (n : Nat) (M1 : Nat → Nat → Int32) (hA : ∀ a, a ≠ 188 → M1 a = M a) (hF : ∀ f, f ≠ 25 → f ≠ 26 → f ≠ 27 → f ≠ 28 → M1 188 f = M 188 f) (hfr : (M1 188 26).toInt = f0) (htk : (M1 188 27).toInt = 1) (hs1 : f0 < (M1 188 25).toInt) (hs2 : (M1 188 25).toInt ≤ (M 188 24).toInt) (hl : ∀ j : Nat, f0 ≤ j → (j : Int) < (M1 188 25).toInt → gLet (M 202 j).toInt), (M 188 24).toInt - (M1 188 25).toInt ≤ n → zW X (d + 1 + 1) 65 6 [.aload 0, .aload 0, .aload 0, .getfield 126712100, .invokevirtual 1536060, .invokevirtual 1540061, .ifCond .eq 8] [.ref 188, iv c] [] (gH k M1) (fun rv h' => ∃ M', rv = none ∧ h' = gH k M' ∧ gRd M M') := by
  intro n
  induction n with
  | zero =>
    intro M1 hA hF hfr htk hs1 hs2 hl hn
    have t1 : (M1 188 24).toInt = (M 188 24).toInt := by rw [hF 24 (by decide) (by decide) (by decide) (by decide)]
    have a202 : M1 202 = M 202 := hA 202 (by decide)
    have hlet : ∀ j : Nat, (M1 188 26).toInt ≤ j → (j : Int) < (M1 188 25).toInt → (M1 202 j).toInt ≠ 32 := fun j j1 j2 => by
      have := hl j (by omega) j2
      unfold gLet at this
      rw [a202]
      omega
    refine wP (ls' := [.ref 188, iv c]) (st' := [.ref 188]) rfl rfl ?_
    refine wP (ls' := [.ref 188, iv c]) (st' := [.ref 188, .ref 188]) rfl rfl ?_
    refine wP (ls' := [.ref 188, iv c]) (st' := [.ref 188, .ref 188, .ref 188]) rfl rfl ?_
    refine wGetN hk (f := 25) (e := (M1 188 25).toInt) (by decide +kernel) (iE _) ?_
    refine wCall hk (q := 60) (na := 1) (a := 188) (as := [iv (M1 188 25).toInt]) (t := [.ref 188]) rfl (by decide +kernel) (by decide) (by decide +kernel) (Nat.le_of_ble_eq_true rfl) rfl rfl (zRn.mono (h60 hk (by omega) (by omega)) (fun rv h' hq => ?_))
    obtain ⟨rfl, e1, rfl, r1⟩ := hq
    have be1 := iG (M1 202 ((M1 188 25).toInt).toNat)
    refine ⟨rfl, ?_⟩
    show zW X _ 65 6 [.invokevirtual 1540061, .ifCond .eq 8] [.ref 188, iv c] [iv e1, .ref 188] (gH k M1) _
    refine wCall hk (q := 61) (na := 1) (a := 188) (as := [iv e1]) (t := []) rfl (by decide +kernel) (by decide) (by decide +kernel) (Nat.le_of_ble_eq_true rfl) rfl rfl (zRn.mono (h61 hk (by omega)) (fun rv h' hq => ?_))
    obtain ⟨rfl, e2, rfl, r2⟩ := hq
    refine ⟨rfl, ?_⟩
    show zW X _ 65 6 [.ifCond .eq 8] [.ref 188, iv c] [iv e2] (gH k M1) _
    refine wIf0 (n1 := 8) rfl bk_65_8 bk_65_7 (by omega) (fun g0 => ?_) (fun g0 => ?_)
    · replace g0 : e2 = 0 := g0
      refine wP (ls' := [.ref 188, iv c]) (st' := [.ref 188]) rfl rfl ?_
      refine wP (ls' := [.ref 188, iv c]) (st' := [.ref 188, .ref 188]) rfl rfl ?_
      refine wP (ls' := [.ref 188, iv c]) (st' := [.ref 188, .ref 188, .ref 188]) rfl rfl ?_
      refine wGetN hk (f := 26) (e := (M1 188 26).toInt) (by decide +kernel) (iE _) ?_
      refine wP (ls' := [.ref 188, iv c]) (st' := [.ref 188, iv (M1 188 26).toInt, .ref 188, .ref 188]) rfl rfl ?_
      refine wGetN hk (f := 25) (e := (M1 188 25).toInt) (by decide +kernel) (iE _) ?_
      refine wCall hk (q := 64) (na := 2) (a := 188) (as := [iv (M1 188 26).toInt, iv (M1 188 25).toInt]) (t := [.ref 188]) rfl (by decide +kernel) (by decide) (by decide +kernel) (Nat.le_of_ble_eq_true rfl) rfl rfl (zRn.mono (h64 hk (by omega) (by omega) (by omega) (by rw [hA 203 (by decide)]; exact hw) hlet) (fun rv h' hq => ?_))
      obtain ⟨rfl, e3, rfl, r3, r3_⟩ := hq
      refine ⟨rfl, ?_⟩
      show zW X _ 65 8 [.putfield 127012112, .aload 0, .getfield 127012112, .bipush (-1), .if_icmp .eq 21] [.ref 188, iv c] [iv e3, .ref 188] (gH k M1) _
      refine wPutN hk (f := 28) (by decide +kernel) (Or.inl rfl) ?_
      refine wP (ls' := [.ref 188, iv c]) (st' := [.ref 188]) rfl rfl ?_
      refine wGetN hk (f := 28) (e := e3) (by decide +kernel) (by rw [aPut_e]) ?_
      refine wP (ls' := [.ref 188, iv c]) (st' := [iv (-1), iv e3]) rfl rfl ?_
      refine wIfc (n1 := 21) rfl bk_65_21 bk_65_9 (by omega) (by omega) (fun g1 => ?_) (fun g1 => ?_)
      · replace g1 : e3 = (-1) := g1
        refine wRet0 (by decide +kernel) ⟨_, rfl, rfl, ?_⟩
        have v25 : ((aPut M1 188 28 (Int32.ofInt e3)) 188 25).toInt = (M1 188 25).toInt := by rw [aPut_f (by decide)]
        have v26 : ((aPut M1 188 28 (Int32.ofInt e3)) 188 26).toInt = (M1 188 26).toInt := by rw [aPut_f (by decide)]
        have v27 : ((aPut M1 188 28 (Int32.ofInt e3)) 188 27).toInt = (M1 188 27).toInt := by rw [aPut_f (by decide)]
        have v28 : ((aPut M1 188 28 (Int32.ofInt e3)) 188 28).toInt = e3 := by rw [aPut_e]; first | (exact iR (by omega) (by omega)) | (exact congrArg Int32.toInt (iE _).symm)
        exact ⟨(fun a ha => by rw [aPut_r ha]; exact hA a ha), (fun f f1 f2 f3 f4 => by rw [aPut_f f4]; exact hF f f1 f2 f3 f4), by omega, by omega, by omega, by omega, by omega, fun _ => by omega, fun _ => by omega, fun _ => by omega⟩
      · replace g1 : ¬ (e3 = (-1)) := g1
        refine wP (ls' := [.ref 188, iv c]) (st' := [.ref 188]) rfl rfl ?_
        refine wP (ls' := [.ref 188, iv c]) (st' := [iv 2, .ref 188]) rfl rfl ?_
        refine wPutN hk (f := 27) (by decide +kernel) (Or.inl rfl) ?_
        refine wGoto (n1 := 21) rfl bk_65_21 ?_
        refine wRet0 (by decide +kernel) ⟨_, rfl, rfl, ?_⟩
        have v25 : ((aPut (aPut M1 188 28 (Int32.ofInt e3)) 188 27 (Int32.ofInt 2)) 188 25).toInt = (M1 188 25).toInt := by rw [aPut_f (by decide), aPut_f (by decide)]
        have v26 : ((aPut (aPut M1 188 28 (Int32.ofInt e3)) 188 27 (Int32.ofInt 2)) 188 26).toInt = (M1 188 26).toInt := by rw [aPut_f (by decide), aPut_f (by decide)]
        have v27 : ((aPut (aPut M1 188 28 (Int32.ofInt e3)) 188 27 (Int32.ofInt 2)) 188 27).toInt = 2 := by rw [aPut_e]; first | (exact iR (by omega) (by omega)) | (exact congrArg Int32.toInt (iE _).symm)
        have v28 : ((aPut (aPut M1 188 28 (Int32.ofInt e3)) 188 27 (Int32.ofInt 2)) 188 28).toInt = e3 := by rw [aPut_f (by decide), aPut_e]; first | (exact iR (by omega) (by omega)) | (exact congrArg Int32.toInt (iE _).symm)
        exact ⟨(fun a ha => by rw [aPut_r ha, aPut_r ha]; exact hA a ha), (fun f f1 f2 f3 f4 => by rw [aPut_f f3, aPut_f f4]; exact hF f f1 f2 f3 f4), by omega, by omega, by omega, by omega, by omega, fun _ => by omega, fun _ => by omega, fun _ => by omega⟩
    · replace g0 : ¬ (e2 = 0) := g0
      exact absurd g0 (by omega)
  | succ n ih =>
    intro M1 hA hF hfr htk hs1 hs2 hl hn
    have t1 : (M1 188 24).toInt = (M 188 24).toInt := by rw [hF 24 (by decide) (by decide) (by decide) (by decide)]
    have a202 : M1 202 = M 202 := hA 202 (by decide)
    have hlet : ∀ j : Nat, (M1 188 26).toInt ≤ j → (j : Int) < (M1 188 25).toInt → (M1 202 j).toInt ≠ 32 := fun j j1 j2 => by
      have := hl j (by omega) j2
      unfold gLet at this
      rw [a202]
      omega
    refine wP (ls' := [.ref 188, iv c]) (st' := [.ref 188]) rfl rfl ?_
    refine wP (ls' := [.ref 188, iv c]) (st' := [.ref 188, .ref 188]) rfl rfl ?_
    refine wP (ls' := [.ref 188, iv c]) (st' := [.ref 188, .ref 188, .ref 188]) rfl rfl ?_
    refine wGetN hk (f := 25) (e := (M1 188 25).toInt) (by decide +kernel) (iE _) ?_
    refine wCall hk (q := 60) (na := 1) (a := 188) (as := [iv (M1 188 25).toInt]) (t := [.ref 188]) rfl (by decide +kernel) (by decide) (by decide +kernel) (Nat.le_of_ble_eq_true rfl) rfl rfl (zRn.mono (h60 hk (by omega) (by omega)) (fun rv h' hq => ?_))
    obtain ⟨rfl, e1, rfl, r1⟩ := hq
    have be1 := iG (M1 202 ((M1 188 25).toInt).toNat)
    refine ⟨rfl, ?_⟩
    show zW X _ 65 6 [.invokevirtual 1540061, .ifCond .eq 8] [.ref 188, iv c] [iv e1, .ref 188] (gH k M1) _
    refine wCall hk (q := 61) (na := 1) (a := 188) (as := [iv e1]) (t := []) rfl (by decide +kernel) (by decide) (by decide +kernel) (Nat.le_of_ble_eq_true rfl) rfl rfl (zRn.mono (h61 hk (by omega)) (fun rv h' hq => ?_))
    obtain ⟨rfl, e2, rfl, r2⟩ := hq
    refine ⟨rfl, ?_⟩
    show zW X _ 65 6 [.ifCond .eq 8] [.ref 188, iv c] [iv e2] (gH k M1) _
    refine wIf0 (n1 := 8) rfl bk_65_8 bk_65_7 (by omega) (fun g0 => ?_) (fun g0 => ?_)
    · replace g0 : e2 = 0 := g0
      refine wP (ls' := [.ref 188, iv c]) (st' := [.ref 188]) rfl rfl ?_
      refine wP (ls' := [.ref 188, iv c]) (st' := [.ref 188, .ref 188]) rfl rfl ?_
      refine wP (ls' := [.ref 188, iv c]) (st' := [.ref 188, .ref 188, .ref 188]) rfl rfl ?_
      refine wGetN hk (f := 26) (e := (M1 188 26).toInt) (by decide +kernel) (iE _) ?_
      refine wP (ls' := [.ref 188, iv c]) (st' := [.ref 188, iv (M1 188 26).toInt, .ref 188, .ref 188]) rfl rfl ?_
      refine wGetN hk (f := 25) (e := (M1 188 25).toInt) (by decide +kernel) (iE _) ?_
      refine wCall hk (q := 64) (na := 2) (a := 188) (as := [iv (M1 188 26).toInt, iv (M1 188 25).toInt]) (t := [.ref 188]) rfl (by decide +kernel) (by decide) (by decide +kernel) (Nat.le_of_ble_eq_true rfl) rfl rfl (zRn.mono (h64 hk (by omega) (by omega) (by omega) (by rw [hA 203 (by decide)]; exact hw) hlet) (fun rv h' hq => ?_))
      obtain ⟨rfl, e3, rfl, r3, r3_⟩ := hq
      refine ⟨rfl, ?_⟩
      show zW X _ 65 8 [.putfield 127012112, .aload 0, .getfield 127012112, .bipush (-1), .if_icmp .eq 21] [.ref 188, iv c] [iv e3, .ref 188] (gH k M1) _
      refine wPutN hk (f := 28) (by decide +kernel) (Or.inl rfl) ?_
      refine wP (ls' := [.ref 188, iv c]) (st' := [.ref 188]) rfl rfl ?_
      refine wGetN hk (f := 28) (e := e3) (by decide +kernel) (by rw [aPut_e]) ?_
      refine wP (ls' := [.ref 188, iv c]) (st' := [iv (-1), iv e3]) rfl rfl ?_
      refine wIfc (n1 := 21) rfl bk_65_21 bk_65_9 (by omega) (by omega) (fun g1 => ?_) (fun g1 => ?_)
      · replace g1 : e3 = (-1) := g1
        refine wRet0 (by decide +kernel) ⟨_, rfl, rfl, ?_⟩
        have v25 : ((aPut M1 188 28 (Int32.ofInt e3)) 188 25).toInt = (M1 188 25).toInt := by rw [aPut_f (by decide)]
        have v26 : ((aPut M1 188 28 (Int32.ofInt e3)) 188 26).toInt = (M1 188 26).toInt := by rw [aPut_f (by decide)]
        have v27 : ((aPut M1 188 28 (Int32.ofInt e3)) 188 27).toInt = (M1 188 27).toInt := by rw [aPut_f (by decide)]
        have v28 : ((aPut M1 188 28 (Int32.ofInt e3)) 188 28).toInt = e3 := by rw [aPut_e]; first | (exact iR (by omega) (by omega)) | (exact congrArg Int32.toInt (iE _).symm)
        exact ⟨(fun a ha => by rw [aPut_r ha]; exact hA a ha), (fun f f1 f2 f3 f4 => by rw [aPut_f f4]; exact hF f f1 f2 f3 f4), by omega, by omega, by omega, by omega, by omega, fun _ => by omega, fun _ => by omega, fun _ => by omega⟩
      · replace g1 : ¬ (e3 = (-1)) := g1
        refine wP (ls' := [.ref 188, iv c]) (st' := [.ref 188]) rfl rfl ?_
        refine wP (ls' := [.ref 188, iv c]) (st' := [iv 2, .ref 188]) rfl rfl ?_
        refine wPutN hk (f := 27) (by decide +kernel) (Or.inl rfl) ?_
        refine wGoto (n1 := 21) rfl bk_65_21 ?_
        refine wRet0 (by decide +kernel) ⟨_, rfl, rfl, ?_⟩
        have v25 : ((aPut (aPut M1 188 28 (Int32.ofInt e3)) 188 27 (Int32.ofInt 2)) 188 25).toInt = (M1 188 25).toInt := by rw [aPut_f (by decide), aPut_f (by decide)]
        have v26 : ((aPut (aPut M1 188 28 (Int32.ofInt e3)) 188 27 (Int32.ofInt 2)) 188 26).toInt = (M1 188 26).toInt := by rw [aPut_f (by decide), aPut_f (by decide)]
        have v27 : ((aPut (aPut M1 188 28 (Int32.ofInt e3)) 188 27 (Int32.ofInt 2)) 188 27).toInt = 2 := by rw [aPut_e]; first | (exact iR (by omega) (by omega)) | (exact congrArg Int32.toInt (iE _).symm)
        have v28 : ((aPut (aPut M1 188 28 (Int32.ofInt e3)) 188 27 (Int32.ofInt 2)) 188 28).toInt = e3 := by rw [aPut_f (by decide), aPut_e]; first | (exact iR (by omega) (by omega)) | (exact congrArg Int32.toInt (iE _).symm)
        exact ⟨(fun a ha => by rw [aPut_r ha, aPut_r ha]; exact hA a ha), (fun f f1 f2 f3 f4 => by rw [aPut_f f3, aPut_f f4]; exact hF f f1 f2 f3 f4), by omega, by omega, by omega, by omega, by omega, fun _ => by omega, fun _ => by omega, fun _ => by omega⟩
    · replace g0 : ¬ (e2 = 0) := g0
      refine wP (ls' := [.ref 188, iv c]) (st' := [.ref 188]) rfl rfl ?_
      refine wP (ls' := [.ref 188, iv c]) (st' := [.ref 188, .ref 188]) rfl rfl ?_
      refine wGetN hk (f := 25) (e := (M1 188 25).toInt) (by decide +kernel) (iE _) ?_
      refine wP (ls' := [.ref 188, iv c]) (st' := [iv 1, iv (M1 188 25).toInt, .ref 188]) rfl rfl ?_
      refine wAdd ?_
      refine wPutN hk (f := 25) (by decide +kernel) (Or.inl rfl) ?_
      refine wGoto (n1 := 6) rfl bk_65_6 ?_
      have v25 : ((aPut M1 188 25 (Int32.ofInt ((M1 188 25).toInt + 1))) 188 25).toInt = ((M1 188 25).toInt + 1) := by rw [aPut_e]; first | (exact iR (by omega) (by omega)) | (exact congrArg Int32.toInt (iE _).symm)
      have v26 : ((aPut M1 188 25 (Int32.ofInt ((M1 188 25).toInt + 1))) 188 26).toInt = (M1 188 26).toInt := by rw [aPut_f (by decide)]
      have v27 : ((aPut M1 188 25 (Int32.ofInt ((M1 188 25).toInt + 1))) 188 27).toInt = (M1 188 27).toInt := by rw [aPut_f (by decide)]
      exact ih (aPut M1 188 25 (Int32.ofInt ((M1 188 25).toInt + 1))) (fun a ha => by rw [aPut_r ha]; exact hA a ha) (fun f f1 f2 f3 f4 => by rw [aPut_f f1]; exact hF f f1 f2 f3 f4) (by omega) (by omega) (by omega) (by omega) (fun j j1 j2 => by
              by_cases q : (j : Int) < (M1 188 25).toInt
              · exact hl j j1 q
              · have e1 : j = ((M1 188 25).toInt).toNat := by omega
                unfold gLet
                rw [e1, ← a202]
                omega) (by omega)
theorem h65_l3 {X : aX} {d : Nat} {k : Nat → aK} (hk : gKs k) {M : Nat → Nat → Int32} (ht : 0 ≤ (M 188 24).toInt ∧ (M 188 24).toInt ≤ 500) (h0 : 0 ≤ (M 188 25).toInt) (hw : ∀ j, j < 156 → M 203 j = Int32.ofInt (gWd.getD j 0)) {f0 c : Int} (hf0 : (M 188 25).toInt ≤ f0) :
    ∀ (n : Nat) (M1 : Nat → Nat → Int32) (hA : ∀ a, a ≠ 188 → M1 a = M a) (hF : ∀ f, f ≠ 25 → f ≠ 26 → f ≠ 27 → f ≠ 28 → M1 188 f = M 188 f) (hfr : (M1 188 26).toInt = f0) (htk : (M1 188 27).toInt = 1) (hs1 : f0 < (M1 188 25).toInt) (hs2 : (M1 188 25).toInt ≤ (M 188 24).toInt) (hv : 0 ≤ (M1 188 28).toInt), (M 188 24).toInt - (M1 188 25).toInt ≤ n → zW X (d + 1 + 1 + 1) 65 12 [.aload 0, .aload 0, .aload 0, .getfield 126712100, .invokevirtual 1536060, .invokevirtual 1548062, .ifCond .eq 17] [.ref 188, iv c] [] (gH k M1) (fun rv h' => ∃ M', rv = none ∧ h' = gH k M' ∧ gRd M M') := by
  intro n
  induction n with
  | zero =>
    intro M1 hA hF hfr htk hs1 hs2 hv hn
    have t1 : (M1 188 24).toInt = (M 188 24).toInt := by rw [hF 24 (by decide) (by decide) (by decide) (by decide)]
    have a202 : M1 202 = M 202 := hA 202 (by decide)
    refine wP (ls' := [.ref 188, iv c]) (st' := [.ref 188]) rfl rfl ?_
    refine wP (ls' := [.ref 188, iv c]) (st' := [.ref 188, .ref 188]) rfl rfl ?_
    refine wP (ls' := [.ref 188, iv c]) (st' := [.ref 188, .ref 188, .ref 188]) rfl rfl ?_
    refine wGetN hk (f := 25) (e := (M1 188 25).toInt) (by decide +kernel) (iE _) ?_
    refine wCall hk (q := 60) (na := 1) (a := 188) (as := [iv (M1 188 25).toInt]) (t := [.ref 188]) rfl (by decide +kernel) (by decide) (by decide +kernel) (Nat.le_of_ble_eq_true rfl) rfl rfl (zRn.mono (h60 hk (by omega) (by omega)) (fun rv h' hq => ?_))
    obtain ⟨rfl, e1, rfl, r1⟩ := hq
    have be1 := iG (M1 202 ((M1 188 25).toInt).toNat)
    refine ⟨rfl, ?_⟩
    show zW X _ 65 12 [.invokevirtual 1548062, .ifCond .eq 17] [.ref 188, iv c] [iv e1, .ref 188] (gH k M1) _
    refine wCall hk (q := 62) (na := 1) (a := 188) (as := [iv e1]) (t := []) rfl (by decide +kernel) (by decide) (by decide +kernel) (Nat.le_of_ble_eq_true rfl) rfl rfl (zRn.mono (h62 hk (by omega)) (fun rv h' hq => ?_))
    obtain ⟨rfl, e2, rfl, r2⟩ := hq
    refine ⟨rfl, ?_⟩
    show zW X _ 65 12 [.ifCond .eq 17] [.ref 188, iv c] [iv e2] (gH k M1) _
    refine wIf0 (n1 := 17) rfl bk_65_17 bk_65_13 (by omega) (fun g0 => ?_) (fun g0 => ?_)
    · replace g0 : e2 = 0 := g0
      refine wP (ls' := [.ref 188, iv c]) (st' := [.ref 188]) rfl rfl ?_
      refine wGetN hk (f := 25) (e := (M1 188 25).toInt) (by decide +kernel) (iE _) ?_
      refine wP (ls' := [.ref 188, iv c]) (st' := [.ref 188, iv (M1 188 25).toInt]) rfl rfl ?_
      refine wGetN hk (f := 26) (e := (M1 188 26).toInt) (by decide +kernel) (iE _) ?_
      refine wSub ?_
      refine wP (ls' := [.ref 188, iv c]) (st' := [iv 5, iv ((M1 188 25).toInt - (M1 188 26).toInt)]) rfl rfl ?_
      refine wIfc (n1 := 21) rfl bk_65_21 bk_65_18 (by first | exact iG _ | omega) (by omega) (fun g1 => ?_) (fun g1 => ?_)
      · replace g1 : 5 ≤ ((M1 188 25).toInt - (M1 188 26).toInt) := g1
        refine wRet0 (by decide +kernel) ⟨_, rfl, rfl, ?_⟩
        have v25 : (M1 188 25).toInt = (M1 188 25).toInt := rfl
        have v26 : (M1 188 26).toInt = (M1 188 26).toInt := rfl
        have v27 : (M1 188 27).toInt = (M1 188 27).toInt := rfl
        have v28 : (M1 188 28).toInt = (M1 188 28).toInt := rfl
        exact ⟨(fun a ha => hA a ha), (fun f f1 f2 f3 f4 => hF f f1 f2 f3 f4), by omega, by omega, by omega, by omega, by omega, fun _ => by omega, fun _ => by omega, fun _ => by omega⟩
      · replace g1 : ¬ (5 ≤ ((M1 188 25).toInt - (M1 188 26).toInt)) := g1
        refine wP (ls' := [.ref 188, iv c]) (st' := [.ref 188]) rfl rfl ?_
        refine wP (ls' := [.ref 188, iv c]) (st' := [iv 3, .ref 188]) rfl rfl ?_
        refine wPutN hk (f := 27) (by decide +kernel) (Or.inl rfl) ?_
        refine wGoto (n1 := 21) rfl bk_65_21 ?_
        refine wRet0 (by decide +kernel) ⟨_, rfl, rfl, ?_⟩
        have v25 : ((aPut M1 188 27 (Int32.ofInt 3)) 188 25).toInt = (M1 188 25).toInt := by rw [aPut_f (by decide)]
        have v26 : ((aPut M1 188 27 (Int32.ofInt 3)) 188 26).toInt = (M1 188 26).toInt := by rw [aPut_f (by decide)]
        have v27 : ((aPut M1 188 27 (Int32.ofInt 3)) 188 27).toInt = 3 := by rw [aPut_e]; first | (exact iR (by omega) (by omega)) | (exact congrArg Int32.toInt (iE _).symm)
        have v28 : ((aPut M1 188 27 (Int32.ofInt 3)) 188 28).toInt = (M1 188 28).toInt := by rw [aPut_f (by decide)]
        exact ⟨(fun a ha => by rw [aPut_r ha]; exact hA a ha), (fun f f1 f2 f3 f4 => by rw [aPut_f f3]; exact hF f f1 f2 f3 f4), by omega, by omega, by omega, by omega, by omega, fun _ => by omega, fun _ => by omega, fun _ => by omega⟩
    · replace g0 : ¬ (e2 = 0) := g0
      exact absurd g0 (by omega)
  | succ n ih =>
    intro M1 hA hF hfr htk hs1 hs2 hv hn
    have t1 : (M1 188 24).toInt = (M 188 24).toInt := by rw [hF 24 (by decide) (by decide) (by decide) (by decide)]
    have a202 : M1 202 = M 202 := hA 202 (by decide)
    refine wP (ls' := [.ref 188, iv c]) (st' := [.ref 188]) rfl rfl ?_
    refine wP (ls' := [.ref 188, iv c]) (st' := [.ref 188, .ref 188]) rfl rfl ?_
    refine wP (ls' := [.ref 188, iv c]) (st' := [.ref 188, .ref 188, .ref 188]) rfl rfl ?_
    refine wGetN hk (f := 25) (e := (M1 188 25).toInt) (by decide +kernel) (iE _) ?_
    refine wCall hk (q := 60) (na := 1) (a := 188) (as := [iv (M1 188 25).toInt]) (t := [.ref 188]) rfl (by decide +kernel) (by decide) (by decide +kernel) (Nat.le_of_ble_eq_true rfl) rfl rfl (zRn.mono (h60 hk (by omega) (by omega)) (fun rv h' hq => ?_))
    obtain ⟨rfl, e1, rfl, r1⟩ := hq
    have be1 := iG (M1 202 ((M1 188 25).toInt).toNat)
    refine ⟨rfl, ?_⟩
    show zW X _ 65 12 [.invokevirtual 1548062, .ifCond .eq 17] [.ref 188, iv c] [iv e1, .ref 188] (gH k M1) _
    refine wCall hk (q := 62) (na := 1) (a := 188) (as := [iv e1]) (t := []) rfl (by decide +kernel) (by decide) (by decide +kernel) (Nat.le_of_ble_eq_true rfl) rfl rfl (zRn.mono (h62 hk (by omega)) (fun rv h' hq => ?_))
    obtain ⟨rfl, e2, rfl, r2⟩ := hq
    refine ⟨rfl, ?_⟩
    show zW X _ 65 12 [.ifCond .eq 17] [.ref 188, iv c] [iv e2] (gH k M1) _
    refine wIf0 (n1 := 17) rfl bk_65_17 bk_65_13 (by omega) (fun g0 => ?_) (fun g0 => ?_)
    · replace g0 : e2 = 0 := g0
      refine wP (ls' := [.ref 188, iv c]) (st' := [.ref 188]) rfl rfl ?_
      refine wGetN hk (f := 25) (e := (M1 188 25).toInt) (by decide +kernel) (iE _) ?_
      refine wP (ls' := [.ref 188, iv c]) (st' := [.ref 188, iv (M1 188 25).toInt]) rfl rfl ?_
      refine wGetN hk (f := 26) (e := (M1 188 26).toInt) (by decide +kernel) (iE _) ?_
      refine wSub ?_
      refine wP (ls' := [.ref 188, iv c]) (st' := [iv 5, iv ((M1 188 25).toInt - (M1 188 26).toInt)]) rfl rfl ?_
      refine wIfc (n1 := 21) rfl bk_65_21 bk_65_18 (by first | exact iG _ | omega) (by omega) (fun g1 => ?_) (fun g1 => ?_)
      · replace g1 : 5 ≤ ((M1 188 25).toInt - (M1 188 26).toInt) := g1
        refine wRet0 (by decide +kernel) ⟨_, rfl, rfl, ?_⟩
        have v25 : (M1 188 25).toInt = (M1 188 25).toInt := rfl
        have v26 : (M1 188 26).toInt = (M1 188 26).toInt := rfl
        have v27 : (M1 188 27).toInt = (M1 188 27).toInt := rfl
        have v28 : (M1 188 28).toInt = (M1 188 28).toInt := rfl
        exact ⟨(fun a ha => hA a ha), (fun f f1 f2 f3 f4 => hF f f1 f2 f3 f4), by omega, by omega, by omega, by omega, by omega, fun _ => by omega, fun _ => by omega, fun _ => by omega⟩
      · replace g1 : ¬ (5 ≤ ((M1 188 25).toInt - (M1 188 26).toInt)) := g1
        refine wP (ls' := [.ref 188, iv c]) (st' := [.ref 188]) rfl rfl ?_
        refine wP (ls' := [.ref 188, iv c]) (st' := [iv 3, .ref 188]) rfl rfl ?_
        refine wPutN hk (f := 27) (by decide +kernel) (Or.inl rfl) ?_
        refine wGoto (n1 := 21) rfl bk_65_21 ?_
        refine wRet0 (by decide +kernel) ⟨_, rfl, rfl, ?_⟩
        have v25 : ((aPut M1 188 27 (Int32.ofInt 3)) 188 25).toInt = (M1 188 25).toInt := by rw [aPut_f (by decide)]
        have v26 : ((aPut M1 188 27 (Int32.ofInt 3)) 188 26).toInt = (M1 188 26).toInt := by rw [aPut_f (by decide)]
        have v27 : ((aPut M1 188 27 (Int32.ofInt 3)) 188 27).toInt = 3 := by rw [aPut_e]; first | (exact iR (by omega) (by omega)) | (exact congrArg Int32.toInt (iE _).symm)
        have v28 : ((aPut M1 188 27 (Int32.ofInt 3)) 188 28).toInt = (M1 188 28).toInt := by rw [aPut_f (by decide)]
        exact ⟨(fun a ha => by rw [aPut_r ha]; exact hA a ha), (fun f f1 f2 f3 f4 => by rw [aPut_f f3]; exact hF f f1 f2 f3 f4), by omega, by omega, by omega, by omega, by omega, fun _ => by omega, fun _ => by omega, fun _ => by omega⟩
    · replace g0 : ¬ (e2 = 0) := g0
      refine wP (ls' := [.ref 188, iv c]) (st' := [.ref 188]) rfl rfl ?_
      refine wP (ls' := [.ref 188, iv c]) (st' := [.ref 188, .ref 188]) rfl rfl ?_
      refine wGetN hk (f := 28) (e := (M1 188 28).toInt) (by decide +kernel) (iE _) ?_
      refine wP (ls' := [.ref 188, iv c]) (st' := [iv 10000, iv (M1 188 28).toInt, .ref 188]) rfl rfl ?_
      refine wIfc (n1 := 15) rfl bk_65_15 bk_65_14 (by first | exact iG _ | omega) (by omega) (fun g1 => ?_) (fun g1 => ?_)
      · replace g1 : 10000 ≤ (M1 188 28).toInt := g1
        refine wP (ls' := [.ref 188, iv c]) (st' := [.ref 188, .ref 188]) rfl rfl ?_
        refine wGetN hk (f := 28) (e := (M1 188 28).toInt) (by decide +kernel) (iE _) ?_
        refine zW_fall bk_65_16 ?_
        refine wPutN hk (f := 28) (by decide +kernel) (Or.inl rfl) ?_
        refine wP (ls' := [.ref 188, iv c]) (st' := [.ref 188]) rfl rfl ?_
        refine wP (ls' := [.ref 188, iv c]) (st' := [.ref 188, .ref 188]) rfl rfl ?_
        refine wGetN hk (f := 25) (e := (M1 188 25).toInt) (by decide +kernel) (by rw [aPut_f (by decide)]; exact iE _) ?_
        refine wP (ls' := [.ref 188, iv c]) (st' := [iv 1, iv (M1 188 25).toInt, .ref 188]) rfl rfl ?_
        refine wAdd ?_
        refine wPutN hk (f := 25) (by decide +kernel) (Or.inl rfl) ?_
        refine wGoto (n1 := 12) rfl bk_65_12 ?_
        have v25 : ((aPut (aPut M1 188 28 (Int32.ofInt (M1 188 28).toInt)) 188 25 (Int32.ofInt ((M1 188 25).toInt + 1))) 188 25).toInt = ((M1 188 25).toInt + 1) := by rw [aPut_e]; first | (exact iR (by omega) (by omega)) | (exact congrArg Int32.toInt (iE _).symm)
        have v26 : ((aPut (aPut M1 188 28 (Int32.ofInt (M1 188 28).toInt)) 188 25 (Int32.ofInt ((M1 188 25).toInt + 1))) 188 26).toInt = (M1 188 26).toInt := by rw [aPut_f (by decide), aPut_f (by decide)]
        have v27 : ((aPut (aPut M1 188 28 (Int32.ofInt (M1 188 28).toInt)) 188 25 (Int32.ofInt ((M1 188 25).toInt + 1))) 188 27).toInt = (M1 188 27).toInt := by rw [aPut_f (by decide), aPut_f (by decide)]
        have v28 : ((aPut (aPut M1 188 28 (Int32.ofInt (M1 188 28).toInt)) 188 25 (Int32.ofInt ((M1 188 25).toInt + 1))) 188 28).toInt = (M1 188 28).toInt := by rw [aPut_f (by decide), aPut_e]; first | (exact iR (by omega) (by omega)) | (exact congrArg Int32.toInt (iE _).symm)
        exact ih (aPut (aPut M1 188 28 (Int32.ofInt (M1 188 28).toInt)) 188 25 (Int32.ofInt ((M1 188 25).toInt + 1))) (fun a ha => by rw [aPut_r ha, aPut_r ha]; exact hA a ha) (fun f f1 f2 f3 f4 => by rw [aPut_f f1, aPut_f f4]; exact hF f f1 f2 f3 f4) (by omega) (by omega) (by omega) (by omega) (by omega) (by omega)
      · replace g1 : ¬ (10000 ≤ (M1 188 28).toInt) := g1
        refine wP (ls' := [.ref 188, iv c]) (st' := [iv 10, .ref 188]) rfl rfl ?_
        refine wP (ls' := [.ref 188, iv c]) (st' := [.ref 188, iv 10, .ref 188]) rfl rfl ?_
        refine wGetN hk (f := 28) (e := (M1 188 28).toInt) (by decide +kernel) (iE _) ?_
        refine wMul ?_
        refine wP (ls' := [.ref 188, iv c]) (st' := [.ref 188, iv (10 * (M1 188 28).toInt), .ref 188]) rfl rfl ?_
        refine wP (ls' := [.ref 188, iv c]) (st' := [.ref 188, .ref 188, iv (10 * (M1 188 28).toInt), .ref 188]) rfl rfl ?_
        refine wGetN hk (f := 25) (e := (M1 188 25).toInt) (by decide +kernel) (iE _) ?_
        refine wCall hk (q := 60) (na := 1) (a := 188) (as := [iv (M1 188 25).toInt]) (t := [iv (10 * (M1 188 28).toInt), .ref 188]) rfl (by decide +kernel) (by decide) (by decide +kernel) (Nat.le_of_ble_eq_true rfl) rfl rfl (zRn.mono (h60 hk (by omega) (by omega)) (fun rv h' hq => ?_))
        obtain ⟨rfl, e3, rfl, r3⟩ := hq
        have be3 := iG (M1 202 ((M1 188 25).toInt).toNat)
        refine ⟨rfl, ?_⟩
        show zW X _ 65 14 [.iadd, .bipush 48, .isub, .goto 16] [.ref 188, iv c] [iv e3, iv (10 * (M1 188 28).toInt), .ref 188] (gH k M1) _
        refine wAdd ?_
        refine wP (ls' := [.ref 188, iv c]) (st' := [iv 48, iv ((10 * (M1 188 28).toInt) + e3), .ref 188]) rfl rfl ?_
        refine wSub ?_
        refine wGoto (n1 := 16) rfl bk_65_16 ?_
        refine wPutN hk (f := 28) (by decide +kernel) (Or.inl rfl) ?_
        refine wP (ls' := [.ref 188, iv c]) (st' := [.ref 188]) rfl rfl ?_
        refine wP (ls' := [.ref 188, iv c]) (st' := [.ref 188, .ref 188]) rfl rfl ?_
        refine wGetN hk (f := 25) (e := (M1 188 25).toInt) (by decide +kernel) (by rw [aPut_f (by decide)]; exact iE _) ?_
        refine wP (ls' := [.ref 188, iv c]) (st' := [iv 1, iv (M1 188 25).toInt, .ref 188]) rfl rfl ?_
        refine wAdd ?_
        refine wPutN hk (f := 25) (by decide +kernel) (Or.inl rfl) ?_
        refine wGoto (n1 := 12) rfl bk_65_12 ?_
        have v25 : ((aPut (aPut M1 188 28 (Int32.ofInt (((10 * (M1 188 28).toInt) + e3) - 48))) 188 25 (Int32.ofInt ((M1 188 25).toInt + 1))) 188 25).toInt = ((M1 188 25).toInt + 1) := by rw [aPut_e]; first | (exact iR (by omega) (by omega)) | (exact congrArg Int32.toInt (iE _).symm)
        have v26 : ((aPut (aPut M1 188 28 (Int32.ofInt (((10 * (M1 188 28).toInt) + e3) - 48))) 188 25 (Int32.ofInt ((M1 188 25).toInt + 1))) 188 26).toInt = (M1 188 26).toInt := by rw [aPut_f (by decide), aPut_f (by decide)]
        have v27 : ((aPut (aPut M1 188 28 (Int32.ofInt (((10 * (M1 188 28).toInt) + e3) - 48))) 188 25 (Int32.ofInt ((M1 188 25).toInt + 1))) 188 27).toInt = (M1 188 27).toInt := by rw [aPut_f (by decide), aPut_f (by decide)]
        have v28 : ((aPut (aPut M1 188 28 (Int32.ofInt (((10 * (M1 188 28).toInt) + e3) - 48))) 188 25 (Int32.ofInt ((M1 188 25).toInt + 1))) 188 28).toInt = (((10 * (M1 188 28).toInt) + e3) - 48) := by rw [aPut_f (by decide), aPut_e]; first | (exact iR (by omega) (by omega)) | (exact congrArg Int32.toInt (iE _).symm)
        exact ih (aPut (aPut M1 188 28 (Int32.ofInt (((10 * (M1 188 28).toInt) + e3) - 48))) 188 25 (Int32.ofInt ((M1 188 25).toInt + 1))) (fun a ha => by rw [aPut_r ha, aPut_r ha]; exact hA a ha) (fun f f1 f2 f3 f4 => by rw [aPut_f f1, aPut_f f4]; exact hF f f1 f2 f3 f4) (by omega) (by omega) (by omega) (by omega) (by omega) (by omega)
theorem h65_r {X : aX} {d : Nat} {k : Nat → aK} (hk : gKs k) {M : Nat → Nat → Int32} (ht : 0 ≤ (M 188 24).toInt ∧ (M 188 24).toInt ≤ 500) (h0 : 0 ≤ (M 188 25).toInt) (hw : ∀ j, j < 156 → M 203 j = Int32.ofInt (gWd.getD j 0)) {u1 : Value} {M1 : Nat → Nat → Int32} (hA : ∀ a, a ≠ 188 → M1 a = M a) (hF : ∀ f, f ≠ 25 → f ≠ 26 → f ≠ 27 → f ≠ 28 → M1 188 f = M 188 f) (hs1 : (M 188 25).toInt ≤ (M1 188 25).toInt) (hs2 : (M1 188 25).toInt ≤ (M 188 24).toInt) : zW X (d + 1 + 1 + 1) 65 3 [.aload 0, .aload 0, .getfield 126712100, .putfield 126812104, .aload 0, .bipush 1, .putfield 126912108, .aload 0, .aload 0, .getfield 126712100, .invokevirtual 1536060, .istore 1, .iload 1, .bipush (-1), .if_icmp .ne 5] [.ref 188, u1] [] (gH k M1) (fun rv h' => ∃ M', rv = none ∧ h' = gH k M' ∧ gRd M M') := by
  have t1 : (M1 188 24).toInt = (M 188 24).toInt := by rw [hF 24 (by decide) (by decide) (by decide) (by decide)]
  have a202 : M1 202 = M 202 := hA 202 (by decide)
  refine wP (ls' := [.ref 188, u1]) (st' := [.ref 188]) rfl rfl ?_
  refine wP (ls' := [.ref 188, u1]) (st' := [.ref 188, .ref 188]) rfl rfl ?_
  refine wGetN hk (f := 25) (e := (M1 188 25).toInt) (by decide +kernel) (iE _) ?_
  refine wPutN hk (f := 26) (by decide +kernel) (Or.inl rfl) ?_
  refine wP (ls' := [.ref 188, u1]) (st' := [.ref 188]) rfl rfl ?_
  refine wP (ls' := [.ref 188, u1]) (st' := [iv 1, .ref 188]) rfl rfl ?_
  refine wPutN hk (f := 27) (by decide +kernel) (Or.inl rfl) ?_
  refine wP (ls' := [.ref 188, u1]) (st' := [.ref 188]) rfl rfl ?_
  refine wP (ls' := [.ref 188, u1]) (st' := [.ref 188, .ref 188]) rfl rfl ?_
  refine wGetN hk (f := 25) (e := (M1 188 25).toInt) (by decide +kernel) (by rw [aPut_f (by decide), aPut_f (by decide)]; exact iE _) ?_
  refine wCall hk (q := 60) (na := 1) (a := 188) (as := [iv (M1 188 25).toInt]) (t := []) rfl (by decide +kernel) (by decide) (by decide +kernel) (Nat.le_of_ble_eq_true rfl) rfl rfl (zRn.mono (h60 hk (by omega) (by rw [aPut_f (by decide), aPut_f (by decide)]; omega)) (fun rv h' hq => ?_))
  obtain ⟨rfl, e1, rfl, r1⟩ := hq
  rw [aPut_f (by decide), aPut_f (by decide)] at r1
  rw [aPut_r (by decide), aPut_r (by decide)] at r1
  have be1 := iG (M1 202 ((M1 188 25).toInt).toNat)
  refine ⟨rfl, ?_⟩
  show zW X _ 65 3 [.istore 1, .iload 1, .bipush (-1), .if_icmp .ne 5] [.ref 188, u1] [iv e1] (gH k (aPut (aPut M1 188 26 (Int32.ofInt (M1 188 25).toInt)) 188 27 (Int32.ofInt 1))) _
  refine wP (ls' := [.ref 188, iv e1]) (st' := []) rfl rfl ?_
  refine wP (ls' := [.ref 188, iv e1]) (st' := [iv e1]) rfl rfl ?_
  refine wP (ls' := [.ref 188, iv e1]) (st' := [iv (-1), iv e1]) rfl rfl ?_
  refine wIfc (n1 := 5) rfl bk_65_5 bk_65_4 (by omega) (by omega) (fun g0 => ?_) (fun g0 => ?_)
  · replace g0 : ¬ e1 = (-1) := g0
    refine wP (ls' := [.ref 188, iv e1]) (st' := [.ref 188]) rfl rfl ?_
    refine wP (ls' := [.ref 188, iv e1]) (st' := [.ref 188, .ref 188]) rfl rfl ?_
    refine wGetN hk (f := 25) (e := (M1 188 25).toInt) (by decide +kernel) (by rw [aPut_f (by decide), aPut_f (by decide)]; exact iE _) ?_
    refine wP (ls' := [.ref 188, iv e1]) (st' := [iv 1, iv (M1 188 25).toInt, .ref 188]) rfl rfl ?_
    refine wAdd ?_
    refine wPutN hk (f := 25) (by decide +kernel) (Or.inl rfl) ?_
    refine wP (ls' := [.ref 188, iv e1]) (st' := [.ref 188]) rfl rfl ?_
    refine wP (ls' := [.ref 188, iv e1]) (st' := [iv e1, .ref 188]) rfl rfl ?_
    refine wPutN hk (f := 28) (by decide +kernel) (Or.inl rfl) ?_
    refine wP (ls' := [.ref 188, iv e1]) (st' := [.ref 188]) rfl rfl ?_
    refine wP (ls' := [.ref 188, iv e1]) (st' := [iv e1, .ref 188]) rfl rfl ?_
    refine wCall hk (q := 61) (na := 1) (a := 188) (as := [iv e1]) (t := []) rfl (by decide +kernel) (by decide) (by decide +kernel) (Nat.le_of_ble_eq_true rfl) rfl rfl (zRn.mono (h61 hk (by omega)) (fun rv h' hq => ?_))
    obtain ⟨rfl, e2, rfl, r2⟩ := hq
    refine ⟨rfl, ?_⟩
    show zW X _ 65 5 [.ifCond .eq 10] [.ref 188, iv e1] [iv e2] (gH k (aPut (aPut (aPut (aPut M1 188 26 (Int32.ofInt (M1 188 25).toInt)) 188 27 (Int32.ofInt 1)) 188 25 (Int32.ofInt ((M1 188 25).toInt + 1))) 188 28 (Int32.ofInt e1))) _
    refine wIf0 (n1 := 10) rfl bk_65_10 bk_65_6 (by omega) (fun g1 => ?_) (fun g1 => ?_)
    · replace g1 : e2 = 0 := g1
      refine wP (ls' := [.ref 188, iv e1]) (st' := [.ref 188]) rfl rfl ?_
      refine wP (ls' := [.ref 188, iv e1]) (st' := [iv e1, .ref 188]) rfl rfl ?_
      refine wCall hk (q := 62) (na := 1) (a := 188) (as := [iv e1]) (t := []) rfl (by decide +kernel) (by decide) (by decide +kernel) (Nat.le_of_ble_eq_true rfl) rfl rfl (zRn.mono (h62 hk (by omega)) (fun rv h' hq => ?_))
      obtain ⟨rfl, e3, rfl, r3⟩ := hq
      refine ⟨rfl, ?_⟩
      show zW X _ 65 10 [.ifCond .eq 19] [.ref 188, iv e1] [iv e3] (gH k (aPut (aPut (aPut (aPut M1 188 26 (Int32.ofInt (M1 188 25).toInt)) 188 27 (Int32.ofInt 1)) 188 25 (Int32.ofInt ((M1 188 25).toInt + 1))) 188 28 (Int32.ofInt e1))) _
      refine wIf0 (n1 := 19) rfl bk_65_19 bk_65_11 (by omega) (fun g2 => ?_) (fun g2 => ?_)
      · replace g2 : e3 = 0 := g2
        refine wP (ls' := [.ref 188, iv e1]) (st' := [.ref 188]) rfl rfl ?_
        refine wP (ls' := [.ref 188, iv e1]) (st' := [iv e1, .ref 188]) rfl rfl ?_
        refine wCall hk (q := 63) (na := 1) (a := 188) (as := [iv e1]) (t := []) rfl (by decide +kernel) (by decide) (by decide +kernel) (Nat.le_of_ble_eq_true rfl) rfl rfl (zRn.mono (h63 hk (by omega)) (fun rv h' hq => ?_))
        obtain ⟨rfl, e4, rfl, r4⟩ := hq
        refine ⟨rfl, ?_⟩
        show zW X _ 65 19 [.ifCond .eq 21] [.ref 188, iv e1] [iv e4] (gH k (aPut (aPut (aPut (aPut M1 188 26 (Int32.ofInt (M1 188 25).toInt)) 188 27 (Int32.ofInt 1)) 188 25 (Int32.ofInt ((M1 188 25).toInt + 1))) 188 28 (Int32.ofInt e1))) _
        refine wIf0 (n1 := 21) rfl bk_65_21 bk_65_20 (by omega) (fun g3 => ?_) (fun g3 => ?_)
        · replace g3 : e4 = 0 := g3
          refine wRet0 (by decide +kernel) ⟨_, rfl, rfl, ?_⟩
          have v25 : ((aPut (aPut (aPut (aPut M1 188 26 (Int32.ofInt (M1 188 25).toInt)) 188 27 (Int32.ofInt 1)) 188 25 (Int32.ofInt ((M1 188 25).toInt + 1))) 188 28 (Int32.ofInt e1)) 188 25).toInt = ((M1 188 25).toInt + 1) := by rw [aPut_f (by decide), aPut_e]; first | (exact iR (by omega) (by omega)) | (exact congrArg Int32.toInt (iE _).symm)
          have v26 : ((aPut (aPut (aPut (aPut M1 188 26 (Int32.ofInt (M1 188 25).toInt)) 188 27 (Int32.ofInt 1)) 188 25 (Int32.ofInt ((M1 188 25).toInt + 1))) 188 28 (Int32.ofInt e1)) 188 26).toInt = (M1 188 25).toInt := by rw [aPut_f (by decide), aPut_f (by decide), aPut_f (by decide), aPut_e]; first | (exact iR (by omega) (by omega)) | (exact congrArg Int32.toInt (iE _).symm)
          have v27 : ((aPut (aPut (aPut (aPut M1 188 26 (Int32.ofInt (M1 188 25).toInt)) 188 27 (Int32.ofInt 1)) 188 25 (Int32.ofInt ((M1 188 25).toInt + 1))) 188 28 (Int32.ofInt e1)) 188 27).toInt = 1 := by rw [aPut_f (by decide), aPut_f (by decide), aPut_e]; first | (exact iR (by omega) (by omega)) | (exact congrArg Int32.toInt (iE _).symm)
          have v28 : ((aPut (aPut (aPut (aPut M1 188 26 (Int32.ofInt (M1 188 25).toInt)) 188 27 (Int32.ofInt 1)) 188 25 (Int32.ofInt ((M1 188 25).toInt + 1))) 188 28 (Int32.ofInt e1)) 188 28).toInt = e1 := by rw [aPut_e]; first | (exact iR (by omega) (by omega)) | (exact congrArg Int32.toInt (iE _).symm)
          exact ⟨(fun a ha => by rw [aPut_r ha, aPut_r ha, aPut_r ha, aPut_r ha]; exact hA a ha), (fun f f1 f2 f3 f4 => by rw [aPut_f f4, aPut_f f1, aPut_f f3, aPut_f f2]; exact hF f f1 f2 f3 f4), by omega, by omega, by omega, by omega, by omega, fun _ => by omega, fun _ => by omega, fun _ => by omega⟩
        · replace g3 : ¬ (e4 = 0) := g3
          refine wP (ls' := [.ref 188, iv e1]) (st' := [.ref 188]) rfl rfl ?_
          refine wP (ls' := [.ref 188, iv e1]) (st' := [iv 4, .ref 188]) rfl rfl ?_
          refine wPutN hk (f := 27) (by decide +kernel) (Or.inl rfl) ?_
          refine zW_fall bk_65_21 ?_
          refine wRet0 (by decide +kernel) ⟨_, rfl, rfl, ?_⟩
          have v25 : ((aPut (aPut (aPut (aPut (aPut M1 188 26 (Int32.ofInt (M1 188 25).toInt)) 188 27 (Int32.ofInt 1)) 188 25 (Int32.ofInt ((M1 188 25).toInt + 1))) 188 28 (Int32.ofInt e1)) 188 27 (Int32.ofInt 4)) 188 25).toInt = ((M1 188 25).toInt + 1) := by rw [aPut_f (by decide), aPut_f (by decide), aPut_e]; first | (exact iR (by omega) (by omega)) | (exact congrArg Int32.toInt (iE _).symm)
          have v26 : ((aPut (aPut (aPut (aPut (aPut M1 188 26 (Int32.ofInt (M1 188 25).toInt)) 188 27 (Int32.ofInt 1)) 188 25 (Int32.ofInt ((M1 188 25).toInt + 1))) 188 28 (Int32.ofInt e1)) 188 27 (Int32.ofInt 4)) 188 26).toInt = (M1 188 25).toInt := by rw [aPut_f (by decide), aPut_f (by decide), aPut_f (by decide), aPut_f (by decide), aPut_e]; first | (exact iR (by omega) (by omega)) | (exact congrArg Int32.toInt (iE _).symm)
          have v27 : ((aPut (aPut (aPut (aPut (aPut M1 188 26 (Int32.ofInt (M1 188 25).toInt)) 188 27 (Int32.ofInt 1)) 188 25 (Int32.ofInt ((M1 188 25).toInt + 1))) 188 28 (Int32.ofInt e1)) 188 27 (Int32.ofInt 4)) 188 27).toInt = 4 := by rw [aPut_e]; first | (exact iR (by omega) (by omega)) | (exact congrArg Int32.toInt (iE _).symm)
          have v28 : ((aPut (aPut (aPut (aPut (aPut M1 188 26 (Int32.ofInt (M1 188 25).toInt)) 188 27 (Int32.ofInt 1)) 188 25 (Int32.ofInt ((M1 188 25).toInt + 1))) 188 28 (Int32.ofInt e1)) 188 27 (Int32.ofInt 4)) 188 28).toInt = e1 := by rw [aPut_f (by decide), aPut_e]; first | (exact iR (by omega) (by omega)) | (exact congrArg Int32.toInt (iE _).symm)
          exact ⟨(fun a ha => by rw [aPut_r ha, aPut_r ha, aPut_r ha, aPut_r ha, aPut_r ha]; exact hA a ha), (fun f f1 f2 f3 f4 => by rw [aPut_f f3, aPut_f f4, aPut_f f1, aPut_f f3, aPut_f f2]; exact hF f f1 f2 f3 f4), by omega, by omega, by omega, by omega, by omega, fun _ => by omega, fun _ => by omega, fun _ => by omega⟩
      · replace g2 : ¬ (e3 = 0) := g2
        refine wP (ls' := [.ref 188, iv e1]) (st' := [.ref 188]) rfl rfl ?_
        refine wP (ls' := [.ref 188, iv e1]) (st' := [iv e1, .ref 188]) rfl rfl ?_
        refine wP (ls' := [.ref 188, iv e1]) (st' := [iv 48, iv e1, .ref 188]) rfl rfl ?_
        refine wSub ?_
        refine wPutN hk (f := 28) (by decide +kernel) (Or.inl rfl) ?_
        refine zW_fall bk_65_12 ?_
        have v25 : ((aPut (aPut (aPut (aPut (aPut M1 188 26 (Int32.ofInt (M1 188 25).toInt)) 188 27 (Int32.ofInt 1)) 188 25 (Int32.ofInt ((M1 188 25).toInt + 1))) 188 28 (Int32.ofInt e1)) 188 28 (Int32.ofInt (e1 - 48))) 188 25).toInt = ((M1 188 25).toInt + 1) := by rw [aPut_f (by decide), aPut_f (by decide), aPut_e]; first | (exact iR (by omega) (by omega)) | (exact congrArg Int32.toInt (iE _).symm)
        have v26 : ((aPut (aPut (aPut (aPut (aPut M1 188 26 (Int32.ofInt (M1 188 25).toInt)) 188 27 (Int32.ofInt 1)) 188 25 (Int32.ofInt ((M1 188 25).toInt + 1))) 188 28 (Int32.ofInt e1)) 188 28 (Int32.ofInt (e1 - 48))) 188 26).toInt = (M1 188 25).toInt := by rw [aPut_f (by decide), aPut_f (by decide), aPut_f (by decide), aPut_f (by decide), aPut_e]; first | (exact iR (by omega) (by omega)) | (exact congrArg Int32.toInt (iE _).symm)
        have v27 : ((aPut (aPut (aPut (aPut (aPut M1 188 26 (Int32.ofInt (M1 188 25).toInt)) 188 27 (Int32.ofInt 1)) 188 25 (Int32.ofInt ((M1 188 25).toInt + 1))) 188 28 (Int32.ofInt e1)) 188 28 (Int32.ofInt (e1 - 48))) 188 27).toInt = 1 := by rw [aPut_f (by decide), aPut_f (by decide), aPut_f (by decide), aPut_e]; first | (exact iR (by omega) (by omega)) | (exact congrArg Int32.toInt (iE _).symm)
        have v28 : ((aPut (aPut (aPut (aPut (aPut M1 188 26 (Int32.ofInt (M1 188 25).toInt)) 188 27 (Int32.ofInt 1)) 188 25 (Int32.ofInt ((M1 188 25).toInt + 1))) 188 28 (Int32.ofInt e1)) 188 28 (Int32.ofInt (e1 - 48))) 188 28).toInt = (e1 - 48) := by rw [aPut_e]; first | (exact iR (by omega) (by omega)) | (exact congrArg Int32.toInt (iE _).symm)
        exact h65_l3 hk ht h0 hw (f0 := (M1 188 25).toInt) hs1 ((M 188 24).toInt).toNat (aPut (aPut (aPut (aPut (aPut M1 188 26 (Int32.ofInt (M1 188 25).toInt)) 188 27 (Int32.ofInt 1)) 188 25 (Int32.ofInt ((M1 188 25).toInt + 1))) 188 28 (Int32.ofInt e1)) 188 28 (Int32.ofInt (e1 - 48))) (fun a ha => by rw [aPut_r ha, aPut_r ha, aPut_r ha, aPut_r ha, aPut_r ha]; exact hA a ha) (fun f f1 f2 f3 f4 => by rw [aPut_f f4, aPut_f f4, aPut_f f1, aPut_f f3, aPut_f f2]; exact hF f f1 f2 f3 f4) (by omega) (by omega) (by omega) (by omega) (by omega) (by omega)
    · replace g1 : ¬ (e2 = 0) := g1
      have v25 : ((aPut (aPut (aPut (aPut M1 188 26 (Int32.ofInt (M1 188 25).toInt)) 188 27 (Int32.ofInt 1)) 188 25 (Int32.ofInt ((M1 188 25).toInt + 1))) 188 28 (Int32.ofInt e1)) 188 25).toInt = ((M1 188 25).toInt + 1) := by rw [aPut_f (by decide), aPut_e]; first | (exact iR (by omega) (by omega)) | (exact congrArg Int32.toInt (iE _).symm)
      have v26 : ((aPut (aPut (aPut (aPut M1 188 26 (Int32.ofInt (M1 188 25).toInt)) 188 27 (Int32.ofInt 1)) 188 25 (Int32.ofInt ((M1 188 25).toInt + 1))) 188 28 (Int32.ofInt e1)) 188 26).toInt = (M1 188 25).toInt := by rw [aPut_f (by decide), aPut_f (by decide), aPut_f (by decide), aPut_e]; first | (exact iR (by omega) (by omega)) | (exact congrArg Int32.toInt (iE _).symm)
      have v27 : ((aPut (aPut (aPut (aPut M1 188 26 (Int32.ofInt (M1 188 25).toInt)) 188 27 (Int32.ofInt 1)) 188 25 (Int32.ofInt ((M1 188 25).toInt + 1))) 188 28 (Int32.ofInt e1)) 188 27).toInt = 1 := by rw [aPut_f (by decide), aPut_f (by decide), aPut_e]; first | (exact iR (by omega) (by omega)) | (exact congrArg Int32.toInt (iE _).symm)
      exact h65_l2 hk ht h0 hw (f0 := (M1 188 25).toInt) hs1 ((M 188 24).toInt).toNat (aPut (aPut (aPut (aPut M1 188 26 (Int32.ofInt (M1 188 25).toInt)) 188 27 (Int32.ofInt 1)) 188 25 (Int32.ofInt ((M1 188 25).toInt + 1))) 188 28 (Int32.ofInt e1)) (fun a ha => by rw [aPut_r ha, aPut_r ha, aPut_r ha, aPut_r ha]; exact hA a ha) (fun f f1 f2 f3 f4 => by rw [aPut_f f4, aPut_f f1, aPut_f f3, aPut_f f2]; exact hF f f1 f2 f3 f4) (by omega) (by omega) (by omega) (by omega) (fun j j1 j2 => by
          have e1 : j = ((M1 188 25).toInt).toNat := by omega
          unfold gLet
          rw [e1, ← a202]
          omega) (by omega)
  · replace g0 : ¬ (¬ e1 = (-1)) := g0
    refine wP (ls' := [.ref 188, iv e1]) (st' := [.ref 188]) rfl rfl ?_
    refine wP (ls' := [.ref 188, iv e1]) (st' := [iv 0, .ref 188]) rfl rfl ?_
    refine wPutN hk (f := 27) (by decide +kernel) (Or.inl rfl) ?_
    refine wRet0 (by decide +kernel) ⟨_, rfl, rfl, ?_⟩
    have v25 : ((aPut (aPut (aPut M1 188 26 (Int32.ofInt (M1 188 25).toInt)) 188 27 (Int32.ofInt 1)) 188 27 (Int32.ofInt 0)) 188 25).toInt = (M1 188 25).toInt := by rw [aPut_f (by decide), aPut_f (by decide), aPut_f (by decide)]
    have v26 : ((aPut (aPut (aPut M1 188 26 (Int32.ofInt (M1 188 25).toInt)) 188 27 (Int32.ofInt 1)) 188 27 (Int32.ofInt 0)) 188 26).toInt = (M1 188 25).toInt := by rw [aPut_f (by decide), aPut_f (by decide), aPut_e]; first | (exact iR (by omega) (by omega)) | (exact congrArg Int32.toInt (iE _).symm)
    have v27 : ((aPut (aPut (aPut M1 188 26 (Int32.ofInt (M1 188 25).toInt)) 188 27 (Int32.ofInt 1)) 188 27 (Int32.ofInt 0)) 188 27).toInt = 0 := by rw [aPut_e]; first | (exact iR (by omega) (by omega)) | (exact congrArg Int32.toInt (iE _).symm)
    have v28 : ((aPut (aPut (aPut M1 188 26 (Int32.ofInt (M1 188 25).toInt)) 188 27 (Int32.ofInt 1)) 188 27 (Int32.ofInt 0)) 188 28).toInt = (M1 188 28).toInt := by rw [aPut_f (by decide), aPut_f (by decide), aPut_f (by decide)]
    exact ⟨(fun a ha => by rw [aPut_r ha, aPut_r ha, aPut_r ha]; exact hA a ha), (fun f f1 f2 f3 f4 => by rw [aPut_f f3, aPut_f f3, aPut_f f2]; exact hF f f1 f2 f3 f4), by omega, by omega, by omega, by omega, by omega, fun _ => by omega, fun _ => by omega, fun _ => by omega⟩
theorem h65_l1 {X : aX} {d : Nat} {k : Nat → aK} (hk : gKs k) {M : Nat → Nat → Int32} (ht : 0 ≤ (M 188 24).toInt ∧ (M 188 24).toInt ≤ 500) (h0 : 0 ≤ (M 188 25).toInt) (hw : ∀ j, j < 156 → M 203 j = Int32.ofInt (gWd.getD j 0)) {u1 : Value} :
    ∀ (n : Nat) (M1 : Nat → Nat → Int32) (hA : ∀ a, a ≠ 188 → M1 a = M a) (hF : ∀ f, f ≠ 25 → f ≠ 26 → f ≠ 27 → f ≠ 28 → M1 188 f = M 188 f) (hs1 : (M 188 25).toInt ≤ (M1 188 25).toInt) (hs2 : (M1 188 25).toInt ≤ (M 188 24).toInt), (M 188 24).toInt - (M1 188 25).toInt ≤ n → zW X (d + 1 + 1 + 1) 65 0 [.aload 0, .aload 0, .getfield 126712100, .invokevirtual 1536060, .bipush 32, .if_icmp .eq 2] [.ref 188, u1] [] (gH k M1) (fun rv h' => ∃ M', rv = none ∧ h' = gH k M' ∧ gRd M M') := by
  intro n
  induction n with
  | zero =>
    intro M1 hA hF hs1 hs2 hn
    have t1 : (M1 188 24).toInt = (M 188 24).toInt := by rw [hF 24 (by decide) (by decide) (by decide) (by decide)]
    have a202 : M1 202 = M 202 := hA 202 (by decide)
    refine wP (ls' := [.ref 188, u1]) (st' := [.ref 188]) rfl rfl ?_
    refine wP (ls' := [.ref 188, u1]) (st' := [.ref 188, .ref 188]) rfl rfl ?_
    refine wGetN hk (f := 25) (e := (M1 188 25).toInt) (by decide +kernel) (iE _) ?_
    refine wCall hk (q := 60) (na := 1) (a := 188) (as := [iv (M1 188 25).toInt]) (t := []) rfl (by decide +kernel) (by decide) (by decide +kernel) (Nat.le_of_ble_eq_true rfl) rfl rfl (zRn.mono (h60 hk (by omega) (by omega)) (fun rv h' hq => ?_))
    obtain ⟨rfl, e1, rfl, r1⟩ := hq
    have be1 := iG (M1 202 ((M1 188 25).toInt).toNat)
    refine ⟨rfl, ?_⟩
    show zW X _ 65 0 [.bipush 32, .if_icmp .eq 2] [.ref 188, u1] [iv e1] (gH k M1) _
    refine wP (ls' := [.ref 188, u1]) (st' := [iv 32, iv e1]) rfl rfl ?_
    refine wIfc (n1 := 2) rfl bk_65_2 bk_65_1 (by omega) (by omega) (fun g0 => ?_) (fun g0 => ?_)
    · replace g0 : e1 = 32 := g0
      exact absurd g0 (by omega)
    · replace g0 : ¬ (e1 = 32) := g0
      refine wP (ls' := [.ref 188, u1]) (st' := [.ref 188]) rfl rfl ?_
      refine wP (ls' := [.ref 188, u1]) (st' := [.ref 188, .ref 188]) rfl rfl ?_
      refine wGetN hk (f := 25) (e := (M1 188 25).toInt) (by decide +kernel) (iE _) ?_
      refine wCall hk (q := 60) (na := 1) (a := 188) (as := [iv (M1 188 25).toInt]) (t := []) rfl (by decide +kernel) (by decide) (by decide +kernel) (Nat.le_of_ble_eq_true rfl) rfl rfl (zRn.mono (h60 hk (by omega) (by omega)) (fun rv h' hq => ?_))
      obtain ⟨rfl, e2, rfl, r2⟩ := hq
      have be2 := iG (M1 202 ((M1 188 25).toInt).toNat)
      refine ⟨rfl, ?_⟩
      show zW X _ 65 1 [.bipush 10, .if_icmp .ne 3] [.ref 188, u1] [iv e2] (gH k M1) _
      refine wP (ls' := [.ref 188, u1]) (st' := [iv 10, iv e2]) rfl rfl ?_
      refine wIfc (n1 := 3) rfl bk_65_3 bk_65_2 (by omega) (by omega) (fun g1 => ?_) (fun g1 => ?_)
      · replace g1 : ¬ e2 = 10 := g1
        have v25 : (M1 188 25).toInt = (M1 188 25).toInt := rfl
        exact h65_r hk ht h0 hw (fun a ha => hA a ha) (fun f f1 f2 f3 f4 => hF f f1 f2 f3 f4) (by omega) (by omega)
      · replace g1 : ¬ (¬ e2 = 10) := g1
        exact absurd g1 (by omega)
  | succ n ih =>
    intro M1 hA hF hs1 hs2 hn
    have t1 : (M1 188 24).toInt = (M 188 24).toInt := by rw [hF 24 (by decide) (by decide) (by decide) (by decide)]
    have a202 : M1 202 = M 202 := hA 202 (by decide)
    refine wP (ls' := [.ref 188, u1]) (st' := [.ref 188]) rfl rfl ?_
    refine wP (ls' := [.ref 188, u1]) (st' := [.ref 188, .ref 188]) rfl rfl ?_
    refine wGetN hk (f := 25) (e := (M1 188 25).toInt) (by decide +kernel) (iE _) ?_
    refine wCall hk (q := 60) (na := 1) (a := 188) (as := [iv (M1 188 25).toInt]) (t := []) rfl (by decide +kernel) (by decide) (by decide +kernel) (Nat.le_of_ble_eq_true rfl) rfl rfl (zRn.mono (h60 hk (by omega) (by omega)) (fun rv h' hq => ?_))
    obtain ⟨rfl, e1, rfl, r1⟩ := hq
    have be1 := iG (M1 202 ((M1 188 25).toInt).toNat)
    refine ⟨rfl, ?_⟩
    show zW X _ 65 0 [.bipush 32, .if_icmp .eq 2] [.ref 188, u1] [iv e1] (gH k M1) _
    refine wP (ls' := [.ref 188, u1]) (st' := [iv 32, iv e1]) rfl rfl ?_
    refine wIfc (n1 := 2) rfl bk_65_2 bk_65_1 (by omega) (by omega) (fun g0 => ?_) (fun g0 => ?_)
    · replace g0 : e1 = 32 := g0
      refine wP (ls' := [.ref 188, u1]) (st' := [.ref 188]) rfl rfl ?_
      refine wP (ls' := [.ref 188, u1]) (st' := [.ref 188, .ref 188]) rfl rfl ?_
      refine wGetN hk (f := 25) (e := (M1 188 25).toInt) (by decide +kernel) (iE _) ?_
      refine wP (ls' := [.ref 188, u1]) (st' := [iv 1, iv (M1 188 25).toInt, .ref 188]) rfl rfl ?_
      refine wAdd ?_
      refine wPutN hk (f := 25) (by decide +kernel) (Or.inl rfl) ?_
      refine wGoto (n1 := 0) rfl bk_65_0 ?_
      have v25 : ((aPut M1 188 25 (Int32.ofInt ((M1 188 25).toInt + 1))) 188 25).toInt = ((M1 188 25).toInt + 1) := by rw [aPut_e]; first | (exact iR (by omega) (by omega)) | (exact congrArg Int32.toInt (iE _).symm)
      exact ih (aPut M1 188 25 (Int32.ofInt ((M1 188 25).toInt + 1))) (fun a ha => by rw [aPut_r ha]; exact hA a ha) (fun f f1 f2 f3 f4 => by rw [aPut_f f1]; exact hF f f1 f2 f3 f4) (by omega) (by omega) (by omega)
    · replace g0 : ¬ (e1 = 32) := g0
      refine wP (ls' := [.ref 188, u1]) (st' := [.ref 188]) rfl rfl ?_
      refine wP (ls' := [.ref 188, u1]) (st' := [.ref 188, .ref 188]) rfl rfl ?_
      refine wGetN hk (f := 25) (e := (M1 188 25).toInt) (by decide +kernel) (iE _) ?_
      refine wCall hk (q := 60) (na := 1) (a := 188) (as := [iv (M1 188 25).toInt]) (t := []) rfl (by decide +kernel) (by decide) (by decide +kernel) (Nat.le_of_ble_eq_true rfl) rfl rfl (zRn.mono (h60 hk (by omega) (by omega)) (fun rv h' hq => ?_))
      obtain ⟨rfl, e2, rfl, r2⟩ := hq
      have be2 := iG (M1 202 ((M1 188 25).toInt).toNat)
      refine ⟨rfl, ?_⟩
      show zW X _ 65 1 [.bipush 10, .if_icmp .ne 3] [.ref 188, u1] [iv e2] (gH k M1) _
      refine wP (ls' := [.ref 188, u1]) (st' := [iv 10, iv e2]) rfl rfl ?_
      refine wIfc (n1 := 3) rfl bk_65_3 bk_65_2 (by omega) (by omega) (fun g1 => ?_) (fun g1 => ?_)
      · replace g1 : ¬ e2 = 10 := g1
        have v25 : (M1 188 25).toInt = (M1 188 25).toInt := rfl
        exact h65_r hk ht h0 hw (fun a ha => hA a ha) (fun f f1 f2 f3 f4 => hF f f1 f2 f3 f4) (by omega) (by omega)
      · replace g1 : ¬ (¬ e2 = 10) := g1
        refine wP (ls' := [.ref 188, u1]) (st' := [.ref 188]) rfl rfl ?_
        refine wP (ls' := [.ref 188, u1]) (st' := [.ref 188, .ref 188]) rfl rfl ?_
        refine wGetN hk (f := 25) (e := (M1 188 25).toInt) (by decide +kernel) (iE _) ?_
        refine wP (ls' := [.ref 188, u1]) (st' := [iv 1, iv (M1 188 25).toInt, .ref 188]) rfl rfl ?_
        refine wAdd ?_
        refine wPutN hk (f := 25) (by decide +kernel) (Or.inl rfl) ?_
        refine wGoto (n1 := 0) rfl bk_65_0 ?_
        have v25 : ((aPut M1 188 25 (Int32.ofInt ((M1 188 25).toInt + 1))) 188 25).toInt = ((M1 188 25).toInt + 1) := by rw [aPut_e]; first | (exact iR (by omega) (by omega)) | (exact congrArg Int32.toInt (iE _).symm)
        exact ih (aPut M1 188 25 (Int32.ofInt ((M1 188 25).toInt + 1))) (fun a ha => by rw [aPut_r ha]; exact hA a ha) (fun f f1 f2 f3 f4 => by rw [aPut_f f1]; exact hF f f1 f2 f3 f4) (by omega) (by omega) (by omega)
theorem h65 {X : aX} {d : Nat} {k : Nat → aK} (hk : gKs k) {M : Nat → Nat → Int32} (ht : 0 ≤ (M 188 24).toInt ∧ (M 188 24).toInt ≤ 500) (h0 : 0 ≤ (M 188 25).toInt) (hw : ∀ j, j < 156 → M 203 j = Int32.ofInt (gWd.getD j 0)) (hst : (M 188 25).toInt ≤ (M 188 24).toInt) :
    zRn X (d + 1 + 1 + 1 + 1) 65 [.ref 188] (gH k M) (fun rv h' => ∃ M', rv = none ∧ h' = gH k M' ∧ gRd M M') := by
  refine wEnt (n := 2) (ls := [.ref 188, aD]) bk_65_0 (by decide +kernel) rfl rfl rfl ?_
  exact h65_l1 hk ht h0 hw ((M 188 24).toInt).toNat M (fun _ _ => rfl) (fun _ _ _ _ _ => rfl) (Int.le_refl _) hst (by omega)
