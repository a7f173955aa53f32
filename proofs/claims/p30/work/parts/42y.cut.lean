/-! cut: how many ways there are, by hand -/
def gCh : Nat → Nat → Nat
  | 0, 0 => 1
  | 0, _ + 1 => 0
  | _ + 1, 0 => 1
  | m + 1, j + 1 => gCh m j + gCh m (j + 1)
theorem gCh_0 : ∀ {m j : Nat}, m < j → gCh m j = 0 := by
  intro m
  induction m with
  | zero => intro j h; cases j with
    | zero => omega
    | succ j => rfl
  | succ m ih => intro j h; cases j with
    | zero => omega
    | succ j =>
      show gCh m j + gCh m (j + 1) = 0
      rw [ih (by omega), ih (by omega)]
theorem gCh_z {m : Nat} : gCh m 0 = 1 := by cases m <;> rfl
theorem gCh_ok : ((List.range 25).all fun m => (List.range (m + 1)).all fun j => decide (1 ≤ gCh m j ∧ gCh m j ≤ 3000000)) = true := by decide +kernel
/-- the sum of the first numbers of a row -/
def gRs (W : Nat → Int32) (j : Nat) : Nat → Int32
  | 0 => 0
  | s + 1 => gRs W j s + W (2380 * j + s)
theorem gRs_eq {W W' : Nat → Int32} {j : Nat} : ∀ t, (∀ s, s < t → W' (2380 * j + s) = W (2380 * j + s)) → gRs W' j t = gRs W j t := by
  intro t
  induction t with
  | zero => intro _; rfl
  | succ t ih =>
    intro h
    unfold gRs
    rw [ih (fun s hs => h s (by omega)), h t (by omega)]
theorem gRs_tl {W : Nat → Int32} {j u : Nat} : ∀ t, u ≤ t → (∀ s, u ≤ s → s < t → W (2380 * j + s) = 0) → gRs W j t = gRs W j u := by
  intro t
  induction t with
  | zero => intro h _; rw [show u = 0 by omega]
  | succ t ih =>
    intro h z
    by_cases q : u = t + 1
    · rw [q]
    · show gRs W j t + W (2380 * j + t) = _
      rw [ih (by omega) (fun s s1 s2 => z s s1 (by omega)), z t (by omega) (by omega), Int32.add_zero]
theorem gRs_up {W0 W : Nat → Int32} {q v : Nat} : ∀ t, (∀ s, s < t → s < v → W (2380 * (q + 1) + s) = W0 (2380 * (q + 1) + s)) → (∀ s, s < t → v ≤ s → W (2380 * (q + 1) + s) = W0 (2380 * (q + 1) + s) + W0 (2380 * q + (s - v))) → gRs W (q + 1) t = gRs W0 (q + 1) t + gRs W0 q (t - v) := by
  intro t
  induction t with
  | zero =>
    intro _ _
    rw [Nat.zero_sub]
    rfl
  | succ t ih =>
    intro h1 h2
    have ih := ih (fun s a b => h1 s (by omega) b) (fun s a b => h2 s (by omega) b)
    by_cases c : v ≤ t
    · rw [show t + 1 - v = (t - v) + 1 by omega]
      unfold gRs
      rw [ih, h2 t (by omega) c]
      ac_rfl
    · rw [show t + 1 - v = t - v by omega]
      conv => lhs; unfold gRs
      conv => rhs; unfold gRs
      rw [ih, h1 t (by omega) (by omega), show t - v = 0 by omega]
      show gRs W0 (q + 1) t + 0 + W0 (2380 * (q + 1) + t) = gRs W0 (q + 1) t + W0 (2380 * (q + 1) + t) + 0
      rw [Int32.add_zero, Int32.add_zero]
/-- a row behind so many boys -/
def gRw (W : Nat → Int32) (j m : Nat) : Prop := (∀ s, s < 2380 → 99 * m < s → W (2380 * j + s) = 0) ∧ gRs W j 2380 = Int32.ofInt (gCh m j)
theorem gRw_eq {W W' : Nat → Int32} {j m : Nat} (h : gRw W j m) (e : ∀ s, s < 2380 → W' (2380 * j + s) = W (2380 * j + s)) : gRw W' j m := ⟨fun s h1 h2 => by rw [e s h1]; exact h.1 s h1 h2, by rw [gRs_eq 2380 e]; exact h.2⟩
theorem gRw_up {W0 W : Nat → Int32} {q m v : Nat} (hm : m ≤ 23) (hv : v ≤ 99) (h1 : gRw W0 (q + 1) m) (h0 : gRw W0 q m) (e1 : ∀ s, s < 2380 → s < v → W (2380 * (q + 1) + s) = W0 (2380 * (q + 1) + s)) (e2 : ∀ s, s < 2380 → v ≤ s → W (2380 * (q + 1) + s) = W0 (2380 * (q + 1) + s) + W0 (2380 * q + (s - v))) : gRw W (q + 1) (m + 1) := by
  refine ⟨fun s a b => ?_, ?_⟩
  · rw [e2 s a (by omega), h1.1 s a (by omega), h0.1 (s - v) (by omega) (by omega)]
    rfl
  · rw [gRs_up (v := v) 2380 (fun s a b => e1 s a b) (fun s a b => e2 s a b), h1.2, ← gRs_tl (u := 2380 - v) 2380 (by omega) (fun s a b => h0.1 s b (by omega)), h0.2, ← Int32.ofInt_add]
    show Int32.ofInt _ = Int32.ofInt ((gCh m q + gCh m (q + 1) : Nat) : Int)
    congr 1
    omega
/-- how many boys are there; how many of the first wood -/
def gMt (M : Nat → Nat → Int32) : Nat → Nat
  | 0 => 0
  | k + 1 => gMt M k + (if (M 191 k).toInt = 0 then 0 else 1)
def gCt (M : Nat → Nat → Int32) : Nat → Nat
  | 0 => 0
  | k + 1 => gCt M k + (if (M 191 k).toInt = 1 ∧ (M 189 k).toInt = 0 then 1 else 0)
theorem gCt_le {M : Nat → Nat → Int32} : ∀ k, gCt M k ≤ gMt M k ∧ gMt M k ≤ k := by
  intro k
  induction k with
  | zero => exact ⟨Nat.le_refl _, Nat.le_refl _⟩
  | succ k ih =>
    unfold gCt gMt
    split
    · rename_i c
      rw [if_neg (by omega)]
      omega
    · split <;> omega
/-- the rows while one boy is counted: those above q are done -/
def gMd (W : Nat → Int32) (m q : Nat) : Prop := ∀ j, j < 25 → (j ≤ q → gRw W j m) ∧ (q < j → gRw W j (m + 1))
theorem gRw_n {W : Nat → Int32} {j m : Nat} (h : gRw W j m) (e : gCh (m + 1) j = gCh m j) : gRw W j (m + 1) := ⟨fun s a b => h.1 s a (by omega), by rw [e]; exact h.2⟩
theorem gRw_s {W : Nat → Int32} (h0 : W 0 = 1) (hz : ∀ x, 0 < x → x < 59500 → W x = 0) {j : Nat} (hj : j < 25) : gRw W j 0 := by
  refine ⟨fun s a b => hz _ (by omega) (by omega), ?_⟩
  by_cases q : j = 0
  · subst q
    rw [gRs_tl (u := 1) 2380 (by omega) (fun s a b => hz _ (by omega) (by omega))]
    show gRs W 0 0 + W (2380 * 0 + 0) = _
    rw [h0]
    rfl
  · rw [gRs_tl (u := 0) 2380 (by omega) (fun s a b => hz _ (by omega) (by omega)), gCh_0 (by omega)]
    rfl
theorem bk_53_0 : (aMC 53)[0]? = some [.bipush 0, .istore 2, .bipush 0, .istore 3] := by decide +kernel
theorem bk_53_1 : (aMC 53)[1]? = some [.iload 3, .aload 0, .getfield 124412008, .if_icmp .ge 6] := by decide +kernel
theorem bk_53_2 : (aMC 53)[2]? = some [.aload 0, .getfield 124912030, .iload 3, .iaload, .bipush 1, .if_icmp .ne 5] := by decide +kernel
theorem bk_53_3 : (aMC 53)[3]? = some [.aload 0, .getfield 124712022, .iload 3, .iaload, .iload 1, .if_icmp .ne 5] := by decide +kernel
theorem bk_53_4 : (aMC 53)[4]? = some [.iload 2, .bipush 1, .iadd, .istore 2] := by decide +kernel
theorem bk_53_5 : (aMC 53)[5]? = some [.iinc 3 1, .goto 1] := by decide +kernel
theorem bk_53_6 : (aMC 53)[6]? = some [.iload 2, .ireturn] := by decide +kernel
theorem bk_129_0 : (aMC 129)[0]? = some [.bipush 0, .istore 1] := by decide +kernel
theorem bk_129_1 : (aMC 129)[1]? = some [.iload 1, .ldc_w 5330054473836, .if_icmp .ge 3] := by decide +kernel
theorem bk_129_2 : (aMC 129)[2]? = some [.aload 0, .getfield 131812306, .iload 1, .bipush 0, .iastore, .iinc 1 1, .goto 1] := by decide +kernel
theorem bk_129_3 : (aMC 129)[3]? = some [.aload 0, .getfield 131812306, .bipush 0, .bipush 1, .iastore, .bipush 0, .istore 1, .bipush 0, .istore 2] := by decide +kernel
theorem bk_129_4 : (aMC 129)[4]? = some [.iload 2, .aload 0, .getfield 124412008, .if_icmp .ge 14] := by decide +kernel
theorem bk_129_5 : (aMC 129)[5]? = some [.aload 0, .getfield 124912030, .iload 2, .iaload, .ifCond .ne 7] := by decide +kernel
theorem bk_129_6 : (aMC 129)[6]? = some [.goto 13] := by decide +kernel
theorem bk_129_7 : (aMC 129)[7]? = some [.iload 1, .bipush 1, .iadd, .istore 1, .iload 1, .istore 3] := by decide +kernel
theorem bk_129_8 : (aMC 129)[8]? = some [.iload 3, .ifCond .le 13] := by decide +kernel
theorem bk_129_9 : (aMC 129)[9]? = some [.bipush 2379, .istore 4] := by decide +kernel
theorem bk_129_10 : (aMC 129)[10]? = some [.iload 4, .aload 0, .getfield 125112038, .iload 2, .iaload, .if_icmp .lt 12] := by decide +kernel
theorem bk_129_11 : (aMC 129)[11]? = some [.aload 0, .getfield 131812306, .bipush 2380, .iload 3, .imul, .iload 4, .iadd, .aload 0, .getfield 131812306, .bipush 2380, .iload 3, .imul, .iload 4, .iadd, .iaload, .aload 0, .getfield 131812306, .bipush 2380, .iload 3, .bipush 1, .isub, .imul, .iload 4, .iadd, .aload 0, .getfield 125112038, .iload 2, .iaload, .isub, .iaload, .iadd, .iastore, .iinc 4 (-1), .goto 10] := by decide +kernel
theorem bk_129_12 : (aMC 129)[12]? = some [.iinc 3 (-1), .goto 8] := by decide +kernel
theorem bk_129_13 : (aMC 129)[13]? = some [.iinc 2 1, .goto 4] := by decide +kernel
theorem bk_129_14 : (aMC 129)[14]? = some [.return_] := by decide +kernel
theorem bk_130_0 : (aMC 130)[0]? = some [.aload 0, .bipush 0, .putfield 124212000, .aload 0, .iload 1, .bipush 0, .bipush 2, .invokevirtual 1492042, .ifCond .ne 2] := by decide +kernel
theorem bk_130_1 : (aMC 130)[1]? = some [.bipush (-1), .ireturn] := by decide +kernel
theorem bk_130_2 : (aMC 130)[2]? = some [.aload 0, .invokevirtual 1841129, .aload 0, .bipush 0, .invokevirtual 1688053, .istore 2, .bipush 0, .istore 3, .bipush 0, .istore 4] := by decide +kernel
theorem bk_130_3 : (aMC 130)[3]? = some [.iload 4, .aload 0, .getfield 124412008, .if_icmp .ge 8] := by decide +kernel
theorem bk_130_4 : (aMC 130)[4]? = some [.aload 0, .getfield 124912030, .iload 4, .iaload, .bipush 1, .if_icmp .ne 7] := by decide +kernel
theorem bk_130_5 : (aMC 130)[5]? = some [.aload 0, .getfield 124712022, .iload 4, .iaload, .ifCond .ne 7] := by decide +kernel
theorem bk_130_6 : (aMC 130)[6]? = some [.iload 3, .aload 0, .getfield 125112038, .iload 4, .iaload, .iadd, .istore 3] := by decide +kernel
theorem bk_130_7 : (aMC 130)[7]? = some [.iinc 4 1, .goto 3] := by decide +kernel
theorem bk_130_8 : (aMC 130)[8]? = some [.bipush 0, .istore 4, .bipush 0, .istore 5, .bipush 0, .istore 6] := by decide +kernel
theorem bk_130_9 : (aMC 130)[9]? = some [.iload 6, .bipush 2380, .if_icmp .ge 13] := by decide +kernel
theorem bk_130_10 : (aMC 130)[10]? = some [.iload 4, .aload 0, .getfield 131812306, .bipush 2380, .iload 2, .imul, .iload 6, .iadd, .iaload, .iadd, .istore 4, .iload 6, .iload 3, .if_icmp .lt 12] := by decide +kernel
theorem bk_130_11 : (aMC 130)[11]? = some [.iload 5, .aload 0, .getfield 131812306, .bipush 2380, .iload 2, .imul, .iload 6, .iadd, .iaload, .iadd, .istore 5] := by decide +kernel
theorem bk_130_12 : (aMC 130)[12]? = some [.iinc 6 1, .goto 9] := by decide +kernel
theorem bk_130_13 : (aMC 130)[13]? = some [.iload 1, .ifCond .ne 15] := by decide +kernel
theorem bk_130_14 : (aMC 130)[14]? = some [.iload 5, .goto 18] := by decide +kernel
theorem bk_130_15 : (aMC 130)[15]? = some [.iload 1, .bipush 1, .if_icmp .ne 17] := by decide +kernel
theorem bk_130_16 : (aMC 130)[16]? = some [.iload 4, .goto 18] := by decide +kernel
theorem bk_130_17 : (aMC 130)[17]? = some [.ldc2_w 34034242815994122732520, .iload 5, .i2l, .lmul, .iload 4, .i2l, .ldiv, .l2i] := by decide +kernel
theorem bk_130_18 : (aMC 130)[18]? = some [.ireturn] := by decide +kernel
theorem h53_l {X : aX} {d : Nat} {k : Nat → aK} (hk : gKs k) {M : Nat → Nat → Int32} {n : Nat} (hn : (M 188 2).toInt = n) (hn4 : n ≤ 24) : ∀ (r j : Nat) (i2 i3 : Int) (h3 : i3 = j) (hj : j ≤ n) (h2 : i2 = gCt M j) (hr : n - j ≤ r), zW X d 53 1 [.iload 3, .aload 0, .getfield 124412008, .if_icmp .ge 6] [.ref 188, iv 0, iv i2, iv i3] [] (gH k M) (fun rv h' => rv = some (iv (gCt M n)) ∧ h' = gH k M) := by
  intro r
  induction r with
  | zero =>
    intro j i2 i3 h3 hj h2 hr
    have cl := gCt_le (M := M) j
    refine wP (ls' := [.ref 188, iv 0, iv i2, iv i3]) (st' := [iv i3]) rfl rfl ?_
    refine wP (ls' := [.ref 188, iv 0, iv i2, iv i3]) (st' := [.ref 188, iv i3]) rfl rfl ?_
    refine wGetN hk (f := 2) (e := (M 188 2).toInt) (by decide +kernel) (iE _) ?_
    refine wIfc (n1 := 6) rfl bk_53_6 bk_53_2 (by omega) (by first | exact iG _ | omega) (fun g0 => ?_) (fun g0 => ?_)
    · replace g0 : ((M 188 2).toInt : Int) ≤ i3 := g0
      refine wP (ls' := [.ref 188, iv 0, iv i2, iv i3]) (st' := [iv i2]) rfl rfl ?_
      have e : i2 = gCt M n := by rw [h2, show j = n by omega]
      exact wIret (Or.inl (by decide +kernel)) ⟨by rw [e], rfl⟩
    · replace g0 : ¬ (((M 188 2).toInt : Int) ≤ i3) := g0
      refine wP (ls' := [.ref 188, iv 0, iv i2, iv i3]) (st' := [.ref 188]) rfl rfl ?_
      refine wGetR hk (r := 191) (by decide +kernel) ?_
      refine wP (ls' := [.ref 188, iv 0, iv i2, iv i3]) (st' := [iv i3, .ref 191]) rfl rfl ?_
      refine wIld hk (l := 24) (e := (M 191 (i3).toNat).toInt) (by decide +kernel) (by omega) (by omega) (iE _) ?_
      refine wP (ls' := [.ref 188, iv 0, iv i2, iv i3]) (st' := [iv 1, iv (M 191 (i3).toNat).toInt]) rfl rfl ?_
      refine wIfc (n1 := 5) rfl bk_53_5 bk_53_3 (by first | exact iG _ | omega) (by omega) (fun g1 => ?_) (fun g1 => ?_)
      · replace g1 : ¬ ((M 191 (i3).toNat).toInt : Int) = 1 := g1
        refine wInc (ls' := [.ref 188, iv 0, iv i2, iv (i3 + 1)]) rfl rfl ?_
        refine wGoto (n1 := 1) rfl bk_53_1 ?_
        exfalso
        omega
      · replace g1 : ¬ (¬ ((M 191 (i3).toNat).toInt : Int) = 1) := g1
        refine wP (ls' := [.ref 188, iv 0, iv i2, iv i3]) (st' := [.ref 188]) rfl rfl ?_
        refine wGetR hk (r := 189) (by decide +kernel) ?_
        refine wP (ls' := [.ref 188, iv 0, iv i2, iv i3]) (st' := [iv i3, .ref 189]) rfl rfl ?_
        refine wIld hk (l := 24) (e := (M 189 (i3).toNat).toInt) (by decide +kernel) (by omega) (by omega) (iE _) ?_
        refine wP (ls' := [.ref 188, iv 0, iv i2, iv i3]) (st' := [iv 0, iv (M 189 (i3).toNat).toInt]) rfl rfl ?_
        refine wIfc (n1 := 5) rfl bk_53_5 bk_53_4 (by first | exact iG _ | omega) (by omega) (fun g2 => ?_) (fun g2 => ?_)
        · replace g2 : ¬ ((M 189 (i3).toNat).toInt : Int) = 0 := g2
          refine wInc (ls' := [.ref 188, iv 0, iv i2, iv (i3 + 1)]) rfl rfl ?_
          refine wGoto (n1 := 1) rfl bk_53_1 ?_
          exfalso
          omega
        · replace g2 : ¬ (¬ ((M 189 (i3).toNat).toInt : Int) = 0) := g2
          refine wP (ls' := [.ref 188, iv 0, iv i2, iv i3]) (st' := [iv i2]) rfl rfl ?_
          refine wP (ls' := [.ref 188, iv 0, iv i2, iv i3]) (st' := [iv 1, iv i2]) rfl rfl ?_
          refine wAdd ?_
          refine wP (ls' := [.ref 188, iv 0, iv (i2 + 1), iv i3]) (st' := []) rfl rfl ?_
          refine zW_fall bk_53_5 ?_
          refine wInc (ls' := [.ref 188, iv 0, iv (i2 + 1), iv (i3 + 1)]) rfl rfl ?_
          refine wGoto (n1 := 1) rfl bk_53_1 ?_
          exfalso
          omega
  | succ r ih =>
    intro j i2 i3 h3 hj h2 hr
    have cl := gCt_le (M := M) j
    refine wP (ls' := [.ref 188, iv 0, iv i2, iv i3]) (st' := [iv i3]) rfl rfl ?_
    refine wP (ls' := [.ref 188, iv 0, iv i2, iv i3]) (st' := [.ref 188, iv i3]) rfl rfl ?_
    refine wGetN hk (f := 2) (e := (M 188 2).toInt) (by decide +kernel) (iE _) ?_
    refine wIfc (n1 := 6) rfl bk_53_6 bk_53_2 (by omega) (by first | exact iG _ | omega) (fun g0 => ?_) (fun g0 => ?_)
    · replace g0 : ((M 188 2).toInt : Int) ≤ i3 := g0
      refine wP (ls' := [.ref 188, iv 0, iv i2, iv i3]) (st' := [iv i2]) rfl rfl ?_
      have e : i2 = gCt M n := by rw [h2, show j = n by omega]
      exact wIret (Or.inl (by decide +kernel)) ⟨by rw [e], rfl⟩
    · replace g0 : ¬ (((M 188 2).toInt : Int) ≤ i3) := g0
      refine wP (ls' := [.ref 188, iv 0, iv i2, iv i3]) (st' := [.ref 188]) rfl rfl ?_
      refine wGetR hk (r := 191) (by decide +kernel) ?_
      refine wP (ls' := [.ref 188, iv 0, iv i2, iv i3]) (st' := [iv i3, .ref 191]) rfl rfl ?_
      refine wIld hk (l := 24) (e := (M 191 (i3).toNat).toInt) (by decide +kernel) (by omega) (by omega) (iE _) ?_
      refine wP (ls' := [.ref 188, iv 0, iv i2, iv i3]) (st' := [iv 1, iv (M 191 (i3).toNat).toInt]) rfl rfl ?_
      refine wIfc (n1 := 5) rfl bk_53_5 bk_53_3 (by first | exact iG _ | omega) (by omega) (fun g1 => ?_) (fun g1 => ?_)
      · replace g1 : ¬ ((M 191 (i3).toNat).toInt : Int) = 1 := g1
        refine wInc (ls' := [.ref 188, iv 0, iv i2, iv (i3 + 1)]) rfl rfl ?_
        refine wGoto (n1 := 1) rfl bk_53_1 ?_
        have e3 : (i3).toNat = j := by omega
        have st : gCt M (j + 1) = gCt M j + (if (M 191 j).toInt = 1 ∧ (M 189 j).toInt = 0 then 1 else 0) := rfl
        rw [← e3] at st
        rw [if_neg (by omega), e3] at st
        exact ih (j + 1) i2 (i3 + 1) (by omega) (by omega) (by rw [st]; omega) (by omega)
      · replace g1 : ¬ (¬ ((M 191 (i3).toNat).toInt : Int) = 1) := g1
        refine wP (ls' := [.ref 188, iv 0, iv i2, iv i3]) (st' := [.ref 188]) rfl rfl ?_
        refine wGetR hk (r := 189) (by decide +kernel) ?_
        refine wP (ls' := [.ref 188, iv 0, iv i2, iv i3]) (st' := [iv i3, .ref 189]) rfl rfl ?_
        refine wIld hk (l := 24) (e := (M 189 (i3).toNat).toInt) (by decide +kernel) (by omega) (by omega) (iE _) ?_
        refine wP (ls' := [.ref 188, iv 0, iv i2, iv i3]) (st' := [iv 0, iv (M 189 (i3).toNat).toInt]) rfl rfl ?_
        refine wIfc (n1 := 5) rfl bk_53_5 bk_53_4 (by first | exact iG _ | omega) (by omega) (fun g2 => ?_) (fun g2 => ?_)
        · replace g2 : ¬ ((M 189 (i3).toNat).toInt : Int) = 0 := g2
          refine wInc (ls' := [.ref 188, iv 0, iv i2, iv (i3 + 1)]) rfl rfl ?_
          refine wGoto (n1 := 1) rfl bk_53_1 ?_
          have e3 : (i3).toNat = j := by omega
          have st : gCt M (j + 1) = gCt M j + (if (M 191 j).toInt = 1 ∧ (M 189 j).toInt = 0 then 1 else 0) := rfl
          rw [← e3] at st
          rw [if_neg (by omega), e3] at st
          exact ih (j + 1) i2 (i3 + 1) (by omega) (by omega) (by rw [st]; omega) (by omega)
        · replace g2 : ¬ (¬ ((M 189 (i3).toNat).toInt : Int) = 0) := g2
          refine wP (ls' := [.ref 188, iv 0, iv i2, iv i3]) (st' := [iv i2]) rfl rfl ?_
          refine wP (ls' := [.ref 188, iv 0, iv i2, iv i3]) (st' := [iv 1, iv i2]) rfl rfl ?_
          refine wAdd ?_
          refine wP (ls' := [.ref 188, iv 0, iv (i2 + 1), iv i3]) (st' := []) rfl rfl ?_
          refine zW_fall bk_53_5 ?_
          refine wInc (ls' := [.ref 188, iv 0, iv (i2 + 1), iv (i3 + 1)]) rfl rfl ?_
          refine wGoto (n1 := 1) rfl bk_53_1 ?_
          have e3 : (i3).toNat = j := by omega
          have st : gCt M (j + 1) = gCt M j + (if (M 191 j).toInt = 1 ∧ (M 189 j).toInt = 0 then 1 else 0) := rfl
          rw [← e3] at st
          rw [if_pos ⟨by omega, by omega⟩, e3] at st
          exact ih (j + 1) (i2 + 1) (i3 + 1) (by omega) (by omega) (by rw [st]; omega) (by omega)
theorem h53 {X : aX} {d : Nat} {k : Nat → aK} (hk : gKs k) {M : Nat → Nat → Int32} {n : Nat} (hn : (M 188 2).toInt = n) (hn4 : n ≤ 24) : zRn X (d + 1) 53 [.ref 188, iv 0] (gH k M) (fun rv h' => rv = some (iv (gCt M n)) ∧ h' = gH k M) := by
  refine wEnt (n := 4) (ls := [.ref 188, iv 0, aD, aD]) bk_53_0 (by decide +kernel) rfl rfl rfl ?_
  refine wP (ls' := [.ref 188, iv 0, aD, aD]) (st' := [iv 0]) rfl rfl ?_
  refine wP (ls' := [.ref 188, iv 0, iv 0, aD]) (st' := []) rfl rfl ?_
  refine wP (ls' := [.ref 188, iv 0, iv 0, aD]) (st' := [iv 0]) rfl rfl ?_
  refine wP (ls' := [.ref 188, iv 0, iv 0, iv 0]) (st' := []) rfl rfl ?_
  refine zW_fall bk_53_1 ?_
  exact h53_l hk hn hn4 n 0 0 0 rfl (by omega) rfl (by omega)
set_option maxHeartbeats 4000000 in
theorem h129_i {X : aX} {d : Nat} {k : Nat → aK} (hk : gKs k) {M0 : Nat → Nat → Int32} {n : Nat} (hn : (M0 188 2).toInt = n) (hn4 : n ≤ 24) (hv : ∀ i, i < 24 → 0 ≤ (M0 193 i).toInt ∧ (M0 193 i).toInt ≤ 99) {m q kk v : Nat} {i1 i2 i3 : Int} (h2 : i2 = kk) (hk2 : kk < 24) (h3 : i3 = q + 1) (hq : q < 24) (hm : m ≤ 23) (hv' : (M0 193 kk).toInt = v) (hv9 : v ≤ 99) {W0 : Nat → Int32} (hW : gMd W0 m (q + 1)) (ih : ∀ (i4 : Int) (M1 : Nat → Nat → Int32), (∀ a, a ≠ 228 → M1 a = M0 a) → gMd (M1 228) m q → zW X d 129 8 [.iload 3, .ifCond .le 13] [.ref 188, iv i1, iv i2, iv q, iv i4] [] (gH k M1) (fun rv h' => ∃ M', rv = none ∧ h' = gH k M' ∧ (∀ a, a ≠ 228 → M' a = M0 a) ∧ ∀ j, j < 25 → gRw (M' 228) j (gMt M0 n))) :
    ∀ (r : Nat) (i4 : Int) (M1 : Nat → Nat → Int32) (h4 : (v : Int) - 1 ≤ i4 ∧ i4 ≤ 2379) (hr : i4 + 1 - v ≤ r) (hA : ∀ a, a ≠ 228 → M1 a = M0 a) (hO : ∀ x : Nat, (x < 2380 * (q + 1) ∨ 2380 * (q + 1) + 2380 ≤ x) → M1 228 x = W0 x) (hS : ∀ s : Nat, s < 2380 → ((s : Int) ≤ i4 → M1 228 (2380 * (q + 1) + s) = W0 (2380 * (q + 1) + s)) ∧ (i4 < s → M1 228 (2380 * (q + 1) + s) = W0 (2380 * (q + 1) + s) + W0 (2380 * q + (s - v)))), zW X d 129 10 [.iload 4, .aload 0, .getfield 125112038, .iload 2, .iaload, .if_icmp .lt 12] [.ref 188, iv i1, iv i2, iv i3, iv i4] [] (gH k M1) (fun rv h' => ∃ M', rv = none ∧ h' = gH k M' ∧ (∀ a, a ≠ 228 → M' a = M0 a) ∧ ∀ j, j < 25 → gRw (M' 228) j (gMt M0 n)) := by
  intro r
  induction r with
  | zero =>
    intro i4 M1 h4 hr hA hO hS
    have hvv : (M1 193 (i2).toNat).toInt = v := by rw [hA 193 (by decide), show (i2).toNat = kk by omega]; exact hv'
    refine wP (ls' := [.ref 188, iv i1, iv i2, iv i3, iv i4]) (st' := [iv i4]) rfl rfl ?_
    refine wP (ls' := [.ref 188, iv i1, iv i2, iv i3, iv i4]) (st' := [.ref 188, iv i4]) rfl rfl ?_
    refine wGetR hk (r := 193) (by decide +kernel) ?_
    refine wP (ls' := [.ref 188, iv i1, iv i2, iv i3, iv i4]) (st' := [iv i2, .ref 193, iv i4]) rfl rfl ?_
    refine wIld hk (l := 24) (e := (M1 193 (i2).toNat).toInt) (by decide +kernel) (by omega) (by omega) (iE _) ?_
    refine wIfc (n1 := 12) rfl bk_129_12 bk_129_11 (by omega) (by first | exact iG _ | omega) (fun g0 => ?_) (fun g0 => ?_)
    · replace g0 : (i4 : Int) < (M1 193 (i2).toNat).toInt := g0
      refine wInc (ls' := [.ref 188, iv i1, iv i2, iv (i3 + (-1)), iv i4]) rfl rfl ?_
      refine wGoto (n1 := 8) rfl bk_129_8 ?_
      have e4 : i4 = (v : Int) - 1 := by omega
      have md : gMd (M1 228) m q := fun j hj => ⟨fun a => gRw_eq ((hW j hj).1 (by omega)) (fun s hs => hO _ (by omega)), fun a => by
        by_cases c : j = q + 1
        · subst c
          exact gRw_up (v := v) hm (by omega) ((hW (q + 1) hj).1 (by omega)) ((hW q (by omega)).1 (by omega)) (fun s a b => (hS s a).1 (by omega)) (fun s a b => (hS s a).2 (by omega))
        · exact gRw_eq ((hW j hj).2 (by omega)) (fun s hs => hO _ (by omega))⟩
      have e5 : (i3 + -1) = (q : Int) := by omega
      rw [e5]
      exact ih i4 M1 hA md
    · replace g0 : ¬ ((i4 : Int) < (M1 193 (i2).toNat).toInt) := g0
      refine wP (ls' := [.ref 188, iv i1, iv i2, iv i3, iv i4]) (st' := [.ref 188]) rfl rfl ?_
      refine wGetR hk (r := 228) (by decide +kernel) ?_
      refine wP (ls' := [.ref 188, iv i1, iv i2, iv i3, iv i4]) (st' := [iv 2380, .ref 228]) rfl rfl ?_
      refine wP (ls' := [.ref 188, iv i1, iv i2, iv i3, iv i4]) (st' := [iv i3, iv 2380, .ref 228]) rfl rfl ?_
      refine wMul ?_
      refine wP (ls' := [.ref 188, iv i1, iv i2, iv i3, iv i4]) (st' := [iv i4, iv (2380 * i3), .ref 228]) rfl rfl ?_
      refine wAdd ?_
      refine wP (ls' := [.ref 188, iv i1, iv i2, iv i3, iv i4]) (st' := [.ref 188, iv ((2380 * i3) + i4), .ref 228]) rfl rfl ?_
      refine wGetR hk (r := 228) (by decide +kernel) ?_
      refine wP (ls' := [.ref 188, iv i1, iv i2, iv i3, iv i4]) (st' := [iv 2380, .ref 228, iv ((2380 * i3) + i4), .ref 228]) rfl rfl ?_
      refine wP (ls' := [.ref 188, iv i1, iv i2, iv i3, iv i4]) (st' := [iv i3, iv 2380, .ref 228, iv ((2380 * i3) + i4), .ref 228]) rfl rfl ?_
      refine wMul ?_
      refine wP (ls' := [.ref 188, iv i1, iv i2, iv i3, iv i4]) (st' := [iv i4, iv (2380 * i3), .ref 228, iv ((2380 * i3) + i4), .ref 228]) rfl rfl ?_
      refine wAdd ?_
      refine wIld hk (l := 59500) (e := (M1 228 (((2380 * i3) + i4)).toNat).toInt) (by decide +kernel) (by omega) (by omega) (iE _) ?_
      refine wP (ls' := [.ref 188, iv i1, iv i2, iv i3, iv i4]) (st' := [.ref 188, iv (M1 228 (((2380 * i3) + i4)).toNat).toInt, iv ((2380 * i3) + i4), .ref 228]) rfl rfl ?_
      refine wGetR hk (r := 228) (by decide +kernel) ?_
      refine wP (ls' := [.ref 188, iv i1, iv i2, iv i3, iv i4]) (st' := [iv 2380, .ref 228, iv (M1 228 (((2380 * i3) + i4)).toNat).toInt, iv ((2380 * i3) + i4), .ref 228]) rfl rfl ?_
      refine wP (ls' := [.ref 188, iv i1, iv i2, iv i3, iv i4]) (st' := [iv i3, iv 2380, .ref 228, iv (M1 228 (((2380 * i3) + i4)).toNat).toInt, iv ((2380 * i3) + i4), .ref 228]) rfl rfl ?_
      refine wP (ls' := [.ref 188, iv i1, iv i2, iv i3, iv i4]) (st' := [iv 1, iv i3, iv 2380, .ref 228, iv (M1 228 (((2380 * i3) + i4)).toNat).toInt, iv ((2380 * i3) + i4), .ref 228]) rfl rfl ?_
      refine wSub ?_
      refine wMul ?_
      refine wP (ls' := [.ref 188, iv i1, iv i2, iv i3, iv i4]) (st' := [iv i4, iv (2380 * (i3 - 1)), .ref 228, iv (M1 228 (((2380 * i3) + i4)).toNat).toInt, iv ((2380 * i3) + i4), .ref 228]) rfl rfl ?_
      refine wAdd ?_
      refine wP (ls' := [.ref 188, iv i1, iv i2, iv i3, iv i4]) (st' := [.ref 188, iv ((2380 * (i3 - 1)) + i4), .ref 228, iv (M1 228 (((2380 * i3) + i4)).toNat).toInt, iv ((2380 * i3) + i4), .ref 228]) rfl rfl ?_
      refine wGetR hk (r := 193) (by decide +kernel) ?_
      refine wP (ls' := [.ref 188, iv i1, iv i2, iv i3, iv i4]) (st' := [iv i2, .ref 193, iv ((2380 * (i3 - 1)) + i4), .ref 228, iv (M1 228 (((2380 * i3) + i4)).toNat).toInt, iv ((2380 * i3) + i4), .ref 228]) rfl rfl ?_
      refine wIld hk (l := 24) (e := (M1 193 (i2).toNat).toInt) (by decide +kernel) (by omega) (by omega) (iE _) ?_
      refine wSub ?_
      refine wIld hk (l := 59500) (e := (M1 228 ((((2380 * (i3 - 1)) + i4) - (M1 193 (i2).toNat).toInt)).toNat).toInt) (by decide +kernel) (by omega) (by omega) (iE _) ?_
      refine wAdd ?_
      refine wIst hk (l := 59500) (by decide +kernel) (by omega) (by omega) ?_
      refine wInc (ls' := [.ref 188, iv i1, iv i2, iv i3, iv (i4 + (-1))]) rfl rfl ?_
      refine wGoto (n1 := 10) rfl bk_129_10 ?_
      exfalso
      omega
  | succ r ihr =>
    intro i4 M1 h4 hr hA hO hS
    have hvv : (M1 193 (i2).toNat).toInt = v := by rw [hA 193 (by decide), show (i2).toNat = kk by omega]; exact hv'
    refine wP (ls' := [.ref 188, iv i1, iv i2, iv i3, iv i4]) (st' := [iv i4]) rfl rfl ?_
    refine wP (ls' := [.ref 188, iv i1, iv i2, iv i3, iv i4]) (st' := [.ref 188, iv i4]) rfl rfl ?_
    refine wGetR hk (r := 193) (by decide +kernel) ?_
    refine wP (ls' := [.ref 188, iv i1, iv i2, iv i3, iv i4]) (st' := [iv i2, .ref 193, iv i4]) rfl rfl ?_
    refine wIld hk (l := 24) (e := (M1 193 (i2).toNat).toInt) (by decide +kernel) (by omega) (by omega) (iE _) ?_
    refine wIfc (n1 := 12) rfl bk_129_12 bk_129_11 (by omega) (by first | exact iG _ | omega) (fun g0 => ?_) (fun g0 => ?_)
    · replace g0 : (i4 : Int) < (M1 193 (i2).toNat).toInt := g0
      refine wInc (ls' := [.ref 188, iv i1, iv i2, iv (i3 + (-1)), iv i4]) rfl rfl ?_
      refine wGoto (n1 := 8) rfl bk_129_8 ?_
      have e4 : i4 = (v : Int) - 1 := by omega
      have md : gMd (M1 228) m q := fun j hj => ⟨fun a => gRw_eq ((hW j hj).1 (by omega)) (fun s hs => hO _ (by omega)), fun a => by
        by_cases c : j = q + 1
        · subst c
          exact gRw_up (v := v) hm (by omega) ((hW (q + 1) hj).1 (by omega)) ((hW q (by omega)).1 (by omega)) (fun s a b => (hS s a).1 (by omega)) (fun s a b => (hS s a).2 (by omega))
        · exact gRw_eq ((hW j hj).2 (by omega)) (fun s hs => hO _ (by omega))⟩
      have e5 : (i3 + -1) = (q : Int) := by omega
      rw [e5]
      exact ih i4 M1 hA md
    · replace g0 : ¬ ((i4 : Int) < (M1 193 (i2).toNat).toInt) := g0
      refine wP (ls' := [.ref 188, iv i1, iv i2, iv i3, iv i4]) (st' := [.ref 188]) rfl rfl ?_
      refine wGetR hk (r := 228) (by decide +kernel) ?_
      refine wP (ls' := [.ref 188, iv i1, iv i2, iv i3, iv i4]) (st' := [iv 2380, .ref 228]) rfl rfl ?_
      refine wP (ls' := [.ref 188, iv i1, iv i2, iv i3, iv i4]) (st' := [iv i3, iv 2380, .ref 228]) rfl rfl ?_
      refine wMul ?_
      refine wP (ls' := [.ref 188, iv i1, iv i2, iv i3, iv i4]) (st' := [iv i4, iv (2380 * i3), .ref 228]) rfl rfl ?_
      refine wAdd ?_
      refine wP (ls' := [.ref 188, iv i1, iv i2, iv i3, iv i4]) (st' := [.ref 188, iv ((2380 * i3) + i4), .ref 228]) rfl rfl ?_
      refine wGetR hk (r := 228) (by decide +kernel) ?_
      refine wP (ls' := [.ref 188, iv i1, iv i2, iv i3, iv i4]) (st' := [iv 2380, .ref 228, iv ((2380 * i3) + i4), .ref 228]) rfl rfl ?_
      refine wP (ls' := [.ref 188, iv i1, iv i2, iv i3, iv i4]) (st' := [iv i3, iv 2380, .ref 228, iv ((2380 * i3) + i4), .ref 228]) rfl rfl ?_
      refine wMul ?_
      refine wP (ls' := [.ref 188, iv i1, iv i2, iv i3, iv i4]) (st' := [iv i4, iv (2380 * i3), .ref 228, iv ((2380 * i3) + i4), .ref 228]) rfl rfl ?_
      refine wAdd ?_
      refine wIld hk (l := 59500) (e := (M1 228 (((2380 * i3) + i4)).toNat).toInt) (by decide +kernel) (by omega) (by omega) (iE _) ?_
      refine wP (ls' := [.ref 188, iv i1, iv i2, iv i3, iv i4]) (st' := [.ref 188, iv (M1 228 (((2380 * i3) + i4)).toNat).toInt, iv ((2380 * i3) + i4), .ref 228]) rfl rfl ?_
      refine wGetR hk (r := 228) (by decide +kernel) ?_
      refine wP (ls' := [.ref 188, iv i1, iv i2, iv i3, iv i4]) (st' := [iv 2380, .ref 228, iv (M1 228 (((2380 * i3) + i4)).toNat).toInt, iv ((2380 * i3) + i4), .ref 228]) rfl rfl ?_
      refine wP (ls' := [.ref 188, iv i1, iv i2, iv i3, iv i4]) (st' := [iv i3, iv 2380, .ref 228, iv (M1 228 (((2380 * i3) + i4)).toNat).toInt, iv ((2380 * i3) + i4), .ref 228]) rfl rfl ?_
      refine wP (ls' := [.ref 188, iv i1, iv i2, iv i3, iv i4]) (st' := [iv 1, iv i3, iv 2380, .ref 228, iv (M1 228 (((2380 * i3) + i4)).toNat).toInt, iv ((2380 * i3) + i4), .ref 228]) rfl rfl ?_
      refine wSub ?_
      refine wMul ?_
      refine wP (ls' := [.ref 188, iv i1, iv i2, iv i3, iv i4]) (st' := [iv i4, iv (2380 * (i3 - 1)), .ref 228, iv (M1 228 (((2380 * i3) + i4)).toNat).toInt, iv ((2380 * i3) + i4), .ref 228]) rfl rfl ?_
      refine wAdd ?_
      refine wP (ls' := [.ref 188, iv i1, iv i2, iv i3, iv i4]) (st' := [.ref 188, iv ((2380 * (i3 - 1)) + i4), .ref 228, iv (M1 228 (((2380 * i3) + i4)).toNat).toInt, iv ((2380 * i3) + i4), .ref 228]) rfl rfl ?_
      refine wGetR hk (r := 193) (by decide +kernel) ?_
      refine wP (ls' := [.ref 188, iv i1, iv i2, iv i3, iv i4]) (st' := [iv i2, .ref 193, iv ((2380 * (i3 - 1)) + i4), .ref 228, iv (M1 228 (((2380 * i3) + i4)).toNat).toInt, iv ((2380 * i3) + i4), .ref 228]) rfl rfl ?_
      refine wIld hk (l := 24) (e := (M1 193 (i2).toNat).toInt) (by decide +kernel) (by omega) (by omega) (iE _) ?_
      refine wSub ?_
      refine wIld hk (l := 59500) (e := (M1 228 ((((2380 * (i3 - 1)) + i4) - (M1 193 (i2).toNat).toInt)).toNat).toInt) (by decide +kernel) (by omega) (by omega) (iE _) ?_
      refine wAdd ?_
      refine wIst hk (l := 59500) (by decide +kernel) (by omega) (by omega) ?_
      refine wInc (ls' := [.ref 188, iv i1, iv i2, iv i3, iv (i4 + (-1))]) rfl rfl ?_
      refine wGoto (n1 := 10) rfl bk_129_10 ?_
      have a1 : (((2380 * i3) + i4)).toNat = 2380 * (q + 1) + i4.toNat := by omega
      have a2 : ((((2380 * (i3 - 1)) + i4) - (M1 193 (i2).toNat).toInt)).toNat = 2380 * q + (i4.toNat - v) := by omega
      rw [a1, a2]
      obtain ⟨s1, s2⟩ := hS i4.toNat (by omega)
      have s1 := s1 (by omega)
      have o2 := hO (2380 * q + (i4.toNat - v)) (by omega)
      refine ihr (i4 + -1) _ (by omega) (by omega) (fun a ha => by rw [aPut_r ha]; exact hA a ha) (fun x hx => by rw [aPut_f (by omega)]; exact hO x hx) (fun s hs => ⟨fun c => ?_, fun c => ?_⟩)
      · rw [aPut_f (by omega)]; exact (hS s hs).1 (by omega)
      · by_cases e : s = i4.toNat
        · rw [e, aPut_e, Int32.ofInt_add, Int32.ofInt_toInt, Int32.ofInt_toInt, s1, o2]
        · rw [aPut_f (by omega)]; exact (hS s hs).2 (by omega)
theorem h129_e {X : aX} {d : Nat} {k : Nat → aK} {M1 : Nat → Nat → Int32} {Q : Option Value → aH → Prop} {i1 i2 : Int} {u3 u4 : Value} (z : zW X d 129 4 [.iload 2, .aload 0, .getfield 124412008, .if_icmp .ge 14] [.ref 188, iv i1, iv (i2 + 1), u3, u4] [] (gH k M1) Q) : zW X d 129 13 [.iinc 2 1, .goto 4] [.ref 188, iv i1, iv i2, u3, u4] [] (gH k M1) Q := by
  refine wInc (ls' := [.ref 188, iv i1, iv (i2 + 1), u3, u4]) rfl rfl ?_
  refine wGoto (n1 := 4) rfl bk_129_4 ?_
  exact z
theorem h129_m {X : aX} {d : Nat} {k : Nat → aK} (hk : gKs k) {M0 : Nat → Nat → Int32} {n : Nat} (hn : (M0 188 2).toInt = n) (hn4 : n ≤ 24) (hv : ∀ i, i < 24 → 0 ≤ (M0 193 i).toInt ∧ (M0 193 i).toInt ≤ 99) {m kk v : Nat} {i1 i2 : Int} (h2 : i2 = kk) (hk2 : kk < 24) (hm : m ≤ 23) (hv' : (M0 193 kk).toInt = v) (hv9 : v ≤ 99) (ih : ∀ (u3 u4 : Value) (M1 : Nat → Nat → Int32), (∀ a, a ≠ 228 → M1 a = M0 a) → (∀ j, j < 25 → gRw (M1 228) j (m + 1)) → zW X d 129 13 [.iinc 2 1, .goto 4] [.ref 188, iv i1, iv i2, u3, u4] [] (gH k M1) (fun rv h' => ∃ M', rv = none ∧ h' = gH k M' ∧ (∀ a, a ≠ 228 → M' a = M0 a) ∧ ∀ j, j < 25 → gRw (M' 228) j (gMt M0 n))) :
    ∀ (q : Nat) (u4 : Value) (i3 : Int) (M1 : Nat → Nat → Int32) (h3 : i3 = q) (hq : q ≤ 24) (hA : ∀ a, a ≠ 228 → M1 a = M0 a) (hW : gMd (M1 228) m q), zW X d 129 8 [.iload 3, .ifCond .le 13] [.ref 188, iv i1, iv i2, iv i3, u4] [] (gH k M1) (fun rv h' => ∃ M', rv = none ∧ h' = gH k M' ∧ (∀ a, a ≠ 228 → M' a = M0 a) ∧ ∀ j, j < 25 → gRw (M' 228) j (gMt M0 n)) := by
  intro q
  induction q with
  | zero =>
    intro u4 i3 M1 h3 hq hA hW
    refine wP (ls' := [.ref 188, iv i1, iv i2, iv i3, u4]) (st' := [iv i3]) rfl rfl ?_
    refine wIf0 (n1 := 13) rfl bk_129_13 bk_129_9 (by omega) (fun g0 => ?_) (fun g0 => ?_)
    · replace g0 : (i3 : Int) ≤ 0 := g0
      exact ih _ _ M1 hA (fun j hj => by
        by_cases c : j = 0
        · subst c
          exact gRw_n ((hW 0 hj).1 (Nat.le_refl _)) (by rw [gCh_z, gCh_z])
        · exact (hW j hj).2 (by omega))
    · replace g0 : ¬ ((i3 : Int) ≤ 0) := g0
      refine wP (ls' := [.ref 188, iv i1, iv i2, iv i3, u4]) (st' := [iv 2379]) rfl rfl ?_
      refine wP (ls' := [.ref 188, iv i1, iv i2, iv i3, iv 2379]) (st' := []) rfl rfl ?_
      refine zW_fall bk_129_10 ?_
      exfalso
      omega
  | succ q ihq =>
    intro u4 i3 M1 h3 hq hA hW
    refine wP (ls' := [.ref 188, iv i1, iv i2, iv i3, u4]) (st' := [iv i3]) rfl rfl ?_
    refine wIf0 (n1 := 13) rfl bk_129_13 bk_129_9 (by omega) (fun g0 => ?_) (fun g0 => ?_)
    · replace g0 : (i3 : Int) ≤ 0 := g0
      exfalso
      omega
    · replace g0 : ¬ ((i3 : Int) ≤ 0) := g0
      refine wP (ls' := [.ref 188, iv i1, iv i2, iv i3, u4]) (st' := [iv 2379]) rfl rfl ?_
      refine wP (ls' := [.ref 188, iv i1, iv i2, iv i3, iv 2379]) (st' := []) rfl rfl ?_
      refine zW_fall bk_129_10 ?_
      exact h129_i hk hn hn4 hv (m := m) (q := q) (kk := kk) (v := v) h2 hk2 (by omega) (by omega) hm hv' hv9 (W0 := M1 228) hW (fun i4 M2 a b => ihq (iv i4) (q : Int) M2 rfl (by omega) a b) (2380 - v) 2379 M1 (by omega) (by omega) hA (fun _ _ => rfl) (fun s hs => ⟨fun _ => rfl, fun c => absurd c (by omega)⟩)
theorem h129_o {X : aX} {d : Nat} {k : Nat → aK} (hk : gKs k) {M0 : Nat → Nat → Int32} {n : Nat} (hn : (M0 188 2).toInt = n) (hn4 : n ≤ 24) (hv : ∀ i, i < 24 → 0 ≤ (M0 193 i).toInt ∧ (M0 193 i).toInt ≤ 99) :
    ∀ (r kk : Nat) (i1 i2 : Int) (u3 u4 : Value) (M1 : Nat → Nat → Int32) (h2 : i2 = kk) (hk2 : kk ≤ n) (h1 : i1 = gMt M0 kk) (hr : n - kk ≤ r) (hA : ∀ a, a ≠ 228 → M1 a = M0 a) (hW : ∀ j, j < 25 → gRw (M1 228) j (gMt M0 kk)), zW X d 129 4 [.iload 2, .aload 0, .getfield 124412008, .if_icmp .ge 14] [.ref 188, iv i1, iv i2, u3, u4] [] (gH k M1) (fun rv h' => ∃ M', rv = none ∧ h' = gH k M' ∧ (∀ a, a ≠ 228 → M' a = M0 a) ∧ ∀ j, j < 25 → gRw (M' 228) j (gMt M0 n)) := by
  intro r
  induction r with
  | zero =>
    intro kk i1 i2 u3 u4 M1 h2 hk2 h1 hr hA hW
    have hN : (M1 188 2).toInt = n := by rw [hA 188 (by decide)]; exact hn
    have cl := gCt_le (M := M0) kk
    refine wP (ls' := [.ref 188, iv i1, iv i2, u3, u4]) (st' := [iv i2]) rfl rfl ?_
    refine wP (ls' := [.ref 188, iv i1, iv i2, u3, u4]) (st' := [.ref 188, iv i2]) rfl rfl ?_
    refine wGetN hk (f := 2) (e := (M1 188 2).toInt) (by decide +kernel) (iE _) ?_
    refine wIfc (n1 := 14) rfl bk_129_14 bk_129_5 (by omega) (by first | exact iG _ | omega) (fun g0 => ?_) (fun g0 => ?_)
    · replace g0 : ((M1 188 2).toInt : Int) ≤ i2 := g0
      exact wRet0 (by decide +kernel) ⟨M1, rfl, rfl, hA, by rw [show n = kk by omega]; exact hW⟩
    · replace g0 : ¬ (((M1 188 2).toInt : Int) ≤ i2) := g0
      refine wP (ls' := [.ref 188, iv i1, iv i2, u3, u4]) (st' := [.ref 188]) rfl rfl ?_
      refine wGetR hk (r := 191) (by decide +kernel) ?_
      refine wP (ls' := [.ref 188, iv i1, iv i2, u3, u4]) (st' := [iv i2, .ref 191]) rfl rfl ?_
      refine wIld hk (l := 24) (e := (M1 191 (i2).toNat).toInt) (by decide +kernel) (by omega) (by omega) (iE _) ?_
      refine wIf0 (n1 := 7) rfl bk_129_7 bk_129_6 (by first | exact iG _ | omega) (fun g1 => ?_) (fun g1 => ?_)
      · replace g1 : ¬ ((M1 191 (i2).toNat).toInt : Int) = 0 := g1
        refine wP (ls' := [.ref 188, iv i1, iv i2, u3, u4]) (st' := [iv i1]) rfl rfl ?_
        refine wP (ls' := [.ref 188, iv i1, iv i2, u3, u4]) (st' := [iv 1, iv i1]) rfl rfl ?_
        refine wAdd ?_
        refine wP (ls' := [.ref 188, iv (i1 + 1), iv i2, u3, u4]) (st' := []) rfl rfl ?_
        refine wP (ls' := [.ref 188, iv (i1 + 1), iv i2, u3, u4]) (st' := [iv (i1 + 1)]) rfl rfl ?_
        refine wP (ls' := [.ref 188, iv (i1 + 1), iv i2, iv (i1 + 1), u4]) (st' := []) rfl rfl ?_
        refine zW_fall bk_129_8 ?_
        exfalso
        omega
      · replace g1 : ¬ (¬ ((M1 191 (i2).toNat).toInt : Int) = 0) := g1
        refine wGoto (n1 := 13) rfl bk_129_13 ?_
        refine wInc (ls' := [.ref 188, iv i1, iv (i2 + 1), u3, u4]) rfl rfl ?_
        refine wGoto (n1 := 4) rfl bk_129_4 ?_
        exfalso
        omega
  | succ r ih =>
    intro kk i1 i2 u3 u4 M1 h2 hk2 h1 hr hA hW
    have hN : (M1 188 2).toInt = n := by rw [hA 188 (by decide)]; exact hn
    have cl := gCt_le (M := M0) kk
    refine wP (ls' := [.ref 188, iv i1, iv i2, u3, u4]) (st' := [iv i2]) rfl rfl ?_
    refine wP (ls' := [.ref 188, iv i1, iv i2, u3, u4]) (st' := [.ref 188, iv i2]) rfl rfl ?_
    refine wGetN hk (f := 2) (e := (M1 188 2).toInt) (by decide +kernel) (iE _) ?_
    refine wIfc (n1 := 14) rfl bk_129_14 bk_129_5 (by omega) (by first | exact iG _ | omega) (fun g0 => ?_) (fun g0 => ?_)
    · replace g0 : ((M1 188 2).toInt : Int) ≤ i2 := g0
      exact wRet0 (by decide +kernel) ⟨M1, rfl, rfl, hA, by rw [show n = kk by omega]; exact hW⟩
    · replace g0 : ¬ (((M1 188 2).toInt : Int) ≤ i2) := g0
      refine wP (ls' := [.ref 188, iv i1, iv i2, u3, u4]) (st' := [.ref 188]) rfl rfl ?_
      refine wGetR hk (r := 191) (by decide +kernel) ?_
      refine wP (ls' := [.ref 188, iv i1, iv i2, u3, u4]) (st' := [iv i2, .ref 191]) rfl rfl ?_
      refine wIld hk (l := 24) (e := (M1 191 (i2).toNat).toInt) (by decide +kernel) (by omega) (by omega) (iE _) ?_
      refine wIf0 (n1 := 7) rfl bk_129_7 bk_129_6 (by first | exact iG _ | omega) (fun g1 => ?_) (fun g1 => ?_)
      · replace g1 : ¬ ((M1 191 (i2).toNat).toInt : Int) = 0 := g1
        refine wP (ls' := [.ref 188, iv i1, iv i2, u3, u4]) (st' := [iv i1]) rfl rfl ?_
        refine wP (ls' := [.ref 188, iv i1, iv i2, u3, u4]) (st' := [iv 1, iv i1]) rfl rfl ?_
        refine wAdd ?_
        refine wP (ls' := [.ref 188, iv (i1 + 1), iv i2, u3, u4]) (st' := []) rfl rfl ?_
        refine wP (ls' := [.ref 188, iv (i1 + 1), iv i2, u3, u4]) (st' := [iv (i1 + 1)]) rfl rfl ?_
        refine wP (ls' := [.ref 188, iv (i1 + 1), iv i2, iv (i1 + 1), u4]) (st' := []) rfl rfl ?_
        refine zW_fall bk_129_8 ?_
        have e2 : (i2).toNat = kk := by omega
        rw [hA 191 (by decide), e2] at g1
        have st : gMt M0 (kk + 1) = gMt M0 kk + (if (M0 191 kk).toInt = 0 then 0 else 1) := rfl
        rw [if_neg (by omega)] at st
        obtain ⟨v, hv1⟩ : ∃ v : Nat, (M0 193 kk).toInt = v := ⟨(M0 193 kk).toInt.toNat, by have := hv kk (by omega); omega⟩
        have hv2 := hv kk (by omega)
        exact h129_m hk hn hn4 hv (m := gMt M0 kk) (kk := kk) (v := v) h2 (by omega) (by omega) hv1 (by omega) (fun u3 u4 M2 a b => h129_e (ih (kk + 1) _ (i2 + 1) u3 u4 M2 (by omega) (by omega) (by rw [st]; omega) (by omega) a (by rw [st]; exact b))) (gMt M0 kk + 1) _ _ M1 (by omega) (by omega) hA (fun j hj => ⟨fun _ => hW j hj, fun c => gRw_n (hW j hj) (by rw [gCh_0 (by omega), gCh_0 (by omega)])⟩)
      · replace g1 : ¬ (¬ ((M1 191 (i2).toNat).toInt : Int) = 0) := g1
        refine wGoto (n1 := 13) rfl bk_129_13 ?_
        refine wInc (ls' := [.ref 188, iv i1, iv (i2 + 1), u3, u4]) rfl rfl ?_
        refine wGoto (n1 := 4) rfl bk_129_4 ?_
        have e2 : (i2).toNat = kk := by omega
        rw [hA 191 (by decide), e2] at g1
        have st : gMt M0 (kk + 1) = gMt M0 kk + (if (M0 191 kk).toInt = 0 then 0 else 1) := rfl
        rw [if_pos (by omega)] at st
        exact ih (kk + 1) i1 (i2 + 1) _ _ M1 (by omega) (by omega) (by rw [st]; omega) (by omega) hA (by rw [st]; exact hW)
theorem h129_z {X : aX} {d : Nat} {k : Nat → aK} (hk : gKs k) {M0 : Nat → Nat → Int32} {n : Nat} (hn : (M0 188 2).toInt = n) (hn4 : n ≤ 24) (hv : ∀ i, i < 24 → 0 ≤ (M0 193 i).toInt ∧ (M0 193 i).toInt ≤ 99) {u2 u3 u4 : Value} :
    ∀ (r x : Nat) (i1 : Int) (M1 : Nat → Nat → Int32) (h1 : i1 = x) (hx : x ≤ 59500) (hr : 59500 - x ≤ r) (hA : ∀ a, a ≠ 228 → M1 a = M0 a) (hZ : ∀ y, y < x → M1 228 y = 0), zW X d 129 1 [.iload 1, .ldc_w 5330054473836, .if_icmp .ge 3] [.ref 188, iv i1, u2, u3, u4] [] (gH k M1) (fun rv h' => ∃ M', rv = none ∧ h' = gH k M' ∧ (∀ a, a ≠ 228 → M' a = M0 a) ∧ ∀ j, j < 25 → gRw (M' 228) j (gMt M0 n)) := by
  intro r
  induction r with
  | zero =>
    intro x i1 M1 h1 hx hr hA hZ
    refine wP (ls' := [.ref 188, iv i1, u2, u3, u4]) (st' := [iv i1]) rfl rfl ?_
    refine wP (ls' := [.ref 188, iv i1, u2, u3, u4]) (st' := [iv 59500, iv i1]) rfl rfl ?_
    refine wIfc (n1 := 3) rfl bk_129_3 bk_129_2 (by omega) (by omega) (fun g0 => ?_) (fun g0 => ?_)
    · replace g0 : (59500 : Int) ≤ i1 := g0
      refine wP (ls' := [.ref 188, iv i1, u2, u3, u4]) (st' := [.ref 188]) rfl rfl ?_
      refine wGetR hk (r := 228) (by decide +kernel) ?_
      refine wP (ls' := [.ref 188, iv i1, u2, u3, u4]) (st' := [iv 0, .ref 228]) rfl rfl ?_
      refine wP (ls' := [.ref 188, iv i1, u2, u3, u4]) (st' := [iv 1, iv 0, .ref 228]) rfl rfl ?_
      refine wIst hk (l := 59500) (by decide +kernel) (by omega) (by omega) ?_
      refine wP (ls' := [.ref 188, iv i1, u2, u3, u4]) (st' := [iv 0]) rfl rfl ?_
      refine wP (ls' := [.ref 188, iv 0, u2, u3, u4]) (st' := []) rfl rfl ?_
      refine wP (ls' := [.ref 188, iv 0, u2, u3, u4]) (st' := [iv 0]) rfl rfl ?_
      refine wP (ls' := [.ref 188, iv 0, iv 0, u3, u4]) (st' := []) rfl rfl ?_
      refine zW_fall bk_129_4 ?_
      refine h129_o hk hn hn4 hv n 0 _ _ _ _ _ rfl (by omega) rfl (by omega) (fun a ha => by rw [aPut_r ha]; exact hA a ha) (fun j hj => gRw_s aPut_e (fun x a b => ?_) hj)
      rw [aPut_f (by omega)]
      exact hZ x (by omega)
    · replace g0 : ¬ ((59500 : Int) ≤ i1) := g0
      refine wP (ls' := [.ref 188, iv i1, u2, u3, u4]) (st' := [.ref 188]) rfl rfl ?_
      refine wGetR hk (r := 228) (by decide +kernel) ?_
      refine wP (ls' := [.ref 188, iv i1, u2, u3, u4]) (st' := [iv i1, .ref 228]) rfl rfl ?_
      refine wP (ls' := [.ref 188, iv i1, u2, u3, u4]) (st' := [iv 0, iv i1, .ref 228]) rfl rfl ?_
      refine wIst hk (l := 59500) (by decide +kernel) (by omega) (by omega) ?_
      refine wInc (ls' := [.ref 188, iv (i1 + 1), u2, u3, u4]) rfl rfl ?_
      refine wGoto (n1 := 1) rfl bk_129_1 ?_
      exfalso
      omega
  | succ r ih =>
    intro x i1 M1 h1 hx hr hA hZ
    refine wP (ls' := [.ref 188, iv i1, u2, u3, u4]) (st' := [iv i1]) rfl rfl ?_
    refine wP (ls' := [.ref 188, iv i1, u2, u3, u4]) (st' := [iv 59500, iv i1]) rfl rfl ?_
    refine wIfc (n1 := 3) rfl bk_129_3 bk_129_2 (by omega) (by omega) (fun g0 => ?_) (fun g0 => ?_)
    · replace g0 : (59500 : Int) ≤ i1 := g0
      refine wP (ls' := [.ref 188, iv i1, u2, u3, u4]) (st' := [.ref 188]) rfl rfl ?_
      refine wGetR hk (r := 228) (by decide +kernel) ?_
      refine wP (ls' := [.ref 188, iv i1, u2, u3, u4]) (st' := [iv 0, .ref 228]) rfl rfl ?_
      refine wP (ls' := [.ref 188, iv i1, u2, u3, u4]) (st' := [iv 1, iv 0, .ref 228]) rfl rfl ?_
      refine wIst hk (l := 59500) (by decide +kernel) (by omega) (by omega) ?_
      refine wP (ls' := [.ref 188, iv i1, u2, u3, u4]) (st' := [iv 0]) rfl rfl ?_
      refine wP (ls' := [.ref 188, iv 0, u2, u3, u4]) (st' := []) rfl rfl ?_
      refine wP (ls' := [.ref 188, iv 0, u2, u3, u4]) (st' := [iv 0]) rfl rfl ?_
      refine wP (ls' := [.ref 188, iv 0, iv 0, u3, u4]) (st' := []) rfl rfl ?_
      refine zW_fall bk_129_4 ?_
      refine h129_o hk hn hn4 hv n 0 _ _ _ _ _ rfl (by omega) rfl (by omega) (fun a ha => by rw [aPut_r ha]; exact hA a ha) (fun j hj => gRw_s aPut_e (fun x a b => ?_) hj)
      rw [aPut_f (by omega)]
      exact hZ x (by omega)
    · replace g0 : ¬ ((59500 : Int) ≤ i1) := g0
      refine wP (ls' := [.ref 188, iv i1, u2, u3, u4]) (st' := [.ref 188]) rfl rfl ?_
      refine wGetR hk (r := 228) (by decide +kernel) ?_
      refine wP (ls' := [.ref 188, iv i1, u2, u3, u4]) (st' := [iv i1, .ref 228]) rfl rfl ?_
      refine wP (ls' := [.ref 188, iv i1, u2, u3, u4]) (st' := [iv 0, iv i1, .ref 228]) rfl rfl ?_
      refine wIst hk (l := 59500) (by decide +kernel) (by omega) (by omega) ?_
      refine wInc (ls' := [.ref 188, iv (i1 + 1), u2, u3, u4]) rfl rfl ?_
      refine wGoto (n1 := 1) rfl bk_129_1 ?_
      exact ih (x + 1) (i1 + 1) _ (by omega) (by omega) (by omega) (fun a ha => by rw [aPut_r ha]; exact hA a ha) (fun y hy => by
        by_cases c : y = (i1).toNat
        · rw [c, aPut_e]; rfl
        · rw [aPut_f c]; exact hZ y (by omega))
theorem h129 {X : aX} {d : Nat} {k : Nat → aK} (hk : gKs k) {M0 : Nat → Nat → Int32} {n : Nat} (hn : (M0 188 2).toInt = n) (hn4 : n ≤ 24) (hv : ∀ i, i < 24 → 0 ≤ (M0 193 i).toInt ∧ (M0 193 i).toInt ≤ 99) : zRn X (d + 1) 129 [.ref 188] (gH k M0) (fun rv h' => ∃ M', rv = none ∧ h' = gH k M' ∧ (∀ a, a ≠ 228 → M' a = M0 a) ∧ ∀ j, j < 25 → gRw (M' 228) j (gMt M0 n)) := by
  refine wEnt (n := 5) (ls := [.ref 188, aD, aD, aD, aD]) bk_129_0 (by decide +kernel) rfl rfl rfl ?_
  refine wP (ls' := [.ref 188, aD, aD, aD, aD]) (st' := [iv 0]) rfl rfl ?_
  refine wP (ls' := [.ref 188, iv 0, aD, aD, aD]) (st' := []) rfl rfl ?_
  refine zW_fall bk_129_1 ?_
  exact h129_z hk hn hn4 hv 59500 0 0 M0 rfl (by omega) (by omega) (fun _ _ => rfl) (fun y hy => absurd hy (by omega))
theorem h130_9 {X : aX} {d : Nat} {k : Nat → aK} (hk : gKs k) {M : Nat → Nat → Int32} {c : Nat} {i1 i2 i3 : Int} {Q : Option Value → aH → Prop} (h2 : i2 = c) (hc : c ≤ 24) (h3 : 0 ≤ i3 ∧ i3 ≤ 2376) (z13 : ∀ i4 i5 i6 : Int, Int32.ofInt i4 = gRs (M 228) c 2380 → zW X d 130 13 [.iload 1, .ifCond .ne 15] [.ref 188, iv i1, iv i2, iv i3, iv i4, iv i5, iv i6] [] (gH k M) Q) :
    ∀ (r t : Nat) (i4 i5 i6 : Int) (h6 : i6 = t) (ht : t ≤ 2380) (hr : 2380 - t ≤ r) (h4 : Int32.ofInt i4 = gRs (M 228) c t), zW X d 130 9 [.iload 6, .bipush 2380, .if_icmp .ge 13] [.ref 188, iv i1, iv i2, iv i3, iv i4, iv i5, iv i6] [] (gH k M) Q := by
  intro r
  induction r with
  | zero =>
    intro t i4 i5 i6 h6 ht hr h4
    refine wP (ls' := [.ref 188, iv i1, iv i2, iv i3, iv i4, iv i5, iv i6]) (st' := [iv i6]) rfl rfl ?_
    refine wP (ls' := [.ref 188, iv i1, iv i2, iv i3, iv i4, iv i5, iv i6]) (st' := [iv 2380, iv i6]) rfl rfl ?_
    refine wIfc (n1 := 13) rfl bk_130_13 bk_130_10 (by omega) (by omega) (fun g0 => ?_) (fun g0 => ?_)
    · replace g0 : (2380 : Int) ≤ i6 := g0
      have e6 : t = 2380 := by omega
      rw [e6] at h4
      exact z13 i4 i5 i6 h4
    · replace g0 : ¬ ((2380 : Int) ≤ i6) := g0
      refine wP (ls' := [.ref 188, iv i1, iv i2, iv i3, iv i4, iv i5, iv i6]) (st' := [iv i4]) rfl rfl ?_
      refine wP (ls' := [.ref 188, iv i1, iv i2, iv i3, iv i4, iv i5, iv i6]) (st' := [.ref 188, iv i4]) rfl rfl ?_
      refine wGetR hk (r := 228) (by decide +kernel) ?_
      refine wP (ls' := [.ref 188, iv i1, iv i2, iv i3, iv i4, iv i5, iv i6]) (st' := [iv 2380, .ref 228, iv i4]) rfl rfl ?_
      refine wP (ls' := [.ref 188, iv i1, iv i2, iv i3, iv i4, iv i5, iv i6]) (st' := [iv i2, iv 2380, .ref 228, iv i4]) rfl rfl ?_
      refine wMul ?_
      refine wP (ls' := [.ref 188, iv i1, iv i2, iv i3, iv i4, iv i5, iv i6]) (st' := [iv i6, iv (2380 * i2), .ref 228, iv i4]) rfl rfl ?_
      refine wAdd ?_
      refine wIld hk (l := 59500) (e := (M 228 (((2380 * i2) + i6)).toNat).toInt) (by decide +kernel) (by omega) (by omega) (iE _) ?_
      refine wAdd ?_
      refine wP (ls' := [.ref 188, iv i1, iv i2, iv i3, iv (i4 + (M 228 (((2380 * i2) + i6)).toNat).toInt), iv i5, iv i6]) (st' := []) rfl rfl ?_
      refine wP (ls' := [.ref 188, iv i1, iv i2, iv i3, iv (i4 + (M 228 (((2380 * i2) + i6)).toNat).toInt), iv i5, iv i6]) (st' := [iv i6]) rfl rfl ?_
      refine wP (ls' := [.ref 188, iv i1, iv i2, iv i3, iv (i4 + (M 228 (((2380 * i2) + i6)).toNat).toInt), iv i5, iv i6]) (st' := [iv i3, iv i6]) rfl rfl ?_
      refine wIfc (n1 := 12) rfl bk_130_12 bk_130_11 (by omega) (by omega) (fun g1 => ?_) (fun g1 => ?_)
      · replace g1 : (i6 : Int) < i3 := g1
        refine wInc (ls' := [.ref 188, iv i1, iv i2, iv i3, iv (i4 + (M 228 (((2380 * i2) + i6)).toNat).toInt), iv i5, iv (i6 + 1)]) rfl rfl ?_
        refine wGoto (n1 := 9) rfl bk_130_9 ?_
        exfalso
        omega
      · replace g1 : ¬ ((i6 : Int) < i3) := g1
        refine wP (ls' := [.ref 188, iv i1, iv i2, iv i3, iv (i4 + (M 228 (((2380 * i2) + i6)).toNat).toInt), iv i5, iv i6]) (st' := [iv i5]) rfl rfl ?_
        refine wP (ls' := [.ref 188, iv i1, iv i2, iv i3, iv (i4 + (M 228 (((2380 * i2) + i6)).toNat).toInt), iv i5, iv i6]) (st' := [.ref 188, iv i5]) rfl rfl ?_
        refine wGetR hk (r := 228) (by decide +kernel) ?_
        refine wP (ls' := [.ref 188, iv i1, iv i2, iv i3, iv (i4 + (M 228 (((2380 * i2) + i6)).toNat).toInt), iv i5, iv i6]) (st' := [iv 2380, .ref 228, iv i5]) rfl rfl ?_
        refine wP (ls' := [.ref 188, iv i1, iv i2, iv i3, iv (i4 + (M 228 (((2380 * i2) + i6)).toNat).toInt), iv i5, iv i6]) (st' := [iv i2, iv 2380, .ref 228, iv i5]) rfl rfl ?_
        refine wMul ?_
        refine wP (ls' := [.ref 188, iv i1, iv i2, iv i3, iv (i4 + (M 228 (((2380 * i2) + i6)).toNat).toInt), iv i5, iv i6]) (st' := [iv i6, iv (2380 * i2), .ref 228, iv i5]) rfl rfl ?_
        refine wAdd ?_
        refine wIld hk (l := 59500) (e := (M 228 (((2380 * i2) + i6)).toNat).toInt) (by decide +kernel) (by omega) (by omega) (iE _) ?_
        refine wAdd ?_
        refine wP (ls' := [.ref 188, iv i1, iv i2, iv i3, iv (i4 + (M 228 (((2380 * i2) + i6)).toNat).toInt), iv (i5 + (M 228 (((2380 * i2) + i6)).toNat).toInt), iv i6]) (st' := []) rfl rfl ?_
        refine zW_fall bk_130_12 ?_
        refine wInc (ls' := [.ref 188, iv i1, iv i2, iv i3, iv (i4 + (M 228 (((2380 * i2) + i6)).toNat).toInt), iv (i5 + (M 228 (((2380 * i2) + i6)).toNat).toInt), iv (i6 + 1)]) rfl rfl ?_
        refine wGoto (n1 := 9) rfl bk_130_9 ?_
        exfalso
        omega
  | succ r ih =>
    intro t i4 i5 i6 h6 ht hr h4
    refine wP (ls' := [.ref 188, iv i1, iv i2, iv i3, iv i4, iv i5, iv i6]) (st' := [iv i6]) rfl rfl ?_
    refine wP (ls' := [.ref 188, iv i1, iv i2, iv i3, iv i4, iv i5, iv i6]) (st' := [iv 2380, iv i6]) rfl rfl ?_
    refine wIfc (n1 := 13) rfl bk_130_13 bk_130_10 (by omega) (by omega) (fun g0 => ?_) (fun g0 => ?_)
    · replace g0 : (2380 : Int) ≤ i6 := g0
      have e6 : t = 2380 := by omega
      rw [e6] at h4
      exact z13 i4 i5 i6 h4
    · replace g0 : ¬ ((2380 : Int) ≤ i6) := g0
      refine wP (ls' := [.ref 188, iv i1, iv i2, iv i3, iv i4, iv i5, iv i6]) (st' := [iv i4]) rfl rfl ?_
      refine wP (ls' := [.ref 188, iv i1, iv i2, iv i3, iv i4, iv i5, iv i6]) (st' := [.ref 188, iv i4]) rfl rfl ?_
      refine wGetR hk (r := 228) (by decide +kernel) ?_
      refine wP (ls' := [.ref 188, iv i1, iv i2, iv i3, iv i4, iv i5, iv i6]) (st' := [iv 2380, .ref 228, iv i4]) rfl rfl ?_
      refine wP (ls' := [.ref 188, iv i1, iv i2, iv i3, iv i4, iv i5, iv i6]) (st' := [iv i2, iv 2380, .ref 228, iv i4]) rfl rfl ?_
      refine wMul ?_
      refine wP (ls' := [.ref 188, iv i1, iv i2, iv i3, iv i4, iv i5, iv i6]) (st' := [iv i6, iv (2380 * i2), .ref 228, iv i4]) rfl rfl ?_
      refine wAdd ?_
      refine wIld hk (l := 59500) (e := (M 228 (((2380 * i2) + i6)).toNat).toInt) (by decide +kernel) (by omega) (by omega) (iE _) ?_
      refine wAdd ?_
      refine wP (ls' := [.ref 188, iv i1, iv i2, iv i3, iv (i4 + (M 228 (((2380 * i2) + i6)).toNat).toInt), iv i5, iv i6]) (st' := []) rfl rfl ?_
      refine wP (ls' := [.ref 188, iv i1, iv i2, iv i3, iv (i4 + (M 228 (((2380 * i2) + i6)).toNat).toInt), iv i5, iv i6]) (st' := [iv i6]) rfl rfl ?_
      refine wP (ls' := [.ref 188, iv i1, iv i2, iv i3, iv (i4 + (M 228 (((2380 * i2) + i6)).toNat).toInt), iv i5, iv i6]) (st' := [iv i3, iv i6]) rfl rfl ?_
      refine wIfc (n1 := 12) rfl bk_130_12 bk_130_11 (by omega) (by omega) (fun g1 => ?_) (fun g1 => ?_)
      · replace g1 : (i6 : Int) < i3 := g1
        refine wInc (ls' := [.ref 188, iv i1, iv i2, iv i3, iv (i4 + (M 228 (((2380 * i2) + i6)).toNat).toInt), iv i5, iv (i6 + 1)]) rfl rfl ?_
        refine wGoto (n1 := 9) rfl bk_130_9 ?_
        have e2 : (((2380 * i2) + i6)).toNat = 2380 * c + t := by omega
        rw [e2]
        exact ih (t + 1) _ i5 (i6 + 1) (by omega) (by omega) (by omega) (by show Int32.ofInt _ = gRs (M 228) c t + M 228 (2380 * c + t); rw [Int32.ofInt_add, h4, Int32.ofInt_toInt])
      · replace g1 : ¬ ((i6 : Int) < i3) := g1
        refine wP (ls' := [.ref 188, iv i1, iv i2, iv i3, iv (i4 + (M 228 (((2380 * i2) + i6)).toNat).toInt), iv i5, iv i6]) (st' := [iv i5]) rfl rfl ?_
        refine wP (ls' := [.ref 188, iv i1, iv i2, iv i3, iv (i4 + (M 228 (((2380 * i2) + i6)).toNat).toInt), iv i5, iv i6]) (st' := [.ref 188, iv i5]) rfl rfl ?_
        refine wGetR hk (r := 228) (by decide +kernel) ?_
        refine wP (ls' := [.ref 188, iv i1, iv i2, iv i3, iv (i4 + (M 228 (((2380 * i2) + i6)).toNat).toInt), iv i5, iv i6]) (st' := [iv 2380, .ref 228, iv i5]) rfl rfl ?_
        refine wP (ls' := [.ref 188, iv i1, iv i2, iv i3, iv (i4 + (M 228 (((2380 * i2) + i6)).toNat).toInt), iv i5, iv i6]) (st' := [iv i2, iv 2380, .ref 228, iv i5]) rfl rfl ?_
        refine wMul ?_
        refine wP (ls' := [.ref 188, iv i1, iv i2, iv i3, iv (i4 + (M 228 (((2380 * i2) + i6)).toNat).toInt), iv i5, iv i6]) (st' := [iv i6, iv (2380 * i2), .ref 228, iv i5]) rfl rfl ?_
        refine wAdd ?_
        refine wIld hk (l := 59500) (e := (M 228 (((2380 * i2) + i6)).toNat).toInt) (by decide +kernel) (by omega) (by omega) (iE _) ?_
        refine wAdd ?_
        refine wP (ls' := [.ref 188, iv i1, iv i2, iv i3, iv (i4 + (M 228 (((2380 * i2) + i6)).toNat).toInt), iv (i5 + (M 228 (((2380 * i2) + i6)).toNat).toInt), iv i6]) (st' := []) rfl rfl ?_
        refine zW_fall bk_130_12 ?_
        refine wInc (ls' := [.ref 188, iv i1, iv i2, iv i3, iv (i4 + (M 228 (((2380 * i2) + i6)).toNat).toInt), iv (i5 + (M 228 (((2380 * i2) + i6)).toNat).toInt), iv (i6 + 1)]) rfl rfl ?_
        refine wGoto (n1 := 9) rfl bk_130_9 ?_
        have e2 : (((2380 * i2) + i6)).toNat = 2380 * c + t := by omega
        rw [e2]
        exact ih (t + 1) _ _ (i6 + 1) (by omega) (by omega) (by omega) (by show Int32.ofInt _ = gRs (M 228) c t + M 228 (2380 * c + t); rw [Int32.ofInt_add, h4, Int32.ofInt_toInt])
theorem h130_17 {X : aX} {d : Nat} {h : aH} {i1 i2 i3 i4 i5 i6 : Int} {Q : Option Value → aH → Prop} (hz : Int32.ofInt i4 ≠ 0) (z : ∀ e : Int, Q (some (iv e)) h) : zW X d 130 17 [.ldc2_w 34034242815994122732520, .iload 5, .i2l, .lmul, .iload 4, .i2l, .ldiv, .l2i] [.ref 188, iv i1, iv i2, iv i3, iv i4, iv i5, iv i6] [] h Q := by
  refine wP (ls' := [.ref 188, iv i1, iv i2, iv i3, iv i4, iv i5, iv i6]) (st' := [.long (Int64.ofNat (34034242815994122732520 % 18446744073709551616))]) rfl rfl ?_
  refine wP (ls' := [.ref 188, iv i1, iv i2, iv i3, iv i4, iv i5, iv i6]) (st' := [iv i5, .long (Int64.ofNat (34034242815994122732520 % 18446744073709551616))]) rfl rfl ?_
  refine wP (ls' := [.ref 188, iv i1, iv i2, iv i3, iv i4, iv i5, iv i6]) (st' := [.long (Int32.ofInt i5).toInt64, .long (Int64.ofNat (34034242815994122732520 % 18446744073709551616))]) rfl rfl ?_
  refine wP (ls' := [.ref 188, iv i1, iv i2, iv i3, iv i4, iv i5, iv i6]) (st' := [.long (Int64.ofNat (34034242815994122732520 % 18446744073709551616) * (Int32.ofInt i5).toInt64)]) rfl rfl ?_
  refine wP (ls' := [.ref 188, iv i1, iv i2, iv i3, iv i4, iv i5, iv i6]) (st' := [iv i4, .long (Int64.ofNat (34034242815994122732520 % 18446744073709551616) * (Int32.ofInt i5).toInt64)]) rfl rfl ?_
  refine wP (ls' := [.ref 188, iv i1, iv i2, iv i3, iv i4, iv i5, iv i6]) (st' := [.long (Int32.ofInt i4).toInt64, .long (Int64.ofNat (34034242815994122732520 % 18446744073709551616) * (Int32.ofInt i5).toInt64)]) rfl rfl ?_
  have y0 : (Int32.ofInt i4).toInt64 ≠ 0 := fun q => hz (Int32.toInt_inj.mp (by have := congrArg Int64.toInt q; rwa [Int32.toInt_toInt64] at this))
  refine wP (ls' := [.ref 188, iv i1, iv i2, iv i3, iv i4, iv i5, iv i6]) (st' := [.long (Int64.ofNat (34034242815994122732520 % 18446744073709551616) * (Int32.ofInt i5).toInt64 / (Int32.ofInt i4).toInt64)]) rfl (by
    show (if (Int32.ofInt i4).toInt64 = 0 then none else some ([.ref 188, iv i1, iv i2, iv i3, iv i4, iv i5, iv i6], Value.long (Int64.ofNat (34034242815994122732520 % 18446744073709551616) * (Int32.ofInt i5).toInt64 / (Int32.ofInt i4).toInt64) :: ([] : List Value))) = _
    rw [if_neg y0]) ?_
  refine wP (ls' := [.ref 188, iv i1, iv i2, iv i3, iv i4, iv i5, iv i6]) (st' := [iv ((Int64.ofNat (34034242815994122732520 % 18446744073709551616) * (Int32.ofInt i5).toInt64 / (Int32.ofInt i4).toInt64).toInt32.toInt)]) rfl (by
    show some ([.ref 188, iv i1, iv i2, iv i3, iv i4, iv i5, iv i6], [Value.int (Int64.ofNat (34034242815994122732520 % 18446744073709551616) * (Int32.ofInt i5).toInt64 / (Int32.ofInt i4).toInt64).toInt32]) = some ([.ref 188, iv i1, iv i2, iv i3, iv i4, iv i5, iv i6], [Value.int (Int32.ofInt (Int64.ofNat (34034242815994122732520 % 18446744073709551616) * (Int32.ofInt i5).toInt64 / (Int32.ofInt i4).toInt64).toInt32.toInt)])
    rw [Int32.ofInt_toInt]) ?_
  refine zW_fall bk_130_18 ?_
  exact wIret (Or.inl (by decide +kernel)) (z _)
theorem h130_13 {X : aX} {d : Nat} {k : Nat → aK} {M : Nat → Nat → Int32} {i1 i2 i3 i4 i5 i6 : Int} {Q : Option Value → aH → Prop} (hi : -2147483648 ≤ i1 ∧ i1 ≤ 2147483647) (hz : Int32.ofInt i4 ≠ 0) (z : ∀ e : Int, Q (some (iv e)) (gH k M)) : zW X d 130 13 [.iload 1, .ifCond .ne 15] [.ref 188, iv i1, iv i2, iv i3, iv i4, iv i5, iv i6] [] (gH k M) Q := by
  refine wP (ls' := [.ref 188, iv i1, iv i2, iv i3, iv i4, iv i5, iv i6]) (st' := [iv i1]) rfl rfl ?_
  refine wIf0 (n1 := 15) rfl bk_130_15 bk_130_14 (by omega) (fun g0 => ?_) (fun g0 => ?_)
  · replace g0 : ¬ (i1 : Int) = 0 := g0
    refine wP (ls' := [.ref 188, iv i1, iv i2, iv i3, iv i4, iv i5, iv i6]) (st' := [iv i1]) rfl rfl ?_
    refine wP (ls' := [.ref 188, iv i1, iv i2, iv i3, iv i4, iv i5, iv i6]) (st' := [iv 1, iv i1]) rfl rfl ?_
    refine wIfc (n1 := 17) rfl bk_130_17 bk_130_16 (by omega) (by omega) (fun g1 => ?_) (fun g1 => ?_)
    · replace g1 : ¬ (i1 : Int) = 1 := g1
      exact h130_17 hz z
    · replace g1 : ¬ (¬ (i1 : Int) = 1) := g1
      refine wP (ls' := [.ref 188, iv i1, iv i2, iv i3, iv i4, iv i5, iv i6]) (st' := [iv i4]) rfl rfl ?_
      refine wGoto (n1 := 18) rfl bk_130_18 ?_
      exact wIret (Or.inl (by decide +kernel)) (z _)
  · replace g0 : ¬ (¬ (i1 : Int) = 0) := g0
    refine wP (ls' := [.ref 188, iv i1, iv i2, iv i3, iv i4, iv i5, iv i6]) (st' := [iv i5]) rfl rfl ?_
    refine wGoto (n1 := 18) rfl bk_130_18 ?_
    exact wIret (Or.inl (by decide +kernel)) (z _)
theorem h130_3 {X : aX} {d : Nat} {k : Nat → aK} (hk : gKs k) {M : Nat → Nat → Int32} {n : Nat} (hn : (M 188 2).toInt = n) (hn4 : n ≤ 24) (hv : ∀ i, i < 24 → 0 ≤ (M 193 i).toInt ∧ (M 193 i).toInt ≤ 99) {c : Nat} {i1 i2 : Int} {u5 u6 : Value} {Q : Option Value → aH → Prop} (hi : -2147483648 ≤ i1 ∧ i1 ≤ 2147483647) (h2 : i2 = c) (hc : c ≤ 24) (hz : gRs (M 228) c 2380 ≠ 0) (z : ∀ e : Int, Q (some (iv e)) (gH k M)) :
    ∀ (r j : Nat) (i3 i4 : Int) (h4 : i4 = j) (hj : j ≤ n) (hr : n - j ≤ r) (h3 : 0 ≤ i3 ∧ i3 ≤ 99 * j), zW X d 130 3 [.iload 4, .aload 0, .getfield 124412008, .if_icmp .ge 8] [.ref 188, iv i1, iv i2, iv i3, iv i4, u5, u6] [] (gH k M) Q := by
  intro r
  induction r with
  | zero =>
    intro j i3 i4 h4 hj hr h3
    refine wP (ls' := [.ref 188, iv i1, iv i2, iv i3, iv i4, u5, u6]) (st' := [iv i4]) rfl rfl ?_
    refine wP (ls' := [.ref 188, iv i1, iv i2, iv i3, iv i4, u5, u6]) (st' := [.ref 188, iv i4]) rfl rfl ?_
    refine wGetN hk (f := 2) (e := (M 188 2).toInt) (by decide +kernel) (iE _) ?_
    refine wIfc (n1 := 8) rfl bk_130_8 bk_130_4 (by omega) (by first | exact iG _ | omega) (fun g0 => ?_) (fun g0 => ?_)
    · replace g0 : ((M 188 2).toInt : Int) ≤ i4 := g0
      refine wP (ls' := [.ref 188, iv i1, iv i2, iv i3, iv i4, u5, u6]) (st' := [iv 0]) rfl rfl ?_
      refine wP (ls' := [.ref 188, iv i1, iv i2, iv i3, iv 0, u5, u6]) (st' := []) rfl rfl ?_
      refine wP (ls' := [.ref 188, iv i1, iv i2, iv i3, iv 0, u5, u6]) (st' := [iv 0]) rfl rfl ?_
      refine wP (ls' := [.ref 188, iv i1, iv i2, iv i3, iv 0, iv 0, u6]) (st' := []) rfl rfl ?_
      refine wP (ls' := [.ref 188, iv i1, iv i2, iv i3, iv 0, iv 0, u6]) (st' := [iv 0]) rfl rfl ?_
      refine wP (ls' := [.ref 188, iv i1, iv i2, iv i3, iv 0, iv 0, iv 0]) (st' := []) rfl rfl ?_
      refine zW_fall bk_130_9 ?_
      exact h130_9 hk h2 hc (by omega) (fun i4 i5 i6 q => h130_13 hi (by rw [q]; exact hz) z) 2380 0 0 0 0 rfl (by omega) (by omega) rfl
    · replace g0 : ¬ (((M 188 2).toInt : Int) ≤ i4) := g0
      refine wP (ls' := [.ref 188, iv i1, iv i2, iv i3, iv i4, u5, u6]) (st' := [.ref 188]) rfl rfl ?_
      refine wGetR hk (r := 191) (by decide +kernel) ?_
      refine wP (ls' := [.ref 188, iv i1, iv i2, iv i3, iv i4, u5, u6]) (st' := [iv i4, .ref 191]) rfl rfl ?_
      refine wIld hk (l := 24) (e := (M 191 (i4).toNat).toInt) (by decide +kernel) (by omega) (by omega) (iE _) ?_
      refine wP (ls' := [.ref 188, iv i1, iv i2, iv i3, iv i4, u5, u6]) (st' := [iv 1, iv (M 191 (i4).toNat).toInt]) rfl rfl ?_
      refine wIfc (n1 := 7) rfl bk_130_7 bk_130_5 (by first | exact iG _ | omega) (by omega) (fun g1 => ?_) (fun g1 => ?_)
      · replace g1 : ¬ ((M 191 (i4).toNat).toInt : Int) = 1 := g1
        refine wInc (ls' := [.ref 188, iv i1, iv i2, iv i3, iv (i4 + 1), u5, u6]) rfl rfl ?_
        refine wGoto (n1 := 3) rfl bk_130_3 ?_
        exfalso
        omega
      · replace g1 : ¬ (¬ ((M 191 (i4).toNat).toInt : Int) = 1) := g1
        refine wP (ls' := [.ref 188, iv i1, iv i2, iv i3, iv i4, u5, u6]) (st' := [.ref 188]) rfl rfl ?_
        refine wGetR hk (r := 189) (by decide +kernel) ?_
        refine wP (ls' := [.ref 188, iv i1, iv i2, iv i3, iv i4, u5, u6]) (st' := [iv i4, .ref 189]) rfl rfl ?_
        refine wIld hk (l := 24) (e := (M 189 (i4).toNat).toInt) (by decide +kernel) (by omega) (by omega) (iE _) ?_
        refine wIf0 (n1 := 7) rfl bk_130_7 bk_130_6 (by first | exact iG _ | omega) (fun g2 => ?_) (fun g2 => ?_)
        · replace g2 : ¬ ((M 189 (i4).toNat).toInt : Int) = 0 := g2
          refine wInc (ls' := [.ref 188, iv i1, iv i2, iv i3, iv (i4 + 1), u5, u6]) rfl rfl ?_
          refine wGoto (n1 := 3) rfl bk_130_3 ?_
          exfalso
          omega
        · replace g2 : ¬ (¬ ((M 189 (i4).toNat).toInt : Int) = 0) := g2
          refine wP (ls' := [.ref 188, iv i1, iv i2, iv i3, iv i4, u5, u6]) (st' := [iv i3]) rfl rfl ?_
          refine wP (ls' := [.ref 188, iv i1, iv i2, iv i3, iv i4, u5, u6]) (st' := [.ref 188, iv i3]) rfl rfl ?_
          refine wGetR hk (r := 193) (by decide +kernel) ?_
          refine wP (ls' := [.ref 188, iv i1, iv i2, iv i3, iv i4, u5, u6]) (st' := [iv i4, .ref 193, iv i3]) rfl rfl ?_
          refine wIld hk (l := 24) (e := (M 193 (i4).toNat).toInt) (by decide +kernel) (by omega) (by omega) (iE _) ?_
          refine wAdd ?_
          refine wP (ls' := [.ref 188, iv i1, iv i2, iv (i3 + (M 193 (i4).toNat).toInt), iv i4, u5, u6]) (st' := []) rfl rfl ?_
          refine zW_fall bk_130_7 ?_
          refine wInc (ls' := [.ref 188, iv i1, iv i2, iv (i3 + (M 193 (i4).toNat).toInt), iv (i4 + 1), u5, u6]) rfl rfl ?_
          refine wGoto (n1 := 3) rfl bk_130_3 ?_
          exfalso
          omega
  | succ r ih =>
    intro j i3 i4 h4 hj hr h3
    refine wP (ls' := [.ref 188, iv i1, iv i2, iv i3, iv i4, u5, u6]) (st' := [iv i4]) rfl rfl ?_
    refine wP (ls' := [.ref 188, iv i1, iv i2, iv i3, iv i4, u5, u6]) (st' := [.ref 188, iv i4]) rfl rfl ?_
    refine wGetN hk (f := 2) (e := (M 188 2).toInt) (by decide +kernel) (iE _) ?_
    refine wIfc (n1 := 8) rfl bk_130_8 bk_130_4 (by omega) (by first | exact iG _ | omega) (fun g0 => ?_) (fun g0 => ?_)
    · replace g0 : ((M 188 2).toInt : Int) ≤ i4 := g0
      refine wP (ls' := [.ref 188, iv i1, iv i2, iv i3, iv i4, u5, u6]) (st' := [iv 0]) rfl rfl ?_
      refine wP (ls' := [.ref 188, iv i1, iv i2, iv i3, iv 0, u5, u6]) (st' := []) rfl rfl ?_
      refine wP (ls' := [.ref 188, iv i1, iv i2, iv i3, iv 0, u5, u6]) (st' := [iv 0]) rfl rfl ?_
      refine wP (ls' := [.ref 188, iv i1, iv i2, iv i3, iv 0, iv 0, u6]) (st' := []) rfl rfl ?_
      refine wP (ls' := [.ref 188, iv i1, iv i2, iv i3, iv 0, iv 0, u6]) (st' := [iv 0]) rfl rfl ?_
      refine wP (ls' := [.ref 188, iv i1, iv i2, iv i3, iv 0, iv 0, iv 0]) (st' := []) rfl rfl ?_
      refine zW_fall bk_130_9 ?_
      exact h130_9 hk h2 hc (by omega) (fun i4 i5 i6 q => h130_13 hi (by rw [q]; exact hz) z) 2380 0 0 0 0 rfl (by omega) (by omega) rfl
    · replace g0 : ¬ (((M 188 2).toInt : Int) ≤ i4) := g0
      refine wP (ls' := [.ref 188, iv i1, iv i2, iv i3, iv i4, u5, u6]) (st' := [.ref 188]) rfl rfl ?_
      refine wGetR hk (r := 191) (by decide +kernel) ?_
      refine wP (ls' := [.ref 188, iv i1, iv i2, iv i3, iv i4, u5, u6]) (st' := [iv i4, .ref 191]) rfl rfl ?_
      refine wIld hk (l := 24) (e := (M 191 (i4).toNat).toInt) (by decide +kernel) (by omega) (by omega) (iE _) ?_
      refine wP (ls' := [.ref 188, iv i1, iv i2, iv i3, iv i4, u5, u6]) (st' := [iv 1, iv (M 191 (i4).toNat).toInt]) rfl rfl ?_
      refine wIfc (n1 := 7) rfl bk_130_7 bk_130_5 (by first | exact iG _ | omega) (by omega) (fun g1 => ?_) (fun g1 => ?_)
      · replace g1 : ¬ ((M 191 (i4).toNat).toInt : Int) = 1 := g1
        refine wInc (ls' := [.ref 188, iv i1, iv i2, iv i3, iv (i4 + 1), u5, u6]) rfl rfl ?_
        refine wGoto (n1 := 3) rfl bk_130_3 ?_
        have e4 : (i4).toNat = j := by omega
        have b9 := hv j (by omega)
        rw [← e4] at b9
        exact ih (j + 1) i3 (i4 + 1) (by omega) (by omega) (by omega) (by omega)
      · replace g1 : ¬ (¬ ((M 191 (i4).toNat).toInt : Int) = 1) := g1
        refine wP (ls' := [.ref 188, iv i1, iv i2, iv i3, iv i4, u5, u6]) (st' := [.ref 188]) rfl rfl ?_
        refine wGetR hk (r := 189) (by decide +kernel) ?_
        refine wP (ls' := [.ref 188, iv i1, iv i2, iv i3, iv i4, u5, u6]) (st' := [iv i4, .ref 189]) rfl rfl ?_
        refine wIld hk (l := 24) (e := (M 189 (i4).toNat).toInt) (by decide +kernel) (by omega) (by omega) (iE _) ?_
        refine wIf0 (n1 := 7) rfl bk_130_7 bk_130_6 (by first | exact iG _ | omega) (fun g2 => ?_) (fun g2 => ?_)
        · replace g2 : ¬ ((M 189 (i4).toNat).toInt : Int) = 0 := g2
          refine wInc (ls' := [.ref 188, iv i1, iv i2, iv i3, iv (i4 + 1), u5, u6]) rfl rfl ?_
          refine wGoto (n1 := 3) rfl bk_130_3 ?_
          have e4 : (i4).toNat = j := by omega
          have b9 := hv j (by omega)
          rw [← e4] at b9
          exact ih (j + 1) i3 (i4 + 1) (by omega) (by omega) (by omega) (by omega)
        · replace g2 : ¬ (¬ ((M 189 (i4).toNat).toInt : Int) = 0) := g2
          refine wP (ls' := [.ref 188, iv i1, iv i2, iv i3, iv i4, u5, u6]) (st' := [iv i3]) rfl rfl ?_
          refine wP (ls' := [.ref 188, iv i1, iv i2, iv i3, iv i4, u5, u6]) (st' := [.ref 188, iv i3]) rfl rfl ?_
          refine wGetR hk (r := 193) (by decide +kernel) ?_
          refine wP (ls' := [.ref 188, iv i1, iv i2, iv i3, iv i4, u5, u6]) (st' := [iv i4, .ref 193, iv i3]) rfl rfl ?_
          refine wIld hk (l := 24) (e := (M 193 (i4).toNat).toInt) (by decide +kernel) (by omega) (by omega) (iE _) ?_
          refine wAdd ?_
          refine wP (ls' := [.ref 188, iv i1, iv i2, iv (i3 + (M 193 (i4).toNat).toInt), iv i4, u5, u6]) (st' := []) rfl rfl ?_
          refine zW_fall bk_130_7 ?_
          refine wInc (ls' := [.ref 188, iv i1, iv i2, iv (i3 + (M 193 (i4).toNat).toInt), iv (i4 + 1), u5, u6]) rfl rfl ?_
          refine wGoto (n1 := 3) rfl bk_130_3 ?_
          have e4 : (i4).toNat = j := by omega
          have b9 := hv j (by omega)
          rw [← e4] at b9
          exact ih (j + 1) (i3 + (M 193 (i4).toNat).toInt) (i4 + 1) (by omega) (by omega) (by omega) (by omega)
theorem gMt_eq {M M' : Nat → Nat → Int32} (h : M' 191 = M 191) : ∀ n, gMt M' n = gMt M n := by
  intro n
  induction n with
  | zero => rfl
  | succ n ih => unfold gMt; rw [ih, h]
theorem h130 {X : aX} {d : Nat} {k : Nat → aK} (hk : gKs k) {M0 : Nat → Nat → Int32} {i1 : Int} (hi1 : -2147483648 ≤ i1 ∧ i1 ≤ 2147483647) {n : Nat} (hn : (M0 188 2).toInt = n) (hn4 : n ≤ 24) (hv : ∀ i, i < 24 → 0 ≤ (M0 193 i).toInt ∧ (M0 193 i).toInt ≤ 99) : zRn X (d + 1 + 1) 130 [.ref 188, iv i1] (gH k M0) (fun rv h' => ∃ e M', rv = some (iv e) ∧ h' = gH k M' ∧ (∀ a, a ≠ 188 → a ≠ 228 → M' a = M0 a) ∧ (∀ f, f ≠ 0 → M' 188 f = M0 188 f)) := by
  refine wEnt (n := 7) (ls := [.ref 188, iv i1, aD, aD, aD, aD, aD]) bk_130_0 (by decide +kernel) rfl rfl rfl ?_
  refine wP (ls' := [.ref 188, iv i1, aD, aD, aD, aD, aD]) (st' := [.ref 188]) rfl rfl ?_
  refine wP (ls' := [.ref 188, iv i1, aD, aD, aD, aD, aD]) (st' := [iv 0, .ref 188]) rfl rfl ?_
  refine wPutN hk (f := 0) (by decide +kernel) (Or.inl rfl) ?_
  refine wP (ls' := [.ref 188, iv i1, aD, aD, aD, aD, aD]) (st' := [.ref 188]) rfl rfl ?_
  refine wP (ls' := [.ref 188, iv i1, aD, aD, aD, aD, aD]) (st' := [iv i1, .ref 188]) rfl rfl ?_
  refine wP (ls' := [.ref 188, iv i1, aD, aD, aD, aD, aD]) (st' := [iv 0, iv i1, .ref 188]) rfl rfl ?_
  refine wP (ls' := [.ref 188, iv i1, aD, aD, aD, aD, aD]) (st' := [iv 2, iv 0, iv i1, .ref 188]) rfl rfl ?_
  refine wCall hk (q := 42) (na := 3) (a := 188) (as := [iv i1, iv 0, iv 2]) (t := []) rfl (by decide +kernel) (by decide) (by decide +kernel) (Nat.le_of_ble_eq_true rfl) rfl rfl (zRn.mono (h42 hk (by omega) (by omega) (by omega)) (fun rv h' hq => ?_))
  obtain ⟨rfl, e1, rfl, r1⟩ := hq
  have rb : 0 ≤ e1 ∧ e1 ≤ 1 := by omega
  clear r1
  refine ⟨rfl, ?_⟩
  show zW X _ 130 0 [.ifCond .ne 2] [.ref 188, iv i1, aD, aD, aD, aD, aD] [iv e1] (gH k (aPut M0 188 0 (Int32.ofInt 0))) _
  refine wIf0 (n1 := 2) rfl bk_130_2 bk_130_1 (by omega) (fun g0 => ?_) (fun g0 => ?_)
  · replace g0 : ¬ (e1 : Int) = 0 := g0
    refine wP (ls' := [.ref 188, iv i1, aD, aD, aD, aD, aD]) (st' := [.ref 188]) rfl rfl ?_
    refine wCall hk (q := 129) (na := 0) (a := 188) (as := []) (t := []) rfl (by decide +kernel) (by decide) (by decide +kernel) (Nat.le_of_ble_eq_true rfl) rfl rfl (zRn.mono (h129 hk (M0 := (aPut M0 188 0 (Int32.ofInt 0))) (n := n) (by rw [aPut_f (by decide)]; exact hn) hn4 (fun i hi => by rw [aPut_o (by decide)]; exact hv i hi)) (fun rv h' hq => ?_))
    obtain ⟨M2, rfl, rfl, hA, hW⟩ := hq
    have hn2 : (M2 188 2).toInt = n := by rw [hA 188 (by decide), aPut_f (by decide)]; exact hn
    refine ⟨rfl, ?_⟩
    show zW X _ 130 2 [.aload 0, .bipush 0, .invokevirtual 1688053, .istore 2, .bipush 0, .istore 3, .bipush 0, .istore 4] [.ref 188, iv i1, aD, aD, aD, aD, aD] [] (gH k M2) _
    refine wP (ls' := [.ref 188, iv i1, aD, aD, aD, aD, aD]) (st' := [.ref 188]) rfl rfl ?_
    refine wP (ls' := [.ref 188, iv i1, aD, aD, aD, aD, aD]) (st' := [iv 0, .ref 188]) rfl rfl ?_
    refine wCall hk (q := 53) (na := 1) (a := 188) (as := [iv 0]) (t := []) rfl (by decide +kernel) (by decide) (by decide +kernel) (Nat.le_of_ble_eq_true rfl) rfl rfl (zRn.mono (h53 hk hn2 hn4) (fun rv h' hq => ?_))
    obtain ⟨rfl, rfl⟩ := hq
    refine ⟨rfl, ?_⟩
    show zW X _ 130 2 [.istore 2, .bipush 0, .istore 3, .bipush 0, .istore 4] [.ref 188, iv i1, aD, aD, aD, aD, aD] [iv ((gCt M2 n : Nat) : Int)] (gH k M2) _
    refine wP (ls' := [.ref 188, iv i1, iv ((gCt M2 n : Nat) : Int), aD, aD, aD, aD]) (st' := []) rfl rfl ?_
    refine wP (ls' := [.ref 188, iv i1, iv ((gCt M2 n : Nat) : Int), aD, aD, aD, aD]) (st' := [iv 0]) rfl rfl ?_
    refine wP (ls' := [.ref 188, iv i1, iv ((gCt M2 n : Nat) : Int), iv 0, aD, aD, aD]) (st' := []) rfl rfl ?_
    refine wP (ls' := [.ref 188, iv i1, iv ((gCt M2 n : Nat) : Int), iv 0, aD, aD, aD]) (st' := [iv 0]) rfl rfl ?_
    refine wP (ls' := [.ref 188, iv i1, iv ((gCt M2 n : Nat) : Int), iv 0, iv 0, aD, aD]) (st' := []) rfl rfl ?_
    refine zW_fall bk_130_3 ?_
    have cl := gCt_le (M := M2) n
    have em : gMt (aPut M0 188 0 (Int32.ofInt 0)) n = gMt M2 n := (gMt_eq (hA 191 (by decide)) n).symm
    rw [em] at hW
    have row := hW (gCt M2 n) (by omega)
    have pos := of_decide_eq_true (List.all_eq_true.mp (List.all_eq_true.mp gCh_ok (gMt M2 n) (List.mem_range.mpr (by omega))) (gCt M2 n) (List.mem_range.mpr (by omega)))
    refine h130_3 hk hn2 hn4 (fun i hi => by rw [hA 193 (by decide), aPut_o (by decide)]; exact hv i hi) (c := gCt M2 n) hi1 rfl (by omega) (fun q => ?_) (fun e => ⟨e, M2, rfl, rfl, fun a a1 a2 => by rw [hA a a2, aPut_r a1], fun f hf => by rw [hA 188 (by decide), aPut_f hf]⟩) n 0 0 0 rfl (by omega) (by omega) (by omega)
    rw [row.2] at q
    have q := congrArg Int32.toInt q
    rw [iR (by omega) (by omega)] at q
    have z0 : (0 : Int32).toInt = 0 := rfl
    omega
  · replace g0 : ¬ (¬ (e1 : Int) = 0) := g0
    refine wP (ls' := [.ref 188, iv i1, aD, aD, aD, aD, aD]) (st' := [iv (-1)]) rfl rfl ?_
    exact wIret (Or.inl (by decide +kernel)) ⟨_, _, rfl, rfl, fun a a1 _ => aPut_r a1, fun f hf => aPut_f hf⟩
theorem gh_130_0_ok {X : aX} : zCk X (gP []) gG 130 gh_130_0 := by
  intro d ρ as h hd hb hargs hents hK hI hG
  obtain ⟨u0, q0, rfl, g0, hargs⟩ := zGl_cons hargs
  obtain ⟨u1, q1, rfl, g1, hargs⟩ := zGl_cons hargs
  obtain rfl := zGl_nil hargs
  obtain rfl := gRefx g0 (Or.inl (by decide))
  obtain ⟨rfl, hx⟩ := gIntx g1
  obtain ⟨dd, rfl⟩ : ∃ dd, d = dd + 1 + 1 := ⟨d - 2, by have hd : 5 ≤ d := hd; omega⟩
  have b0 : -2147483648 ≤ ρ 0 ∧ ρ 0 ≤ 2147483647 := hb 0 _ rfl
  have b2 : (0 : Int) ≤ (h.2.2.2 188 2).toInt ∧ (h.2.2.2 188 2).toInt ≤ 24 := gBf hG hI (by decide) (by decide) (by decide +kernel) (by decide +kernel)
  have bv : ∀ i, i < 24 → (0 : Int) ≤ (h.2.2.2 193 i).toInt ∧ (h.2.2.2 193 i).toInt ≤ 99 := fun i hi => gBa hG hI (by decide) (Or.inl (by decide +kernel)) (l := 24) (by decide +kernel) hi (by decide +kernel)
  obtain ⟨n, hn⟩ : ∃ n : Nat, (h.2.2.2 188 2).toInt = n := ⟨(h.2.2.2 188 2).toInt.toNat, by omega⟩
  have base := h130 (X := X) (d := dd) (gKs_of hG.1) (M0 := h.2.2.2) b0 hn (by omega) bv
  rw [← gH_of hG.1] at base
  refine base.mono (fun rv h' hq => ?_)
  obtain ⟨e, M', rfl, rfl, m1, m2⟩ := hq
  have hR : gRm M' := gRm_eq (fun j _ => by rw [m1 203 (by decide) (by decide)]) (fun k _ => by rw [m1 204 (by decide) (by decide)]) (fun l _ => by rw [m1 206 (by decide) (by decide), m1 207 (by decide) (by decide), m1 208 (by decide) (by decide)]; exact ⟨rfl, rfl, rfl⟩) (fun i _ => by rw [m1 210 (by decide) (by decide), m1 211 (by decide) (by decide)]; exact ⟨rfl, rfl⟩)
    (fun i _ => by rw [m1 214 (by decide) (by decide), m1 215 (by decide) (by decide)]; exact ⟨rfl, rfl⟩) (fun i _ => by rw [m1 229 (by decide) (by decide)]) hG.2
  obtain ⟨d1, d2, d3⟩ := gDone (md := gh_130_0.2.2.2.2.2.2) hG hI hR (fun a i => by
    by_cases q : a = 228
    · subst q
      exact Or.inr ⟨228 * 128 + 127, Or.inr ⟨gAr hG (by decide) (Or.inl (by decide +kernel)), rfl⟩, by decide +kernel, by rw [show gF (228 * 128 + 127) = (-2147483648, 2147483647) from by decide +kernel]; exact iG _⟩
    · by_cases q2 : a = 188
      · subst q2
        by_cases q3 : i = 0
        · subst q3
          exact Or.inr ⟨188 * 128 + 0, Or.inl ⟨gFl hG (by decide) (by decide +kernel), rfl⟩, by decide +kernel, by rw [show gF (188 * 128 + 0) = (-2147483648, 2147483647) from by decide +kernel]; exact iG _⟩
        · exact Or.inl (m2 i q3)
      · exact Or.inl (by rw [m1 a q2 q]))
  have e1 : h.1 = 230 := hG.1.1
  have e2 : h.2.1 = 108808 := hG.1.2.1
  rw [e1, e2] at d1 d2
  exact ⟨⟨_, List.mem_singleton.mpr rfl, ρ, fun _ _ => rfl, fun i b h => (by cases h), fun e he => (by cases he), ⟨zGi (zAny_s _), trivial⟩, fun e he => (by cases he)⟩, d1, d2, e1.symm, e2.symm, rfl, d3⟩
