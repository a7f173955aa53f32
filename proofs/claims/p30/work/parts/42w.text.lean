/-! a text is read -/
def gTy (M N : Nat → Nat → Int32) : Prop := (∀ a, a ≠ 188 → (a < 204 ∨ 215 < a) → N a = M a) ∧ (N 204 = M 204 ∧ N 213 = M 213) ∧ (∀ l, l < 64 → N 206 l = M 206 l ∧ N 207 l = M 207 l ∧ N 208 l = M 208 l) ∧ (∀ i, i < 2000 → N 210 i = M 210 i ∧ N 211 i = M 211 i) ∧ (∀ i, i < 96 → N 214 i = M 214 i ∧ N 215 i = M 215 i) ∧
  (∀ f, f ≠ 0 → f ≠ 24 → f ≠ 25 → f ≠ 26 → f ≠ 27 → f ≠ 28 → f ≠ 38 → f ≠ 39 → f ≠ 41 → f ≠ 42 → f ≠ 43 → f ≠ 44 → f ≠ 45 → N 188 f = M 188 f)
theorem gTy.trans {M N P : Nat → Nat → Int32} (h : gTy M N) (h' : gTy N P) : gTy M P := by
  obtain ⟨a1, ⟨a2, a3⟩, a4, a5, a6, a7⟩ := h
  obtain ⟨b1, ⟨b2, b3⟩, b4, b5, b6, b7⟩ := h'
  refine ⟨fun a h1 h2 => (b1 a h1 h2).trans (a1 a h1 h2), ⟨b2.trans a2, b3.trans a3⟩, fun l hl => ?_, fun i hi => ?_, fun i hi => ?_, fun f f0 f1 f2 f3 f4 f5 f6 f7 f8 f9 fa fb fc => (b7 f f0 f1 f2 f3 f4 f5 f6 f7 f8 f9 fa fb fc).trans (a7 f f0 f1 f2 f3 f4 f5 f6 f7 f8 f9 fa fb fc)⟩
  · obtain ⟨c1, c2, c3⟩ := a4 l hl
    obtain ⟨d1, d2, d3⟩ := b4 l hl
    exact ⟨d1.trans c1, d2.trans c2, d3.trans c3⟩
  · exact ⟨(b5 i hi).1.trans (a5 i hi).1, (b5 i hi).2.trans (a5 i hi).2⟩
  · exact ⟨(b6 i hi).1.trans (a6 i hi).1, (b6 i hi).2.trans (a6 i hi).2⟩
theorem gTy_lf {M N : Nat → Nat → Int32} (h : gLf M N) : gTy M N := by
  obtain ⟨a1, a2, a3, a4⟩ := h
  exact ⟨fun a h1 h2 => a1 a (by omega) (by omega) (by omega) (by omega) (by omega) (by omega) (by omega) (by omega), ⟨a1 204 (by decide) (by decide) (by decide) (by decide) (by decide) (by decide) (by decide) (by decide), a1 213 (by decide) (by decide) (by decide) (by decide) (by decide) (by decide) (by decide) (by decide)⟩, fun l hl => (a3 l hl).2, a2,
    fun i _ => by rw [a1 214 (by decide) (by decide) (by decide) (by decide) (by decide) (by decide) (by decide) (by decide), a1 215 (by decide) (by decide) (by decide) (by decide) (by decide) (by decide) (by decide) (by decide)]; exact ⟨rfl, rfl⟩, fun f f0 f1 f2 f3 f4 f5 f6 f7 f8 f9 fa fb fc => a4 f (by omega) (by omega) (by omega) (by omega) (by omega) (by omega) (by omega) (by omega) (by omega)⟩
theorem gTy_fp {M N : Nat → Nat → Int32} (h : gFp M N) : gTy M N := by
  obtain ⟨a1, a2, a3⟩ := h
  have e : ∀ a, a ≠ 188 → a ≠ 214 → a ≠ 215 → N a = M a := a1
  exact ⟨fun a h1 h2 => e a (by omega) (by omega) (by omega), ⟨e 204 (by decide) (by decide) (by decide), e 213 (by decide) (by decide) (by decide)⟩, fun l _ => by rw [e 206 (by decide) (by decide) (by decide), e 207 (by decide) (by decide) (by decide), e 208 (by decide) (by decide) (by decide)]; exact ⟨rfl, rfl, rfl⟩, fun i _ => by rw [e 210 (by decide) (by decide) (by decide), e 211 (by decide) (by decide) (by decide)]; exact ⟨rfl, rfl⟩,
    a2, fun f f0 f1 f2 f3 f4 f5 f6 f7 f8 f9 fa fb fc => a3 f (by omega) (by omega) (by omega) (by omega) (by omega) (by omega)⟩
theorem gTy_put {M : Nat → Nat → Int32} {f : Nat} {x : Int32} (hf : f = 0 ∨ f = 24 ∨ f = 25 ∨ f = 38 ∨ f = 39 ∨ f = 44 ∨ f = 45) : gTy M (aPut M 188 f x) :=
  ⟨fun a h1 _ => aPut_r h1, ⟨aPut_r (by decide), aPut_r (by decide)⟩, fun l _ => ⟨aPut_o (by decide), aPut_o (by decide), aPut_o (by decide)⟩, fun i _ => ⟨aPut_o (by decide), aPut_o (by decide)⟩, fun i _ => ⟨aPut_o (by decide), aPut_o (by decide)⟩, fun g f0 f1 f2 f3 f4 f5 f6 f7 f8 f9 fa fb fc => aPut_f (by omega)⟩
theorem gTy_rd {M N : Nat → Nat → Int32} (h : gRd M N) : gTy M N := by
  have e : ∀ a, a ≠ 188 → N a = M a := h.1
  exact ⟨fun a h1 h2 => e a h1, ⟨e 204 (by decide), e 213 (by decide)⟩, fun l _ => by rw [e 206 (by decide), e 207 (by decide), e 208 (by decide)]; exact ⟨rfl, rfl, rfl⟩, fun i _ => by rw [e 210 (by decide), e 211 (by decide)]; exact ⟨rfl, rfl⟩,
    fun i _ => by rw [e 214 (by decide), e 215 (by decide)]; exact ⟨rfl, rfl⟩, fun f f0 f1 f2 f3 f4 f5 f6 f7 f8 f9 fa fb fc => h.2.1 f (by omega) (by omega) (by omega) (by omega)⟩
/-- the reader's numbers keep to their bounds -/
def gTr (N : Nat → Nat → Int32) : Prop := 0 ≤ (N 188 25).toInt ∧ (N 188 25).toInt ≤ 500 ∧ 0 ≤ (N 188 26).toInt ∧ (N 188 26).toInt ≤ 500 ∧ 0 ≤ (N 188 27).toInt ∧ (N 188 27).toInt ≤ 4 ∧ 0 ≤ (N 188 38).toInt ∧ (N 188 38).toInt ≤ 500 ∧ 0 ≤ (N 188 39).toInt ∧ (N 188 39).toInt ≤ 8 ∧ 0 ≤ (N 188 41).toInt ∧ (N 188 41).toInt ≤ 40
theorem gTr_put {N : Nat → Nat → Int32} {f : Nat} {x : Int32} (h : gTr N) (hf : f = 24 ∨ f = 44 ∨ f = 45) : gTr (aPut N 188 f x) := by
  unfold gTr
  rw [aPut_f (by omega), aPut_f (by omega), aPut_f (by omega), aPut_f (by omega), aPut_f (by omega), aPut_f (by omega)]
  exact h
theorem gTr_of {N : Nat → Nat → Int32} (h : gTs N) (h1 : 0 ≤ (N 188 38).toInt ∧ (N 188 38).toInt ≤ 500 ∧ 0 ≤ (N 188 39).toInt ∧ (N 188 39).toInt ≤ 8 ∧ 0 ≤ (N 188 41).toInt ∧ (N 188 41).toInt ≤ 40) : gTr N := by
  obtain ⟨p1, p2, p3, p4, -⟩ := h.1
  obtain ⟨q1, q2, q3, q4, -⟩ := h.2
  exact ⟨p3, by omega, q1, by omega, q3, q4, h1⟩
/-- what a text may change -/
def gTx (M M' : Nat → Nat → Int32) : Prop := (∀ a, a ≠ 188 → (a < 204 ∨ 215 < a) → M' a = M a) ∧ (∀ f, f ≠ 0 → f ≠ 24 → f ≠ 25 → f ≠ 26 → f ≠ 27 → f ≠ 28 → f ≠ 38 → f ≠ 39 → f ≠ 41 → f ≠ 42 → f ≠ 43 → f ≠ 44 → f ≠ 45 → M' 188 f = M 188 f) ∧ (M' 188 24).toInt = 0 ∧ gTr M' ∧
  (∀ i, M' 204 i = M 204 i ∨ 0 ≤ (M' 204 i).toInt ∧ (M' 204 i).toInt ≤ 16) ∧ (∀ i, M' 213 i = M 213 i ∨ 0 ≤ (M' 213 i).toInt ∧ (M' 213 i).toInt ≤ 24) ∧ gRows (M' 204) (M' 206) (M' 207) (M' 208) (M' 210) (M' 211) ∧ gSteps (M' 214) (M' 215)
theorem gTy_rows {M N : Nat → Nat → Int32} (h : gTy M N) (hR : gRows (M 204) (M 206) (M 207) (M 208) (M 210) (M 211)) : gRows (N 204) (N 206) (N 207) (N 208) (N 210) (N 211) := gRows_eq (fun k _ => by rw [h.2.1.1]) h.2.2.1 h.2.2.2.1 hR
theorem gTx_of {M N : Nat → Nat → Int32} (h : gTy M N) (r : gTr N) (z : (N 188 24).toInt = 0) (hR : gRows (M 204) (M 206) (M 207) (M 208) (M 210) (M 211)) (hS : gSteps (M 214) (M 215)) : gTx M N :=
  ⟨h.1, h.2.2.2.2.2, z, r, fun i => Or.inl (by rw [h.2.1.1]), fun i => Or.inl (by rw [h.2.1.2]), gTy_rows h hR, gSteps_eq h.2.2.2.2.1 hS⟩
theorem gTx_law {M N M' : Nat → Nat → Int32} (h : gTy M N) (r : gTr N) (z : (N 188 24).toInt = 0) (hS : gSteps (M 214) (M 215)) (h1 : ∀ a, a < 204 ∨ 211 < a → M' a = N a) (h2 : ∀ i, M' 204 i = N 204 i ∨ 0 ≤ (M' 204 i).toInt ∧ (M' 204 i).toInt ≤ 16) (hR : gRows (M' 204) (M' 206) (M' 207) (M' 208) (M' 210) (M' 211)) : gTx M M' := by
  refine ⟨fun a a1 a2 => (h1 a (by omega)).trans (h.1 a a1 a2), ?_, ?_, ?_, fun i => by rw [← h.2.1.1]; exact h2 i, fun i => Or.inl (by rw [h1 213 (by decide), h.2.1.2]), hR, ?_⟩
  · rw [h1 188 (by decide)]; exact h.2.2.2.2.2
  · rw [h1 188 (by decide)]; exact z
  · unfold gTr; rw [h1 188 (by decide)]; exact r
  · rw [h1 214 (by decide), h1 215 (by decide)]; exact gSteps_eq h.2.2.2.2.1 hS
theorem gTx_plan {M N M' : Nat → Nat → Int32} (h : gTy M N) (r : gTr N) (z : (N 188 24).toInt = 0) (hR : gRows (M 204) (M 206) (M 207) (M 208) (M 210) (M 211)) (h1 : ∀ a, a < 213 ∨ 215 < a → M' a = N a) (h2 : ∀ i, M' 213 i = N 213 i ∨ 0 ≤ (M' 213 i).toInt ∧ (M' 213 i).toInt ≤ 24) (hS : gSteps (M' 214) (M' 215)) : gTx M M' := by
  refine ⟨fun a a1 a2 => (h1 a (by omega)).trans (h.1 a a1 a2), ?_, ?_, ?_, fun i => Or.inl (by rw [h1 204 (by decide), h.2.1.1]), fun i => by rw [← h.2.1.2]; exact h2 i, ?_, hS⟩
  · rw [h1 188 (by decide)]; exact h.2.2.2.2.2
  · rw [h1 188 (by decide)]; exact z
  · unfold gTr; rw [h1 188 (by decide)]; exact r
  · rw [h1 204 (by decide), h1 206 (by decide), h1 207 (by decide), h1 208 (by decide), h1 210 (by decide), h1 211 (by decide)]; exact gTy_rows h hR
theorem gLs_24 {M : Nat → Nat → Int32} {n : Nat} {x : Int32} (h : gLs n M) (h0 : 0 ≤ (M 188 38).toInt) : gLs n (aPut M 188 24 x) := fun l hl =>
  gLn_eq (h l hl) h0 (aPut_o (by decide)) (aPut_o (by decide)) (aPut_o (by decide)) (by rw [aPut_f (by decide)]; exact Int.le_refl _) (fun i _ => ⟨aPut_o (by decide), aPut_o (by decide)⟩)
theorem gSs_24 {M : Nat → Nat → Int32} {n : Nat} {x : Int32} (h : gSs n M) : gSs n (aPut M 188 24 x) := fun l hl => by
  rw [aPut_r (by decide), aPut_r (by decide)]
  exact h l hl
theorem bk_81_0 : (aMC 81)[0]? = some [.aload 0, .bipush 0, .putfield 124212000, .aload 0, .bipush 0, .putfield 128612176, .aload 0, .bipush (-1), .putfield 128712180, .aload 0, .iload 1, .bipush 0, .bipush 1, .invokevirtual 1492042, .ifCond .eq 3] := by decide +kernel
theorem bk_81_1 : (aMC 81)[1]? = some [.aload 0, .iload 2, .bipush 0, .bipush 3, .invokevirtual 1492042, .ifCond .eq 3] := by decide +kernel
theorem bk_81_2 : (aMC 81)[2]? = some [.bipush 1, .goto 4] := by decide +kernel
theorem bk_81_3 : (aMC 81)[3]? = some [.bipush 0] := by decide +kernel
theorem bk_81_4 : (aMC 81)[4]? = some [.istore 3, .aload 0, .bipush 0, .putfield 126712100, .aload 0, .bipush 0, .putfield 128012152, .aload 0, .bipush 0, .putfield 128112156, .aload 0, .invokevirtual 1532065, .iload 3, .ifCond .ne 6] := by decide +kernel
theorem bk_81_5 : (aMC 81)[5]? = some [.bipush (-1), .goto 9] := by decide +kernel
theorem bk_81_6 : (aMC 81)[6]? = some [.iload 1, .ifCond .ne 8] := by decide +kernel
theorem bk_81_7 : (aMC 81)[7]? = some [.aload 0, .invokevirtual 1556077, .goto 9] := by decide +kernel
theorem bk_81_8 : (aMC 81)[8]? = some [.aload 0, .invokevirtual 1604079] := by decide +kernel
theorem bk_81_9 : (aMC 81)[9]? = some [.istore 4, .aload 0, .bipush 0, .putfield 126612096, .iload 3, .ifCond .eq 12] := by decide +kernel
theorem bk_81_10 : (aMC 81)[10]? = some [.iload 4, .bipush (-1), .if_icmp .ne 12] := by decide +kernel
theorem bk_81_11 : (aMC 81)[11]? = some [.aload 0, .aload 0, .getfield 128412168, .putfield 128612176, .aload 0, .aload 0, .getfield 128512172, .putfield 128712180] := by decide +kernel
theorem bk_81_12 : (aMC 81)[12]? = some [.iload 4, .bipush (-1), .if_icmp .ne 14] := by decide +kernel
theorem bk_81_13 : (aMC 81)[13]? = some [.bipush (-1), .ireturn] := by decide +kernel
theorem bk_81_14 : (aMC 81)[14]? = some [.iload 1, .ifCond .ne 16] := by decide +kernel
theorem bk_81_15 : (aMC 81)[15]? = some [.aload 0, .iload 2, .iload 4, .invokevirtual 1608078, .goto 17] := by decide +kernel
theorem bk_81_16 : (aMC 81)[16]? = some [.aload 0, .iload 2, .iload 4, .invokevirtual 1612080] := by decide +kernel
theorem bk_81_17 : (aMC 81)[17]? = some [.iload 4, .ireturn] := by decide +kernel
set_option maxHeartbeats 4000000 in
theorem h81 {X : aX} {d : Nat} {k : Nat → aK} (hk : gKs k) {M : Nat → Nat → Int32} {i1 i2 : Int} (hi1 : -2147483648 ≤ i1 ∧ i1 ≤ 2147483647) (hi2 : -2147483648 ≤ i2 ∧ i2 ≤ 2147483647) (ht : 0 ≤ (M 188 24).toInt ∧ (M 188 24).toInt ≤ 500) (hp : 0 ≤ (M 188 41).toInt ∧ (M 188 41).toInt ≤ 40) (hw : gWords (M 203)) (hRw : gRows (M 204) (M 206) (M 207) (M 208) (M 210) (M 211)) (hSt : gSteps (M 214) (M 215)) : zRn X (d + 1 + 1 + 1 + 1 + 1 + 1 + 1 + 1 + 1 + 1 + 1 + 1 + 1) 81 [.ref 188, iv i1, iv i2] (gH k M) (fun rv h' => ∃ e M', rv = some (iv e) ∧ h' = gH k M' ∧ -1 ≤ e ∧ e ≤ 24 ∧ gTx M M') := by
  refine wEnt (n := 5) (ls := [.ref 188, iv i1, iv i2, aD, aD]) bk_81_0 (by decide +kernel) rfl rfl rfl ?_
  refine wP (ls' := [.ref 188, iv i1, iv i2, aD, aD]) (st' := [.ref 188]) rfl rfl ?_
  refine wP (ls' := [.ref 188, iv i1, iv i2, aD, aD]) (st' := [iv 0, .ref 188]) rfl rfl ?_
  refine wPutN hk (f := 0) (by decide +kernel) (Or.inl rfl) ?_
  refine wP (ls' := [.ref 188, iv i1, iv i2, aD, aD]) (st' := [.ref 188]) rfl rfl ?_
  refine wP (ls' := [.ref 188, iv i1, iv i2, aD, aD]) (st' := [iv 0, .ref 188]) rfl rfl ?_
  refine wPutN hk (f := 44) (by decide +kernel) (Or.inl rfl) ?_
  refine wP (ls' := [.ref 188, iv i1, iv i2, aD, aD]) (st' := [.ref 188]) rfl rfl ?_
  refine wP (ls' := [.ref 188, iv i1, iv i2, aD, aD]) (st' := [iv (-1), .ref 188]) rfl rfl ?_
  refine wPutN hk (f := 45) (by decide +kernel) (Or.inl rfl) ?_
  refine wP (ls' := [.ref 188, iv i1, iv i2, aD, aD]) (st' := [.ref 188]) rfl rfl ?_
  refine wP (ls' := [.ref 188, iv i1, iv i2, aD, aD]) (st' := [iv i1, .ref 188]) rfl rfl ?_
  refine wP (ls' := [.ref 188, iv i1, iv i2, aD, aD]) (st' := [iv 0, iv i1, .ref 188]) rfl rfl ?_
  refine wP (ls' := [.ref 188, iv i1, iv i2, aD, aD]) (st' := [iv 1, iv 0, iv i1, .ref 188]) rfl rfl ?_
  refine wCall hk (q := 42) (na := 3) (a := 188) (as := [iv i1, iv 0, iv 1]) (t := []) rfl (by decide +kernel) (by decide) (by decide +kernel) (Nat.le_of_ble_eq_true rfl) rfl rfl (zRn.mono (h42 hk (by omega) (by omega) (by omega)) (fun rv h' hq => ?_))
  obtain ⟨rfl, e1, rfl, r1⟩ := hq
  have rb1 : 0 ≤ e1 ∧ e1 ≤ 1 := by omega
  refine ⟨rfl, ?_⟩
  show zW X _ 81 0 [.ifCond .eq 3] [.ref 188, iv i1, iv i2, aD, aD] [iv e1] (gH k (aPut (aPut (aPut M 188 0 (Int32.ofInt 0)) 188 44 (Int32.ofInt 0)) 188 45 (Int32.ofInt (-1)))) _
  refine wIf0 (n1 := 3) rfl bk_81_3 bk_81_1 (by omega) (fun g0 => ?_) (fun g0 => ?_)
  · replace g0 : (e1 : Int) = 0 := g0
    clear r1
    refine wP (ls' := [.ref 188, iv i1, iv i2, aD, aD]) (st' := [iv 0]) rfl rfl ?_
    refine zW_fall bk_81_4 ?_
    refine wP (ls' := [.ref 188, iv i1, iv i2, iv 0, aD]) (st' := []) rfl rfl ?_
    refine wP (ls' := [.ref 188, iv i1, iv i2, iv 0, aD]) (st' := [.ref 188]) rfl rfl ?_
    refine wP (ls' := [.ref 188, iv i1, iv i2, iv 0, aD]) (st' := [iv 0, .ref 188]) rfl rfl ?_
    refine wPutN hk (f := 25) (by decide +kernel) (Or.inl rfl) ?_
    refine wP (ls' := [.ref 188, iv i1, iv i2, iv 0, aD]) (st' := [.ref 188]) rfl rfl ?_
    refine wP (ls' := [.ref 188, iv i1, iv i2, iv 0, aD]) (st' := [iv 0, .ref 188]) rfl rfl ?_
    refine wPutN hk (f := 38) (by decide +kernel) (Or.inl rfl) ?_
    refine wP (ls' := [.ref 188, iv i1, iv i2, iv 0, aD]) (st' := [.ref 188]) rfl rfl ?_
    refine wP (ls' := [.ref 188, iv i1, iv i2, iv 0, aD]) (st' := [iv 0, .ref 188]) rfl rfl ?_
    refine wPutN hk (f := 39) (by decide +kernel) (Or.inl rfl) ?_
    refine wP (ls' := [.ref 188, iv i1, iv i2, iv 0, aD]) (st' := [.ref 188]) rfl rfl ?_
    refine wCall hk (q := 65) (na := 0) (a := 188) (as := []) (t := []) rfl (by decide +kernel) (by decide) (by decide +kernel) (Nat.le_of_ble_eq_true rfl) rfl rfl (zRn.mono (h65p hk (M := (aPut (aPut (aPut (aPut (aPut (aPut M 188 0 (Int32.ofInt 0)) 188 44 (Int32.ofInt 0)) 188 45 (Int32.ofInt (-1))) 188 25 (Int32.ofInt 0)) 188 38 (Int32.ofInt 0)) 188 39 (Int32.ofInt 0))) ⟨by rw [aPut_f (by decide), aPut_f (by decide), aPut_f (by decide), aPut_f (by decide), aPut_f (by decide), aPut_f (by decide)]; omega, by rw [aPut_f (by decide), aPut_f (by decide), aPut_f (by decide), aPut_f (by decide), aPut_f (by decide), aPut_f (by decide)]; omega, by rw [aPut_f (by decide), aPut_f (by decide), aPut_e]; decide, by rw [aPut_f (by decide), aPut_f (by decide), aPut_e, aPut_f (by decide), aPut_f (by decide), aPut_f (by decide), aPut_f (by decide), aPut_f (by decide), aPut_f (by decide)]; exact ht.1, by rw [aPut_r (by decide), aPut_r (by decide), aPut_r (by decide), aPut_r (by decide), aPut_r (by decide), aPut_r (by decide)]; exact hw⟩) (fun rv h' hq => ?_))
    obtain ⟨M2, rfl, rfl, hR⟩ := hq
    have y2 : gTy M M2 := (gTy_put (f := 0) (by decide)).trans ((gTy_put (f := 44) (by decide)).trans ((gTy_put (f := 45) (by decide)).trans ((gTy_put (f := 25) (by decide)).trans ((gTy_put (f := 38) (by decide)).trans ((gTy_put (f := 39) (by decide)).trans (gTy_rd hR))))))
    have t38 : (M2 188 38).toInt = 0 := by rw [hR.2.1 38 (by decide) (by decide) (by decide) (by decide), aPut_f (by decide), aPut_e]; rfl
    have t39 : (M2 188 39).toInt = 0 := by rw [hR.2.1 39 (by decide) (by decide) (by decide) (by decide), aPut_e]; rfl
    have t41 : (M2 188 41).toInt = (M 188 41).toInt := by rw [hR.2.1 41 (by decide) (by decide) (by decide) (by decide), aPut_f (by decide), aPut_f (by decide), aPut_f (by decide), aPut_f (by decide), aPut_f (by decide), aPut_f (by decide)]
    have s2 : gTs M2 := (gRd_s hR ⟨by rw [aPut_f (by decide), aPut_f (by decide), aPut_f (by decide), aPut_f (by decide), aPut_f (by decide), aPut_f (by decide)]; omega, by rw [aPut_f (by decide), aPut_f (by decide), aPut_f (by decide), aPut_f (by decide), aPut_f (by decide), aPut_f (by decide)]; omega, by rw [aPut_f (by decide), aPut_f (by decide), aPut_e]; decide, by rw [aPut_f (by decide), aPut_f (by decide), aPut_e, aPut_f (by decide), aPut_f (by decide), aPut_f (by decide), aPut_f (by decide), aPut_f (by decide), aPut_f (by decide)]; exact ht.1, by rw [aPut_r (by decide), aPut_r (by decide), aPut_r (by decide), aPut_r (by decide), aPut_r (by decide), aPut_r (by decide)]; exact hw⟩).1
    have r2 : gTr M2 := gTr_of s2 (by omega)
    clear hR
    refine ⟨rfl, ?_⟩
    show zW X _ 81 4 [.iload 3, .ifCond .ne 6] [.ref 188, iv i1, iv i2, iv 0, aD] [] (gH k M2) _
    refine wP (ls' := [.ref 188, iv i1, iv i2, iv 0, aD]) (st' := [iv 0]) rfl rfl ?_
    refine wIf0 (n1 := 6) rfl bk_81_6 bk_81_5 (by omega) (fun g1 => ?_) (fun g1 => ?_)
    · replace g1 : ¬ (0 : Int) = 0 := g1
      exact absurd g1 (by omega)
    · replace g1 : ¬ (¬ (0 : Int) = 0) := g1
      refine wP (ls' := [.ref 188, iv i1, iv i2, iv 0, aD]) (st' := [iv (-1)]) rfl rfl ?_
      refine wGoto (n1 := 9) rfl bk_81_9 ?_
      refine wP (ls' := [.ref 188, iv i1, iv i2, iv 0, iv (-1)]) (st' := []) rfl rfl ?_
      refine wP (ls' := [.ref 188, iv i1, iv i2, iv 0, iv (-1)]) (st' := [.ref 188]) rfl rfl ?_
      refine wP (ls' := [.ref 188, iv i1, iv i2, iv 0, iv (-1)]) (st' := [iv 0, .ref 188]) rfl rfl ?_
      refine wPutN hk (f := 24) (by decide +kernel) (Or.inl rfl) ?_
      refine wP (ls' := [.ref 188, iv i1, iv i2, iv 0, iv (-1)]) (st' := [iv 0]) rfl rfl ?_
      refine wIf0 (n1 := 12) rfl bk_81_12 bk_81_10 (by omega) (fun g2 => ?_) (fun g2 => ?_)
      · replace g2 : (0 : Int) = 0 := g2
        refine wP (ls' := [.ref 188, iv i1, iv i2, iv 0, iv (-1)]) (st' := [iv (-1)]) rfl rfl ?_
        refine wP (ls' := [.ref 188, iv i1, iv i2, iv 0, iv (-1)]) (st' := [iv (-1), iv (-1)]) rfl rfl ?_
        refine wIfc (n1 := 14) rfl bk_81_14 bk_81_13 (by omega) (by omega) (fun g3 => ?_) (fun g3 => ?_)
        · replace g3 : ¬ ((-1) : Int) = (-1) := g3
          exact absurd g3 (by omega)
        · replace g3 : ¬ (¬ ((-1) : Int) = (-1)) := g3
          refine wP (ls' := [.ref 188, iv i1, iv i2, iv 0, iv (-1)]) (st' := [iv (-1)]) rfl rfl ?_
          exact wIret (Or.inl (by decide +kernel)) ⟨-1, _, rfl, rfl, by omega, by omega, gTx_of (y2.trans (gTy_put (by decide))) (gTr_put r2 (by decide)) (by rw [aPut_e]; rfl) hRw hSt⟩
      · replace g2 : ¬ ((0 : Int) = 0) := g2
        exact absurd g2 (by omega)
  · replace g0 : ¬ ((e1 : Int) = 0) := g0
    obtain ⟨-, r1a, r1b⟩ := r1.resolve_right (fun z => g0 z.1)
    refine wP (ls' := [.ref 188, iv i1, iv i2, aD, aD]) (st' := [.ref 188]) rfl rfl ?_
    refine wP (ls' := [.ref 188, iv i1, iv i2, aD, aD]) (st' := [iv i2, .ref 188]) rfl rfl ?_
    refine wP (ls' := [.ref 188, iv i1, iv i2, aD, aD]) (st' := [iv 0, iv i2, .ref 188]) rfl rfl ?_
    refine wP (ls' := [.ref 188, iv i1, iv i2, aD, aD]) (st' := [iv 3, iv 0, iv i2, .ref 188]) rfl rfl ?_
    refine wCall hk (q := 42) (na := 3) (a := 188) (as := [iv i2, iv 0, iv 3]) (t := []) rfl (by decide +kernel) (by decide) (by decide +kernel) (Nat.le_of_ble_eq_true rfl) rfl rfl (zRn.mono (h42 hk (by omega) (by omega) (by omega)) (fun rv h' hq => ?_))
    obtain ⟨rfl, e3, rfl, r3⟩ := hq
    have rb3 : 0 ≤ e3 ∧ e3 ≤ 1 := by omega
    refine ⟨rfl, ?_⟩
    show zW X _ 81 1 [.ifCond .eq 3] [.ref 188, iv i1, iv i2, aD, aD] [iv e3] (gH k (aPut (aPut (aPut M 188 0 (Int32.ofInt 0)) 188 44 (Int32.ofInt 0)) 188 45 (Int32.ofInt (-1)))) _
    refine wIf0 (n1 := 3) rfl bk_81_3 bk_81_2 (by omega) (fun g1 => ?_) (fun g1 => ?_)
    · replace g1 : (e3 : Int) = 0 := g1
      clear r3
      refine wP (ls' := [.ref 188, iv i1, iv i2, aD, aD]) (st' := [iv 0]) rfl rfl ?_
      refine zW_fall bk_81_4 ?_
      refine wP (ls' := [.ref 188, iv i1, iv i2, iv 0, aD]) (st' := []) rfl rfl ?_
      refine wP (ls' := [.ref 188, iv i1, iv i2, iv 0, aD]) (st' := [.ref 188]) rfl rfl ?_
      refine wP (ls' := [.ref 188, iv i1, iv i2, iv 0, aD]) (st' := [iv 0, .ref 188]) rfl rfl ?_
      refine wPutN hk (f := 25) (by decide +kernel) (Or.inl rfl) ?_
      refine wP (ls' := [.ref 188, iv i1, iv i2, iv 0, aD]) (st' := [.ref 188]) rfl rfl ?_
      refine wP (ls' := [.ref 188, iv i1, iv i2, iv 0, aD]) (st' := [iv 0, .ref 188]) rfl rfl ?_
      refine wPutN hk (f := 38) (by decide +kernel) (Or.inl rfl) ?_
      refine wP (ls' := [.ref 188, iv i1, iv i2, iv 0, aD]) (st' := [.ref 188]) rfl rfl ?_
      refine wP (ls' := [.ref 188, iv i1, iv i2, iv 0, aD]) (st' := [iv 0, .ref 188]) rfl rfl ?_
      refine wPutN hk (f := 39) (by decide +kernel) (Or.inl rfl) ?_
      refine wP (ls' := [.ref 188, iv i1, iv i2, iv 0, aD]) (st' := [.ref 188]) rfl rfl ?_
      refine wCall hk (q := 65) (na := 0) (a := 188) (as := []) (t := []) rfl (by decide +kernel) (by decide) (by decide +kernel) (Nat.le_of_ble_eq_true rfl) rfl rfl (zRn.mono (h65p hk (M := (aPut (aPut (aPut (aPut (aPut (aPut M 188 0 (Int32.ofInt 0)) 188 44 (Int32.ofInt 0)) 188 45 (Int32.ofInt (-1))) 188 25 (Int32.ofInt 0)) 188 38 (Int32.ofInt 0)) 188 39 (Int32.ofInt 0))) ⟨by rw [aPut_f (by decide), aPut_f (by decide), aPut_f (by decide), aPut_f (by decide), aPut_f (by decide), aPut_f (by decide)]; omega, by rw [aPut_f (by decide), aPut_f (by decide), aPut_f (by decide), aPut_f (by decide), aPut_f (by decide), aPut_f (by decide)]; omega, by rw [aPut_f (by decide), aPut_f (by decide), aPut_e]; decide, by rw [aPut_f (by decide), aPut_f (by decide), aPut_e, aPut_f (by decide), aPut_f (by decide), aPut_f (by decide), aPut_f (by decide), aPut_f (by decide), aPut_f (by decide)]; exact ht.1, by rw [aPut_r (by decide), aPut_r (by decide), aPut_r (by decide), aPut_r (by decide), aPut_r (by decide), aPut_r (by decide)]; exact hw⟩) (fun rv h' hq => ?_))
      obtain ⟨M2, rfl, rfl, hR⟩ := hq
      have y2 : gTy M M2 := (gTy_put (f := 0) (by decide)).trans ((gTy_put (f := 44) (by decide)).trans ((gTy_put (f := 45) (by decide)).trans ((gTy_put (f := 25) (by decide)).trans ((gTy_put (f := 38) (by decide)).trans ((gTy_put (f := 39) (by decide)).trans (gTy_rd hR))))))
      have t38 : (M2 188 38).toInt = 0 := by rw [hR.2.1 38 (by decide) (by decide) (by decide) (by decide), aPut_f (by decide), aPut_e]; rfl
      have t39 : (M2 188 39).toInt = 0 := by rw [hR.2.1 39 (by decide) (by decide) (by decide) (by decide), aPut_e]; rfl
      have t41 : (M2 188 41).toInt = (M 188 41).toInt := by rw [hR.2.1 41 (by decide) (by decide) (by decide) (by decide), aPut_f (by decide), aPut_f (by decide), aPut_f (by decide), aPut_f (by decide), aPut_f (by decide), aPut_f (by decide)]
      have s2 : gTs M2 := (gRd_s hR ⟨by rw [aPut_f (by decide), aPut_f (by decide), aPut_f (by decide), aPut_f (by decide), aPut_f (by decide), aPut_f (by decide)]; omega, by rw [aPut_f (by decide), aPut_f (by decide), aPut_f (by decide), aPut_f (by decide), aPut_f (by decide), aPut_f (by decide)]; omega, by rw [aPut_f (by decide), aPut_f (by decide), aPut_e]; decide, by rw [aPut_f (by decide), aPut_f (by decide), aPut_e, aPut_f (by decide), aPut_f (by decide), aPut_f (by decide), aPut_f (by decide), aPut_f (by decide), aPut_f (by decide)]; exact ht.1, by rw [aPut_r (by decide), aPut_r (by decide), aPut_r (by decide), aPut_r (by decide), aPut_r (by decide), aPut_r (by decide)]; exact hw⟩).1
      have r2 : gTr M2 := gTr_of s2 (by omega)
      clear hR
      refine ⟨rfl, ?_⟩
      show zW X _ 81 4 [.iload 3, .ifCond .ne 6] [.ref 188, iv i1, iv i2, iv 0, aD] [] (gH k M2) _
      refine wP (ls' := [.ref 188, iv i1, iv i2, iv 0, aD]) (st' := [iv 0]) rfl rfl ?_
      refine wIf0 (n1 := 6) rfl bk_81_6 bk_81_5 (by omega) (fun g2 => ?_) (fun g2 => ?_)
      · replace g2 : ¬ (0 : Int) = 0 := g2
        exact absurd g2 (by omega)
      · replace g2 : ¬ (¬ (0 : Int) = 0) := g2
        refine wP (ls' := [.ref 188, iv i1, iv i2, iv 0, aD]) (st' := [iv (-1)]) rfl rfl ?_
        refine wGoto (n1 := 9) rfl bk_81_9 ?_
        refine wP (ls' := [.ref 188, iv i1, iv i2, iv 0, iv (-1)]) (st' := []) rfl rfl ?_
        refine wP (ls' := [.ref 188, iv i1, iv i2, iv 0, iv (-1)]) (st' := [.ref 188]) rfl rfl ?_
        refine wP (ls' := [.ref 188, iv i1, iv i2, iv 0, iv (-1)]) (st' := [iv 0, .ref 188]) rfl rfl ?_
        refine wPutN hk (f := 24) (by decide +kernel) (Or.inl rfl) ?_
        refine wP (ls' := [.ref 188, iv i1, iv i2, iv 0, iv (-1)]) (st' := [iv 0]) rfl rfl ?_
        refine wIf0 (n1 := 12) rfl bk_81_12 bk_81_10 (by omega) (fun g3 => ?_) (fun g3 => ?_)
        · replace g3 : (0 : Int) = 0 := g3
          refine wP (ls' := [.ref 188, iv i1, iv i2, iv 0, iv (-1)]) (st' := [iv (-1)]) rfl rfl ?_
          refine wP (ls' := [.ref 188, iv i1, iv i2, iv 0, iv (-1)]) (st' := [iv (-1), iv (-1)]) rfl rfl ?_
          refine wIfc (n1 := 14) rfl bk_81_14 bk_81_13 (by omega) (by omega) (fun g4 => ?_) (fun g4 => ?_)
          · replace g4 : ¬ ((-1) : Int) = (-1) := g4
            exact absurd g4 (by omega)
          · replace g4 : ¬ (¬ ((-1) : Int) = (-1)) := g4
            refine wP (ls' := [.ref 188, iv i1, iv i2, iv 0, iv (-1)]) (st' := [iv (-1)]) rfl rfl ?_
            exact wIret (Or.inl (by decide +kernel)) ⟨-1, _, rfl, rfl, by omega, by omega, gTx_of (y2.trans (gTy_put (by decide))) (gTr_put r2 (by decide)) (by rw [aPut_e]; rfl) hRw hSt⟩
        · replace g3 : ¬ ((0 : Int) = 0) := g3
          exact absurd g3 (by omega)
    · replace g1 : ¬ ((e3 : Int) = 0) := g1
      obtain ⟨-, r3a, r3b⟩ := r3.resolve_right (fun z => g1 z.1)
      refine wP (ls' := [.ref 188, iv i1, iv i2, aD, aD]) (st' := [iv 1]) rfl rfl ?_
      refine wGoto (n1 := 4) rfl bk_81_4 ?_
      refine wP (ls' := [.ref 188, iv i1, iv i2, iv 1, aD]) (st' := []) rfl rfl ?_
      refine wP (ls' := [.ref 188, iv i1, iv i2, iv 1, aD]) (st' := [.ref 188]) rfl rfl ?_
      refine wP (ls' := [.ref 188, iv i1, iv i2, iv 1, aD]) (st' := [iv 0, .ref 188]) rfl rfl ?_
      refine wPutN hk (f := 25) (by decide +kernel) (Or.inl rfl) ?_
      refine wP (ls' := [.ref 188, iv i1, iv i2, iv 1, aD]) (st' := [.ref 188]) rfl rfl ?_
      refine wP (ls' := [.ref 188, iv i1, iv i2, iv 1, aD]) (st' := [iv 0, .ref 188]) rfl rfl ?_
      refine wPutN hk (f := 38) (by decide +kernel) (Or.inl rfl) ?_
      refine wP (ls' := [.ref 188, iv i1, iv i2, iv 1, aD]) (st' := [.ref 188]) rfl rfl ?_
      refine wP (ls' := [.ref 188, iv i1, iv i2, iv 1, aD]) (st' := [iv 0, .ref 188]) rfl rfl ?_
      refine wPutN hk (f := 39) (by decide +kernel) (Or.inl rfl) ?_
      refine wP (ls' := [.ref 188, iv i1, iv i2, iv 1, aD]) (st' := [.ref 188]) rfl rfl ?_
      refine wCall hk (q := 65) (na := 0) (a := 188) (as := []) (t := []) rfl (by decide +kernel) (by decide) (by decide +kernel) (Nat.le_of_ble_eq_true rfl) rfl rfl (zRn.mono (h65p hk (M := (aPut (aPut (aPut (aPut (aPut (aPut M 188 0 (Int32.ofInt 0)) 188 44 (Int32.ofInt 0)) 188 45 (Int32.ofInt (-1))) 188 25 (Int32.ofInt 0)) 188 38 (Int32.ofInt 0)) 188 39 (Int32.ofInt 0))) ⟨by rw [aPut_f (by decide), aPut_f (by decide), aPut_f (by decide), aPut_f (by decide), aPut_f (by decide), aPut_f (by decide)]; omega, by rw [aPut_f (by decide), aPut_f (by decide), aPut_f (by decide), aPut_f (by decide), aPut_f (by decide), aPut_f (by decide)]; omega, by rw [aPut_f (by decide), aPut_f (by decide), aPut_e]; decide, by rw [aPut_f (by decide), aPut_f (by decide), aPut_e, aPut_f (by decide), aPut_f (by decide), aPut_f (by decide), aPut_f (by decide), aPut_f (by decide), aPut_f (by decide)]; exact ht.1, by rw [aPut_r (by decide), aPut_r (by decide), aPut_r (by decide), aPut_r (by decide), aPut_r (by decide), aPut_r (by decide)]; exact hw⟩) (fun rv h' hq => ?_))
      obtain ⟨M2, rfl, rfl, hR⟩ := hq
      have y2 : gTy M M2 := (gTy_put (f := 0) (by decide)).trans ((gTy_put (f := 44) (by decide)).trans ((gTy_put (f := 45) (by decide)).trans ((gTy_put (f := 25) (by decide)).trans ((gTy_put (f := 38) (by decide)).trans ((gTy_put (f := 39) (by decide)).trans (gTy_rd hR))))))
      have t38 : (M2 188 38).toInt = 0 := by rw [hR.2.1 38 (by decide) (by decide) (by decide) (by decide), aPut_f (by decide), aPut_e]; rfl
      have t39 : (M2 188 39).toInt = 0 := by rw [hR.2.1 39 (by decide) (by decide) (by decide) (by decide), aPut_e]; rfl
      have t41 : (M2 188 41).toInt = (M 188 41).toInt := by rw [hR.2.1 41 (by decide) (by decide) (by decide) (by decide), aPut_f (by decide), aPut_f (by decide), aPut_f (by decide), aPut_f (by decide), aPut_f (by decide), aPut_f (by decide)]
      have s2 : gTs M2 := (gRd_s hR ⟨by rw [aPut_f (by decide), aPut_f (by decide), aPut_f (by decide), aPut_f (by decide), aPut_f (by decide), aPut_f (by decide)]; omega, by rw [aPut_f (by decide), aPut_f (by decide), aPut_f (by decide), aPut_f (by decide), aPut_f (by decide), aPut_f (by decide)]; omega, by rw [aPut_f (by decide), aPut_f (by decide), aPut_e]; decide, by rw [aPut_f (by decide), aPut_f (by decide), aPut_e, aPut_f (by decide), aPut_f (by decide), aPut_f (by decide), aPut_f (by decide), aPut_f (by decide), aPut_f (by decide)]; exact ht.1, by rw [aPut_r (by decide), aPut_r (by decide), aPut_r (by decide), aPut_r (by decide), aPut_r (by decide), aPut_r (by decide)]; exact hw⟩).1
      have r2 : gTr M2 := gTr_of s2 (by omega)
      clear hR
      refine ⟨rfl, ?_⟩
      show zW X _ 81 4 [.iload 3, .ifCond .ne 6] [.ref 188, iv i1, iv i2, iv 1, aD] [] (gH k M2) _
      refine wP (ls' := [.ref 188, iv i1, iv i2, iv 1, aD]) (st' := [iv 1]) rfl rfl ?_
      refine wIf0 (n1 := 6) rfl bk_81_6 bk_81_5 (by omega) (fun g2 => ?_) (fun g2 => ?_)
      · replace g2 : ¬ (1 : Int) = 0 := g2
        refine wP (ls' := [.ref 188, iv i1, iv i2, iv 1, aD]) (st' := [iv i1]) rfl rfl ?_
        refine wIf0 (n1 := 8) rfl bk_81_8 bk_81_7 (by omega) (fun g3 => ?_) (fun g3 => ?_)
        · replace g3 : ¬ (i1 : Int) = 0 := g3
          refine wP (ls' := [.ref 188, iv i1, iv i2, iv 1, aD]) (st' := [.ref 188]) rfl rfl ?_
          refine wCall hk (q := 79) (na := 0) (a := 188) (as := []) (t := []) rfl (by decide +kernel) (by decide) (by decide +kernel) (Nat.le_of_ble_eq_true rfl) rfl rfl (zRn.mono (h79 hk s2) (fun rv h' hq => ?_))
          obtain ⟨e6, M3, rfl, rfl, w3, u5⟩ := hq
          have eb : -1 ≤ e6 ∧ e6 ≤ 24 := by
            rcases u5 with z | ⟨z, z2, z3, _⟩
            · omega
            · omega
          have y3 := y2.trans (gTy_fp w3.2)
          have r3 := gTr_of w3.1 (by rw [w3.2.2.2 38 (by decide) (by decide) (by decide) (by decide) (by decide) (by decide), w3.2.2.2 39 (by decide) (by decide) (by decide) (by decide) (by decide) (by decide), w3.2.2.2 41 (by decide) (by decide) (by decide) (by decide) (by decide) (by decide)]; omega)
          refine ⟨rfl, ?_⟩
          show zW X _ 81 8 [] [.ref 188, iv i1, iv i2, iv 1, aD] [iv e6] (gH k M3) _
          refine zW_fall bk_81_9 ?_
          refine wP (ls' := [.ref 188, iv i1, iv i2, iv 1, iv e6]) (st' := []) rfl rfl ?_
          refine wP (ls' := [.ref 188, iv i1, iv i2, iv 1, iv e6]) (st' := [.ref 188]) rfl rfl ?_
          refine wP (ls' := [.ref 188, iv i1, iv i2, iv 1, iv e6]) (st' := [iv 0, .ref 188]) rfl rfl ?_
          refine wPutN hk (f := 24) (by decide +kernel) (Or.inl rfl) ?_
          refine wP (ls' := [.ref 188, iv i1, iv i2, iv 1, iv e6]) (st' := [iv 1]) rfl rfl ?_
          refine wIf0 (n1 := 12) rfl bk_81_12 bk_81_10 (by omega) (fun g4 => ?_) (fun g4 => ?_)
          · replace g4 : (1 : Int) = 0 := g4
            exact absurd g4 (by omega)
          · replace g4 : ¬ ((1 : Int) = 0) := g4
            refine wP (ls' := [.ref 188, iv i1, iv i2, iv 1, iv e6]) (st' := [iv e6]) rfl rfl ?_
            refine wP (ls' := [.ref 188, iv i1, iv i2, iv 1, iv e6]) (st' := [iv (-1), iv e6]) rfl rfl ?_
            refine wIfc (n1 := 12) rfl bk_81_12 bk_81_11 (by omega) (by omega) (fun g5 => ?_) (fun g5 => ?_)
            · replace g5 : ¬ (e6 : Int) = (-1) := g5
              replace u5 := u5.resolve_left g5
              refine wP (ls' := [.ref 188, iv i1, iv i2, iv 1, iv e6]) (st' := [iv e6]) rfl rfl ?_
              refine wP (ls' := [.ref 188, iv i1, iv i2, iv 1, iv e6]) (st' := [iv (-1), iv e6]) rfl rfl ?_
              refine wIfc (n1 := 14) rfl bk_81_14 bk_81_13 (by omega) (by omega) (fun g6 => ?_) (fun g6 => ?_)
              · replace g6 : ¬ (e6 : Int) = (-1) := g6
                refine wP (ls' := [.ref 188, iv i1, iv i2, iv 1, iv e6]) (st' := [iv i1]) rfl rfl ?_
                refine wIf0 (n1 := 16) rfl bk_81_16 bk_81_15 (by omega) (fun g7 => ?_) (fun g7 => ?_)
                · replace g7 : ¬ (i1 : Int) = 0 := g7
                  refine wP (ls' := [.ref 188, iv i1, iv i2, iv 1, iv e6]) (st' := [.ref 188]) rfl rfl ?_
                  refine wP (ls' := [.ref 188, iv i1, iv i2, iv 1, iv e6]) (st' := [iv i2, .ref 188]) rfl rfl ?_
                  refine wP (ls' := [.ref 188, iv i1, iv i2, iv 1, iv e6]) (st' := [iv e6, iv i2, .ref 188]) rfl rfl ?_
                  refine wCall hk (q := 80) (na := 2) (a := 188) (as := [iv i2, iv e6]) (t := []) rfl (by decide +kernel) (by decide) (by decide +kernel) (Nat.le_of_ble_eq_true rfl) rfl rfl (zRn.mono (h80 hk (M := aPut M3 188 24 (Int32.ofInt 0)) (kk := (i2).toNat) (n := (e6).toNat) (by omega) (by omega) (by omega) (by omega) (gSs_24 (by obtain ⟨m, z1, z2, z3⟩ := u5; rw [show (e6).toNat = m by omega]; exact z3)) (gSteps_eq (y3.trans (gTy_put (f := 24) (by decide))).2.2.2.2.1 hSt)) (fun rv h' hq => ?_))
                  obtain ⟨M4, rfl, rfl, p1, p2, p3⟩ := hq
                  refine ⟨rfl, ?_⟩
                  show zW X _ 81 16 [] [.ref 188, iv i1, iv i2, iv 1, iv e6] [] (gH k M4) _
                  refine zW_fall bk_81_17 ?_
                  refine wP (ls' := [.ref 188, iv i1, iv i2, iv 1, iv e6]) (st' := [iv e6]) rfl rfl ?_
                  exact wIret (Or.inl (by decide +kernel)) ⟨_, _, rfl, rfl, by omega, by omega, gTx_plan (y3.trans (gTy_put (by decide))) (gTr_put r3 (by decide)) (by rw [aPut_e]; rfl) hRw p1 p2 p3⟩
                · replace g7 : ¬ (¬ (i1 : Int) = 0) := g7
                  exact absurd g7 (by omega)
              · replace g6 : ¬ (¬ (e6 : Int) = (-1)) := g6
                exact absurd g6 (by omega)
            · replace g5 : ¬ (¬ (e6 : Int) = (-1)) := g5
              clear u5
              refine wP (ls' := [.ref 188, iv i1, iv i2, iv 1, iv e6]) (st' := [.ref 188]) rfl rfl ?_
              refine wP (ls' := [.ref 188, iv i1, iv i2, iv 1, iv e6]) (st' := [.ref 188, .ref 188]) rfl rfl ?_
              refine wGetN hk (f := 42) (e := (M3 188 42).toInt) (by decide +kernel) (by rw [aPut_f (by decide)]; exact iE _) ?_
              refine wPutN hk (f := 44) (by decide +kernel) (Or.inl rfl) ?_
              refine wP (ls' := [.ref 188, iv i1, iv i2, iv 1, iv e6]) (st' := [.ref 188]) rfl rfl ?_
              refine wP (ls' := [.ref 188, iv i1, iv i2, iv 1, iv e6]) (st' := [.ref 188, .ref 188]) rfl rfl ?_
              refine wGetN hk (f := 43) (e := (M3 188 43).toInt) (by decide +kernel) (by rw [aPut_f (by decide), aPut_f (by decide)]; exact iE _) ?_
              refine wPutN hk (f := 45) (by decide +kernel) (Or.inl rfl) ?_
              refine zW_fall bk_81_12 ?_
              refine wP (ls' := [.ref 188, iv i1, iv i2, iv 1, iv e6]) (st' := [iv e6]) rfl rfl ?_
              refine wP (ls' := [.ref 188, iv i1, iv i2, iv 1, iv e6]) (st' := [iv (-1), iv e6]) rfl rfl ?_
              refine wIfc (n1 := 14) rfl bk_81_14 bk_81_13 (by omega) (by omega) (fun g6 => ?_) (fun g6 => ?_)
              · replace g6 : ¬ (e6 : Int) = (-1) := g6
                exact absurd g6 (by omega)
              · replace g6 : ¬ (¬ (e6 : Int) = (-1)) := g6
                refine wP (ls' := [.ref 188, iv i1, iv i2, iv 1, iv e6]) (st' := [iv (-1)]) rfl rfl ?_
                exact wIret (Or.inl (by decide +kernel)) ⟨-1, _, rfl, rfl, by omega, by omega, gTx_of (y3.trans ((gTy_put (f := 24) (by decide)).trans ((gTy_put (f := 44) (by decide)).trans (gTy_put (f := 45) (by decide))))) (gTr_put (gTr_put (gTr_put r3 (by decide)) (by decide)) (by decide)) (by rw [aPut_f (by decide), aPut_f (by decide), aPut_e]; rfl) hRw hSt⟩
        · replace g3 : ¬ (¬ (i1 : Int) = 0) := g3
          refine wP (ls' := [.ref 188, iv i1, iv i2, iv 1, aD]) (st' := [.ref 188]) rfl rfl ?_
          refine wCall hk (q := 77) (na := 0) (a := 188) (as := []) (t := []) rfl (by decide +kernel) (by decide) (by decide +kernel) (Nat.le_of_ble_eq_true rfl) rfl rfl (zRn.mono (h77 hk s2 t39 t38 (by omega)) (fun rv h' hq => ?_))
          obtain ⟨e8, M3, rfl, rfl, w3, u5⟩ := hq
          have eb : -1 ≤ e8 ∧ e8 ≤ 16 := by
            rcases u5 with z | ⟨z, z2, _⟩
            · omega
            · omega
          have y3 := y2.trans (gTy_lf w3.2.1)
          have r3 := gTr_of w3.1 w3.2.2
          have b38 := w3.2.2
          refine ⟨rfl, ?_⟩
          show zW X _ 81 7 [.goto 9] [.ref 188, iv i1, iv i2, iv 1, aD] [iv e8] (gH k M3) _
          refine wGoto (n1 := 9) rfl bk_81_9 ?_
          refine wP (ls' := [.ref 188, iv i1, iv i2, iv 1, iv e8]) (st' := []) rfl rfl ?_
          refine wP (ls' := [.ref 188, iv i1, iv i2, iv 1, iv e8]) (st' := [.ref 188]) rfl rfl ?_
          refine wP (ls' := [.ref 188, iv i1, iv i2, iv 1, iv e8]) (st' := [iv 0, .ref 188]) rfl rfl ?_
          refine wPutN hk (f := 24) (by decide +kernel) (Or.inl rfl) ?_
          refine wP (ls' := [.ref 188, iv i1, iv i2, iv 1, iv e8]) (st' := [iv 1]) rfl rfl ?_
          refine wIf0 (n1 := 12) rfl bk_81_12 bk_81_10 (by omega) (fun g4 => ?_) (fun g4 => ?_)
          · replace g4 : (1 : Int) = 0 := g4
            exact absurd g4 (by omega)
          · replace g4 : ¬ ((1 : Int) = 0) := g4
            refine wP (ls' := [.ref 188, iv i1, iv i2, iv 1, iv e8]) (st' := [iv e8]) rfl rfl ?_
            refine wP (ls' := [.ref 188, iv i1, iv i2, iv 1, iv e8]) (st' := [iv (-1), iv e8]) rfl rfl ?_
            refine wIfc (n1 := 12) rfl bk_81_12 bk_81_11 (by omega) (by omega) (fun g5 => ?_) (fun g5 => ?_)
            · replace g5 : ¬ (e8 : Int) = (-1) := g5
              replace u5 := u5.resolve_left g5
              refine wP (ls' := [.ref 188, iv i1, iv i2, iv 1, iv e8]) (st' := [iv e8]) rfl rfl ?_
              refine wP (ls' := [.ref 188, iv i1, iv i2, iv 1, iv e8]) (st' := [iv (-1), iv e8]) rfl rfl ?_
              refine wIfc (n1 := 14) rfl bk_81_14 bk_81_13 (by omega) (by omega) (fun g6 => ?_) (fun g6 => ?_)
              · replace g6 : ¬ (e8 : Int) = (-1) := g6
                refine wP (ls' := [.ref 188, iv i1, iv i2, iv 1, iv e8]) (st' := [iv i1]) rfl rfl ?_
                refine wIf0 (n1 := 16) rfl bk_81_16 bk_81_15 (by omega) (fun g7 => ?_) (fun g7 => ?_)
                · replace g7 : ¬ (i1 : Int) = 0 := g7
                  exact absurd g7 (by omega)
                · replace g7 : ¬ (¬ (i1 : Int) = 0) := g7
                  refine wP (ls' := [.ref 188, iv i1, iv i2, iv 1, iv e8]) (st' := [.ref 188]) rfl rfl ?_
                  refine wP (ls' := [.ref 188, iv i1, iv i2, iv 1, iv e8]) (st' := [iv i2, .ref 188]) rfl rfl ?_
                  refine wP (ls' := [.ref 188, iv i1, iv i2, iv 1, iv e8]) (st' := [iv e8, iv i2, .ref 188]) rfl rfl ?_
                  refine wCall hk (q := 78) (na := 2) (a := 188) (as := [iv i2, iv e8]) (t := []) rfl (by decide +kernel) (by decide) (by decide +kernel) (Nat.le_of_ble_eq_true rfl) rfl rfl (zRn.mono (h78 hk (M := aPut M3 188 24 (Int32.ofInt 0)) (kk := (i2).toNat) (n := (e8).toNat) (m := ((M3 188 38).toInt).toNat) (by omega) (by omega) (by omega) (by omega) (by rw [aPut_f (by decide)]; omega) (by omega) (gLs_24 (fun l hl => u5.2.2 l (by omega)) b38.1) (gTy_rows (y3.trans (gTy_put (by decide))) hRw)) (fun rv h' hq => ?_))
                  obtain ⟨M4, rfl, rfl, p1, p2, p3⟩ := hq
                  refine ⟨rfl, ?_⟩
                  show zW X _ 81 15 [.goto 17] [.ref 188, iv i1, iv i2, iv 1, iv e8] [] (gH k M4) _
                  refine wGoto (n1 := 17) rfl bk_81_17 ?_
                  refine wP (ls' := [.ref 188, iv i1, iv i2, iv 1, iv e8]) (st' := [iv e8]) rfl rfl ?_
                  exact wIret (Or.inl (by decide +kernel)) ⟨_, _, rfl, rfl, by omega, by omega, gTx_law (y3.trans (gTy_put (by decide))) (gTr_put r3 (by decide)) (by rw [aPut_e]; rfl) hSt p1 p2 p3⟩
              · replace g6 : ¬ (¬ (e8 : Int) = (-1)) := g6
                exact absurd g6 (by omega)
            · replace g5 : ¬ (¬ (e8 : Int) = (-1)) := g5
              clear u5
              refine wP (ls' := [.ref 188, iv i1, iv i2, iv 1, iv e8]) (st' := [.ref 188]) rfl rfl ?_
              refine wP (ls' := [.ref 188, iv i1, iv i2, iv 1, iv e8]) (st' := [.ref 188, .ref 188]) rfl rfl ?_
              refine wGetN hk (f := 42) (e := (M3 188 42).toInt) (by decide +kernel) (by rw [aPut_f (by decide)]; exact iE _) ?_
              refine wPutN hk (f := 44) (by decide +kernel) (Or.inl rfl) ?_
              refine wP (ls' := [.ref 188, iv i1, iv i2, iv 1, iv e8]) (st' := [.ref 188]) rfl rfl ?_
              refine wP (ls' := [.ref 188, iv i1, iv i2, iv 1, iv e8]) (st' := [.ref 188, .ref 188]) rfl rfl ?_
              refine wGetN hk (f := 43) (e := (M3 188 43).toInt) (by decide +kernel) (by rw [aPut_f (by decide), aPut_f (by decide)]; exact iE _) ?_
              refine wPutN hk (f := 45) (by decide +kernel) (Or.inl rfl) ?_
              refine zW_fall bk_81_12 ?_
              refine wP (ls' := [.ref 188, iv i1, iv i2, iv 1, iv e8]) (st' := [iv e8]) rfl rfl ?_
              refine wP (ls' := [.ref 188, iv i1, iv i2, iv 1, iv e8]) (st' := [iv (-1), iv e8]) rfl rfl ?_
              refine wIfc (n1 := 14) rfl bk_81_14 bk_81_13 (by omega) (by omega) (fun g6 => ?_) (fun g6 => ?_)
              · replace g6 : ¬ (e8 : Int) = (-1) := g6
                exact absurd g6 (by omega)
              · replace g6 : ¬ (¬ (e8 : Int) = (-1)) := g6
                refine wP (ls' := [.ref 188, iv i1, iv i2, iv 1, iv e8]) (st' := [iv (-1)]) rfl rfl ?_
                exact wIret (Or.inl (by decide +kernel)) ⟨-1, _, rfl, rfl, by omega, by omega, gTx_of (y3.trans ((gTy_put (f := 24) (by decide)).trans ((gTy_put (f := 44) (by decide)).trans (gTy_put (f := 45) (by decide))))) (gTr_put (gTr_put (gTr_put r3 (by decide)) (by decide)) (by decide)) (by rw [aPut_f (by decide), aPut_f (by decide), aPut_e]; rfl) hRw hSt⟩
      · replace g2 : ¬ (¬ (1 : Int) = 0) := g2
        exact absurd g2 (by omega)
/-! what reading a text says, as a contract -/
theorem gh_81_0_ok {X : aX} : zCk X (gP []) gG 81 gh_81_0 := by
  intro d ρ as h hd hb hargs hents hK hI hG
  obtain ⟨u0, q0, rfl, g0, hargs⟩ := zGl_cons hargs
  obtain ⟨u1, q1, rfl, g1, hargs⟩ := zGl_cons hargs
  obtain ⟨u2, q2, rfl, g2, hargs⟩ := zGl_cons hargs
  obtain rfl := zGl_nil hargs
  obtain rfl := gRefx g0 (Or.inl (by decide))
  obtain ⟨rfl, hx1⟩ := gIntx g1
  obtain ⟨rfl, hx2⟩ := gIntx g2
  obtain ⟨dd, rfl⟩ : ∃ dd, d = dd + 1 + 1 + 1 + 1 + 1 + 1 + 1 + 1 + 1 + 1 + 1 + 1 + 1 := ⟨d - 13, by have hd : 30 ≤ d := hd; omega⟩
  have b0 : -2147483648 ≤ ρ 0 ∧ ρ 0 ≤ 2147483647 := hb 0 _ rfl
  have b1 : -2147483648 ≤ ρ 1 ∧ ρ 1 ≤ 2147483647 := hb 1 _ rfl
  have b24 : (0 : Int) ≤ (h.2.2.2 188 24).toInt ∧ (h.2.2.2 188 24).toInt ≤ 500 := gBf hG hI (by decide) (by decide) (by decide +kernel) (by decide +kernel)
  have b41 : (0 : Int) ≤ (h.2.2.2 188 41).toInt ∧ (h.2.2.2 188 41).toInt ≤ 40 := gBf hG hI (by decide) (by decide) (by decide +kernel) (by decide +kernel)
  have base := h81 (X := X) (d := dd) (gKs_of hG.1) (M := h.2.2.2) b0 b1 b24 b41 hG.2.1 hG.2.2.1 hG.2.2.2.1
  rw [← gH_of hG.1] at base
  refine base.mono (fun rv h' hq => ?_)
  obtain ⟨e, M', rfl, rfl, l1, l2, m1, m2, m3, m4, m5, m6, m7, m8⟩ := hq
  have hR : gRm M' := ⟨fun j hj => by rw [m1 203 (by decide) (by decide)]; exact hG.2.1 j hj, m7, m8, by
    rw [m1 229 (by decide) (by decide)]; exact hG.2.2.2.2⟩
  obtain ⟨r1, r2, r3, r4, r5, r6, r7, r8, r9, r10, r11, r12⟩ := m4
  obtain ⟨d1, d2, d3⟩ := gDone (md := gh_81_0.2.2.2.2.2.2) hG hI hR (fun a i => by
    have ar : ∀ b, a = b → b < 230 → (gK b).1 = 100 → zBit gh_81_0.2.2.2.2.2.2 (b * 128 + 127) = true → gF (b * 128 + 127) = (-2147483648, 2147483647) → ∃ p, (((h.2.2.1 a).1 < 100 ∧ p = a * 128 + i) ∨ (100 ≤ (h.2.2.1 a).1 ∧ p = a * 128 + 127)) ∧ zBit gh_81_0.2.2.2.2.2.2 p = true ∧ (gF p).1 ≤ (M' a i).toInt ∧ (M' a i).toInt ≤ (gF p).2 := fun b e b1 b2 b3 b4 => by
      subst e
      exact ⟨a * 128 + 127, Or.inr ⟨gAr hG b1 (Or.inl b2), rfl⟩, b3, by rw [b4]; exact iG _⟩
    by_cases q : a = 188
    · subst q
      have fl : ∀ (b : Nat) (lo hi : Int), i = b → zBit gh_81_0.2.2.2.2.2.2 (188 * 128 + b) = true → gF (188 * 128 + b) = (lo, hi) → lo ≤ (M' 188 b).toInt ∧ (M' 188 b).toInt ≤ hi → ∃ p, (((h.2.2.1 188).1 < 100 ∧ p = 188 * 128 + i) ∨ (100 ≤ (h.2.2.1 188).1 ∧ p = 188 * 128 + 127)) ∧ zBit gh_81_0.2.2.2.2.2.2 p = true ∧ (gF p).1 ≤ (M' 188 i).toInt ∧ (M' 188 i).toInt ≤ (gF p).2 := fun b lo hi e b3 b4 b5 => by
        subst e
        exact ⟨188 * 128 + i, Or.inl ⟨gFl hG (by decide) (by decide +kernel), rfl⟩, b3, by rw [b4]; exact b5⟩
      by_cases q0 : i = 0
      · exact Or.inr (fl 0 _ _ q0 (by decide +kernel) (show gF (188 * 128 + 0) = (-2147483648, 2147483647) by decide +kernel) (iG _))
      by_cases q1 : i = 24
      · exact Or.inr (fl 24 _ _ q1 (by decide +kernel) (show gF (188 * 128 + 24) = (0, 500) by decide +kernel) (by omega))
      by_cases q2 : i = 25
      · exact Or.inr (fl 25 _ _ q2 (by decide +kernel) (show gF (188 * 128 + 25) = (0, 500) by decide +kernel) (by omega))
      by_cases q3 : i = 26
      · exact Or.inr (fl 26 _ _ q3 (by decide +kernel) (show gF (188 * 128 + 26) = (0, 500) by decide +kernel) (by omega))
      by_cases q4 : i = 27
      · exact Or.inr (fl 27 _ _ q4 (by decide +kernel) (show gF (188 * 128 + 27) = (0, 4) by decide +kernel) (by omega))
      by_cases q5 : i = 28
      · exact Or.inr (fl 28 _ _ q5 (by decide +kernel) (show gF (188 * 128 + 28) = (-2147483648, 2147483647) by decide +kernel) (iG _))
      by_cases q6 : i = 38
      · exact Or.inr (fl 38 _ _ q6 (by decide +kernel) (show gF (188 * 128 + 38) = (0, 500) by decide +kernel) (by omega))
      by_cases q7 : i = 39
      · exact Or.inr (fl 39 _ _ q7 (by decide +kernel) (show gF (188 * 128 + 39) = (0, 8) by decide +kernel) (by omega))
      by_cases q8 : i = 41
      · exact Or.inr (fl 41 _ _ q8 (by decide +kernel) (show gF (188 * 128 + 41) = (0, 40) by decide +kernel) (by omega))
      by_cases q9 : i = 42
      · exact Or.inr (fl 42 _ _ q9 (by decide +kernel) (show gF (188 * 128 + 42) = (-2147483648, 2147483647) by decide +kernel) (iG _))
      by_cases qa : i = 43
      · exact Or.inr (fl 43 _ _ qa (by decide +kernel) (show gF (188 * 128 + 43) = (-2147483648, 2147483647) by decide +kernel) (iG _))
      by_cases qb : i = 44
      · exact Or.inr (fl 44 _ _ qb (by decide +kernel) (show gF (188 * 128 + 44) = (-2147483648, 2147483647) by decide +kernel) (iG _))
      by_cases qc : i = 45
      · exact Or.inr (fl 45 _ _ qc (by decide +kernel) (show gF (188 * 128 + 45) = (-2147483648, 2147483647) by decide +kernel) (iG _))
      exact Or.inl (m2 i q0 q1 q2 q3 q4 q5 q6 q7 q8 q9 qa qb qc)
    · by_cases q2 : a < 204 ∨ 215 < a
      · exact Or.inl (by rw [m1 a q q2])
      · by_cases p1 : a = 204
        · subst p1
          rcases m5 i with z | z
          · exact Or.inl z
          · exact Or.inr ⟨204 * 128 + 127, Or.inr ⟨gAr hG (by decide) (Or.inl (by decide +kernel)), rfl⟩, by decide +kernel, by rw [show gF (204 * 128 + 127) = (0, 16) from by decide +kernel]; exact z⟩
        by_cases p2 : a = 213
        · subst p2
          rcases m6 i with z | z
          · exact Or.inl z
          · exact Or.inr ⟨213 * 128 + 127, Or.inr ⟨gAr hG (by decide) (Or.inl (by decide +kernel)), rfl⟩, by decide +kernel, by rw [show gF (213 * 128 + 127) = (0, 24) from by decide +kernel]; exact z⟩
        have p3 : a = 205 ∨ a = 206 ∨ a = 207 ∨ a = 208 ∨ a = 209 ∨ a = 210 ∨ a = 211 ∨ a = 212 ∨ a = 214 ∨ a = 215 := by omega
        rcases p3 with p | p | p | p | p | p | p | p | p | p
        · exact Or.inr (ar 205 p (by decide) (by decide +kernel) (by decide +kernel) (by decide +kernel))
        · exact Or.inr (ar 206 p (by decide) (by decide +kernel) (by decide +kernel) (by decide +kernel))
        · exact Or.inr (ar 207 p (by decide) (by decide +kernel) (by decide +kernel) (by decide +kernel))
        · exact Or.inr (ar 208 p (by decide) (by decide +kernel) (by decide +kernel) (by decide +kernel))
        · exact Or.inr (ar 209 p (by decide) (by decide +kernel) (by decide +kernel) (by decide +kernel))
        · exact Or.inr (ar 210 p (by decide) (by decide +kernel) (by decide +kernel) (by decide +kernel))
        · exact Or.inr (ar 211 p (by decide) (by decide +kernel) (by decide +kernel) (by decide +kernel))
        · exact Or.inr (ar 212 p (by decide) (by decide +kernel) (by decide +kernel) (by decide +kernel))
        · exact Or.inr (ar 214 p (by decide) (by decide +kernel) (by decide +kernel) (by decide +kernel))
        · exact Or.inr (ar 215 p (by decide) (by decide +kernel) (by decide +kernel) (by decide +kernel)))
  have e1 : h.1 = 230 := hG.1.1
  have e2 : h.2.1 = 108808 := hG.1.2.1
  rw [e1, e2] at d1 d2
  refine ⟨⟨_, List.mem_singleton.mpr rfl, ρ, fun _ _ => rfl, fun i b h => (by cases h), fun e he => (by cases he), ⟨zGi (znR (w := 0) (by rw [iR (by omega) (by omega)]; exact l1) (by rw [iR (by omega) (by omega)]; exact l2)), trivial⟩, fun e he => ?_⟩, d1, d2, e1.symm, e2.symm, rfl, d3⟩
  have he' : e = (188 * 128 + 24, 0, 1, (0, .ofNat 0, .ofNat 0, 0)) := List.mem_singleton.mp he
  subst he'
  exact (gFd d2 (by decide)).mpr (znC (by show (M' 188 24).toInt = _; rw [m3]; rfl))
