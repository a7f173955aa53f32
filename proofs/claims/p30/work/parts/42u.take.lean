/-! what is taken over from the draft -/
/-- i numbers of array a from s on stand from t on -/
def gCp (M M' : Nat → Nat → Int32) (a t s i : Nat) : Prop := (∀ l, l < i → M' a (t + l) = M a (s + l)) ∧ ∀ l, (l < t ∨ t + i ≤ l) → M' a l = M a l
theorem gCp_0 {M : Nat → Nat → Int32} {a t s : Nat} : gCp M M a t s 0 := ⟨fun l hl => absurd hl (by omega), fun _ _ => rfl⟩
theorem gCp_up {M M1 M2 : Nat → Nat → Int32} {a t s i : Nat} (h : gCp M M1 a t s i) (hs : t + i ≤ s) (h1 : M2 a (t + i) = M1 a (s + i)) (h2 : ∀ l, l ≠ t + i → M2 a l = M1 a l) : gCp M M2 a t s (i + 1) := by
  refine ⟨fun l hl => ?_, fun l hl => ?_⟩
  · by_cases q : l = i
    · rw [q, h1, h.2 (s + i) (by omega)]
    · rw [h2 (t + l) (by omega)]; exact h.1 l (by omega)
  · rw [h2 l (by omega)]; exact h.2 l (by omega)
theorem gCp_eq {M M1 M2 : Nat → Nat → Int32} {a t s i : Nat} (h : gCp M M1 a t s i) (h1 : M2 a = M1 a) : gCp M M2 a t s i := ⟨fun l hl => by rw [h1]; exact h.1 l hl, fun l hl => by rw [h1]; exact h.2 l hl⟩
theorem gDep_sh {O A O' A' : Nat → Int32} {s s' : Nat} : ∀ n, (∀ i, i < n → O' (s' + i) = O (s + i) ∧ A' (s' + i) = A (s + i)) → gDep O' A' s' n = gDep O A s n := by
  intro n
  induction n with
  | zero => intro _; rfl
  | succ n ih =>
    intro h
    unfold gDep
    rw [ih (fun i hi => h i (by omega))]
    obtain ⟨e1, e2⟩ := h n (by omega)
    cases gDep O A s n with
    | none => rfl
    | some d =>
      dsimp only
      by_cases q : 1 ≤ n
      · obtain ⟨e3, e4⟩ := h (n - 1) (by omega)
        rw [show s' + n - 1 = s' + (n - 1) by omega, show s + n - 1 = s + (n - 1) by omega, e1, e2, e3, e4]
      · have q0 : n = 0 := by omega
        subst q0
        rw [e1, e2]
        simp
theorem gCode_sh {O A O' A' : Nat → Int32} {t s m f e : Nat} (h : ∀ i, i < m → O' (t + i) = O (s + i) ∧ A' (t + i) = A (s + i)) (he : e ≤ m) (k : gCode O A (s + f) (s + e)) : gCode O' A' (t + f) (t + e) := by
  unfold gCode at k ⊢
  rw [show t + e - (t + f) = s + e - (s + f) by omega, gDep_sh (s := s + f) (s + e - (s + f)) (fun i hi => by
    have := h (f + i) (by omega)
    rwa [← Nat.add_assoc, ← Nat.add_assoc] at this)]
  exact k
theorem gRows_tk {M M' : Nat → Nat → Int32} {kk n m : Nat} (hk : kk < 4) (hn : n ≤ 16) (hm : (M 188 38).toInt = m) (hm5 : m ≤ 500) (hL : gLs n M) (hR : gRows (M 204) (M 206) (M 207) (M 208) (M 210) (M 211))
    (h4 : (M' 204 kk).toInt = n ∧ ∀ i, i ≠ kk → M' 204 i = M 204 i) (h6 : gCp M M' 206 (16 * kk) 64 n) (h7 : gCp M M' 207 (16 * kk) 64 n) (h8 : gCp M M' 208 (16 * kk) 64 n) (h10 : gCp M M' 210 (500 * kk) 2000 m) (h11 : gCp M M' 211 (500 * kk) 2000 m) :
    gRows (M' 204) (M' 206) (M' 207) (M' 208) (M' 210) (M' 211) := by
  intro r l hr hl
  by_cases q : r = kk
  · subst q
    rw [h4.1] at hl
    have hl' : l < n := by omega
    obtain ⟨a1, a2, a3, a4, a5, a6⟩ := hL l hl'
    rw [h6.1 l hl', h7.1 l hl', h8.1 l hl']
    refine ⟨by omega, a1, a2, a3, by omega, gCode_sh (m := m) (fun i hi => ⟨h10.1 i hi, h11.1 i hi⟩) (by omega) a5, fun z => gCode_sh (m := m) (fun i hi => ⟨h10.1 i hi, h11.1 i hi⟩) (by omega) (a6 z)⟩
  · rw [h4.2 r q] at hl
    obtain ⟨b0, b1, b2, b3, b4, b5, b6⟩ := hR r l hr hl
    have o : 16 * r + l < 16 * kk ∨ 16 * kk + n ≤ 16 * r + l := by omega
    rw [h6.2 _ o, h7.2 _ o, h8.2 _ o]
    refine ⟨b0, b1, b2, b3, b4, gCode_eq (fun i h1 h2 => ⟨h10.2 i (by omega), h11.2 i (by omega)⟩) b5, fun z => gCode_eq (fun i h1 h2 => ⟨h10.2 i (by omega), h11.2 i (by omega)⟩) (b6 z)⟩
/-- the lines of a plan in the draft -/
def gSs (n : Nat) (M : Nat → Nat → Int32) : Prop := ∀ i, i < n → M 214 (96 + i) = 10 → 0 ≤ (M 215 (96 + i)).toInt ∧ (M 215 (96 + i)).toInt ≤ 1
theorem gSteps_tk {M M' : Nat → Nat → Int32} {kk n : Nat} (hk : kk < 4) (hn : n ≤ 24) (hS : gSs n M) (hR : gSteps (M 214) (M 215)) (h4 : gCp M M' 214 (24 * kk) 96 n) (h5 : gCp M M' 215 (24 * kk) 96 n) : gSteps (M' 214) (M' 215) := by
  intro i hi hw
  by_cases q : 24 * kk ≤ i ∧ i < 24 * kk + n
  · obtain ⟨l, rfl⟩ : ∃ l, i = 24 * kk + l := ⟨i - 24 * kk, by omega⟩
    rw [h4.1 l (by omega)] at hw
    rw [h5.1 l (by omega)]
    exact hS l (by omega) hw
  · rw [h4.2 i (by omega)] at hw
    rw [h5.2 i (by omega)]
    exact hR i hi hw
theorem bk_78_0 : (aMC 78)[0]? = some [.bipush 0, .istore 3] := by decide +kernel
theorem bk_78_1 : (aMC 78)[1]? = some [.iload 3, .iload 2, .if_icmp .ge 3] := by decide +kernel
theorem bk_78_2 : (aMC 78)[2]? = some [.aload 0, .getfield 127312126, .bipush 16, .iload 1, .imul, .iload 3, .iadd, .aload 0, .getfield 127312126, .bipush 64, .iload 3, .iadd, .iaload, .iastore, .aload 0, .getfield 127412130, .bipush 16, .iload 1, .imul, .iload 3, .iadd, .aload 0, .getfield 127412130, .bipush 64, .iload 3, .iadd, .iaload, .iastore, .aload 0, .getfield 127512134, .bipush 16, .iload 1, .imul, .iload 3, .iadd, .aload 0, .getfield 127512134, .bipush 64, .iload 3, .iadd, .iaload, .iastore, .aload 0, .getfield 127612138, .bipush 16, .iload 1, .imul, .iload 3, .iadd, .aload 0, .getfield 127612138, .bipush 64, .iload 3, .iadd, .iaload, .iastore, .iinc 3 1, .goto 1] := by decide +kernel
theorem bk_78_3 : (aMC 78)[3]? = some [.bipush 0, .istore 3] := by decide +kernel
theorem bk_78_4 : (aMC 78)[4]? = some [.iload 3, .aload 0, .getfield 128012152, .if_icmp .ge 6] := by decide +kernel
theorem bk_78_5 : (aMC 78)[5]? = some [.aload 0, .getfield 127812146, .bipush 500, .iload 1, .imul, .iload 3, .iadd, .aload 0, .getfield 127812146, .bipush 2000, .iload 3, .iadd, .iaload, .iastore, .aload 0, .getfield 127912150, .bipush 500, .iload 1, .imul, .iload 3, .iadd, .aload 0, .getfield 127912150, .bipush 2000, .iload 3, .iadd, .iaload, .iastore, .iinc 3 1, .goto 4] := by decide +kernel
theorem bk_78_6 : (aMC 78)[6]? = some [.aload 0, .getfield 127212122, .iload 1, .iload 2, .iastore, .aload 0, .getfield 127712142, .iload 1, .aload 0, .getfield 128012152, .iastore, .return_] := by decide +kernel
theorem bk_80_0 : (aMC 80)[0]? = some [.bipush 0, .istore 3] := by decide +kernel
theorem bk_80_1 : (aMC 80)[1]? = some [.iload 3, .iload 2, .if_icmp .ge 3] := by decide +kernel
theorem bk_80_2 : (aMC 80)[2]? = some [.aload 0, .getfield 128912190, .bipush 24, .iload 1, .imul, .iload 3, .iadd, .aload 0, .getfield 128912190, .bipush 96, .iload 3, .iadd, .iaload, .iastore, .aload 0, .getfield 129012194, .bipush 24, .iload 1, .imul, .iload 3, .iadd, .aload 0, .getfield 129012194, .bipush 96, .iload 3, .iadd, .iaload, .iastore, .iinc 3 1, .goto 1] := by decide +kernel
theorem bk_80_3 : (aMC 80)[3]? = some [.aload 0, .getfield 128812186, .iload 1, .iload 2, .iastore, .return_] := by decide +kernel
theorem h78_m {X : aX} {d : Nat} {k : Nat → aK} (hk : gKs k) {M : Nat → Nat → Int32} {kk n m : Nat} {i1 i2 : Int} (h1 : i1 = kk) (h2 : i2 = n) (hk4 : kk < 4) (hn : n ≤ 16) (hm : (M 188 38).toInt = m) (hm5 : m ≤ 500) (hL : gLs n M) (hR : gRows (M 204) (M 206) (M 207) (M 208) (M 210) (M 211)) :
    ∀ (nn i : Nat) (i3 : Int) (M1 : Nat → Nat → Int32) (hi : i3 = i) (him : i ≤ m) (hd : m - i ≤ nn) (hI : (∀ a, a < 205 ∨ 211 < a ∨ a = 209 → M1 a = M a) ∧ gCp M M1 206 (16 * kk) 64 n ∧ gCp M M1 207 (16 * kk) 64 n ∧ gCp M M1 208 (16 * kk) 64 n ∧ gCp M M1 210 (500 * kk) 2000 i ∧ gCp M M1 211 (500 * kk) 2000 i), zW X d 78 4 [.iload 3, .aload 0, .getfield 128012152, .if_icmp .ge 6] [.ref 188, iv i1, iv i2, iv i3] [] (gH k M1) (fun rv h' => ∃ M', rv = none ∧ h' = gH k M' ∧ (∀ a, a < 204 ∨ 211 < a → M' a = M a) ∧ (∀ i, M' 204 i = M 204 i ∨ 0 ≤ (M' 204 i).toInt ∧ (M' 204 i).toInt ≤ 16) ∧ gRows (M' 204) (M' 206) (M' 207) (M' 208) (M' 210) (M' 211)) := by
  intro nn
  induction nn with
  | zero =>
    intro i i3 M1 hi him hd hI
    obtain ⟨hA, h6, h7, h8, h10, h11⟩ := hI
    have hM : (M1 188 38).toInt = m := by rw [hA 188 (by decide)]; exact hm
    refine wP (ls' := [.ref 188, iv i1, iv i2, iv i3]) (st' := [iv i3]) rfl rfl ?_
    refine wP (ls' := [.ref 188, iv i1, iv i2, iv i3]) (st' := [.ref 188, iv i3]) rfl rfl ?_
    refine wGetN hk (f := 38) (e := (M1 188 38).toInt) (by decide +kernel) (iE _) ?_
    refine wIfc (n1 := 6) rfl bk_78_6 bk_78_5 (by omega) (by first | exact iG _ | omega) (fun g0 => ?_) (fun g0 => ?_)
    · replace g0 : ((M1 188 38).toInt : Int) ≤ i3 := g0
      refine wP (ls' := [.ref 188, iv i1, iv i2, iv i3]) (st' := [.ref 188]) rfl rfl ?_
      refine wGetR hk (r := 204) (by decide +kernel) ?_
      refine wP (ls' := [.ref 188, iv i1, iv i2, iv i3]) (st' := [iv i1, .ref 204]) rfl rfl ?_
      refine wP (ls' := [.ref 188, iv i1, iv i2, iv i3]) (st' := [iv i2, iv i1, .ref 204]) rfl rfl ?_
      refine wIst hk (l := 5) (by decide +kernel) (by omega) (by omega) ?_
      refine wP (ls' := [.ref 188, iv i1, iv i2, iv i3]) (st' := [.ref 188]) rfl rfl ?_
      refine wGetR hk (r := 209) (by decide +kernel) ?_
      refine wP (ls' := [.ref 188, iv i1, iv i2, iv i3]) (st' := [iv i1, .ref 209]) rfl rfl ?_
      refine wP (ls' := [.ref 188, iv i1, iv i2, iv i3]) (st' := [.ref 188, iv i1, .ref 209]) rfl rfl ?_
      refine wGetN hk (f := 38) (e := (M1 188 38).toInt) (by decide +kernel) (by rw [aPut_o (by decide)]; exact iE _) ?_
      refine wIst hk (l := 5) (by decide +kernel) (by omega) (by omega) ?_
      exact wRet0 (by decide +kernel) ⟨_, rfl, rfl, fun a ha => by rw [aPut_r (by omega), aPut_r (by omega)]; exact hA a (by omega), fun i => by
        rw [aPut_o (by decide)]
        by_cases q : i = (i1).toNat
        · right; rw [q, aPut_e, iR (by omega) (by omega)]; omega
        · left; rw [aPut_f q, hA 204 (by decide)], gRows_tk hk4 hn hm hm5 hL hR ⟨by rw [aPut_o (by decide), show kk = (i1).toNat by omega, aPut_e, iR (by omega) (by omega)]; omega, fun i hi => by rw [aPut_o (by decide), aPut_f (by omega), hA 204 (by decide)]⟩ (gCp_eq h6 (by rw [aPut_r (by decide), aPut_r (by decide)])) (gCp_eq h7 (by rw [aPut_r (by decide), aPut_r (by decide)])) (gCp_eq h8 (by rw [aPut_r (by decide), aPut_r (by decide)])) (by rw [show m = i by omega]; exact gCp_eq h10 (by rw [aPut_r (by decide), aPut_r (by decide)])) (by rw [show m = i by omega]; exact gCp_eq h11 (by rw [aPut_r (by decide), aPut_r (by decide)]))⟩
    · replace g0 : ¬ (((M1 188 38).toInt : Int) ≤ i3) := g0
      refine wP (ls' := [.ref 188, iv i1, iv i2, iv i3]) (st' := [.ref 188]) rfl rfl ?_
      refine wGetR hk (r := 210) (by decide +kernel) ?_
      refine wP (ls' := [.ref 188, iv i1, iv i2, iv i3]) (st' := [iv 500, .ref 210]) rfl rfl ?_
      refine wP (ls' := [.ref 188, iv i1, iv i2, iv i3]) (st' := [iv i1, iv 500, .ref 210]) rfl rfl ?_
      refine wMul ?_
      refine wP (ls' := [.ref 188, iv i1, iv i2, iv i3]) (st' := [iv i3, iv (500 * i1), .ref 210]) rfl rfl ?_
      refine wAdd ?_
      refine wP (ls' := [.ref 188, iv i1, iv i2, iv i3]) (st' := [.ref 188, iv ((500 * i1) + i3), .ref 210]) rfl rfl ?_
      refine wGetR hk (r := 210) (by decide +kernel) ?_
      refine wP (ls' := [.ref 188, iv i1, iv i2, iv i3]) (st' := [iv 2000, .ref 210, iv ((500 * i1) + i3), .ref 210]) rfl rfl ?_
      refine wP (ls' := [.ref 188, iv i1, iv i2, iv i3]) (st' := [iv i3, iv 2000, .ref 210, iv ((500 * i1) + i3), .ref 210]) rfl rfl ?_
      refine wAdd ?_
      refine wIld hk (l := 2500) (e := (M1 210 ((2000 + i3)).toNat).toInt) (by decide +kernel) (by omega) (by omega) (iE _) ?_
      refine wIst hk (l := 2500) (by decide +kernel) (by omega) (by omega) ?_
      refine wP (ls' := [.ref 188, iv i1, iv i2, iv i3]) (st' := [.ref 188]) rfl rfl ?_
      refine wGetR hk (r := 211) (by decide +kernel) ?_
      refine wP (ls' := [.ref 188, iv i1, iv i2, iv i3]) (st' := [iv 500, .ref 211]) rfl rfl ?_
      refine wP (ls' := [.ref 188, iv i1, iv i2, iv i3]) (st' := [iv i1, iv 500, .ref 211]) rfl rfl ?_
      refine wMul ?_
      refine wP (ls' := [.ref 188, iv i1, iv i2, iv i3]) (st' := [iv i3, iv (500 * i1), .ref 211]) rfl rfl ?_
      refine wAdd ?_
      refine wP (ls' := [.ref 188, iv i1, iv i2, iv i3]) (st' := [.ref 188, iv ((500 * i1) + i3), .ref 211]) rfl rfl ?_
      refine wGetR hk (r := 211) (by decide +kernel) ?_
      refine wP (ls' := [.ref 188, iv i1, iv i2, iv i3]) (st' := [iv 2000, .ref 211, iv ((500 * i1) + i3), .ref 211]) rfl rfl ?_
      refine wP (ls' := [.ref 188, iv i1, iv i2, iv i3]) (st' := [iv i3, iv 2000, .ref 211, iv ((500 * i1) + i3), .ref 211]) rfl rfl ?_
      refine wAdd ?_
      refine wIld hk (l := 2500) (e := (M1 211 ((2000 + i3)).toNat).toInt) (by decide +kernel) (by omega) (by omega) (by rw [aPut_o (by decide)]; exact iE _) ?_
      refine wIst hk (l := 2500) (by decide +kernel) (by omega) (by omega) ?_
      refine wInc (ls' := [.ref 188, iv i1, iv i2, iv (i3 + 1)]) rfl rfl ?_
      refine wGoto (n1 := 4) rfl bk_78_4 ?_
      exfalso
      omega
  | succ nn ih =>
    intro i i3 M1 hi him hd hI
    obtain ⟨hA, h6, h7, h8, h10, h11⟩ := hI
    have hM : (M1 188 38).toInt = m := by rw [hA 188 (by decide)]; exact hm
    refine wP (ls' := [.ref 188, iv i1, iv i2, iv i3]) (st' := [iv i3]) rfl rfl ?_
    refine wP (ls' := [.ref 188, iv i1, iv i2, iv i3]) (st' := [.ref 188, iv i3]) rfl rfl ?_
    refine wGetN hk (f := 38) (e := (M1 188 38).toInt) (by decide +kernel) (iE _) ?_
    refine wIfc (n1 := 6) rfl bk_78_6 bk_78_5 (by omega) (by first | exact iG _ | omega) (fun g0 => ?_) (fun g0 => ?_)
    · replace g0 : ((M1 188 38).toInt : Int) ≤ i3 := g0
      refine wP (ls' := [.ref 188, iv i1, iv i2, iv i3]) (st' := [.ref 188]) rfl rfl ?_
      refine wGetR hk (r := 204) (by decide +kernel) ?_
      refine wP (ls' := [.ref 188, iv i1, iv i2, iv i3]) (st' := [iv i1, .ref 204]) rfl rfl ?_
      refine wP (ls' := [.ref 188, iv i1, iv i2, iv i3]) (st' := [iv i2, iv i1, .ref 204]) rfl rfl ?_
      refine wIst hk (l := 5) (by decide +kernel) (by omega) (by omega) ?_
      refine wP (ls' := [.ref 188, iv i1, iv i2, iv i3]) (st' := [.ref 188]) rfl rfl ?_
      refine wGetR hk (r := 209) (by decide +kernel) ?_
      refine wP (ls' := [.ref 188, iv i1, iv i2, iv i3]) (st' := [iv i1, .ref 209]) rfl rfl ?_
      refine wP (ls' := [.ref 188, iv i1, iv i2, iv i3]) (st' := [.ref 188, iv i1, .ref 209]) rfl rfl ?_
      refine wGetN hk (f := 38) (e := (M1 188 38).toInt) (by decide +kernel) (by rw [aPut_o (by decide)]; exact iE _) ?_
      refine wIst hk (l := 5) (by decide +kernel) (by omega) (by omega) ?_
      exact wRet0 (by decide +kernel) ⟨_, rfl, rfl, fun a ha => by rw [aPut_r (by omega), aPut_r (by omega)]; exact hA a (by omega), fun i => by
        rw [aPut_o (by decide)]
        by_cases q : i = (i1).toNat
        · right; rw [q, aPut_e, iR (by omega) (by omega)]; omega
        · left; rw [aPut_f q, hA 204 (by decide)], gRows_tk hk4 hn hm hm5 hL hR ⟨by rw [aPut_o (by decide), show kk = (i1).toNat by omega, aPut_e, iR (by omega) (by omega)]; omega, fun i hi => by rw [aPut_o (by decide), aPut_f (by omega), hA 204 (by decide)]⟩ (gCp_eq h6 (by rw [aPut_r (by decide), aPut_r (by decide)])) (gCp_eq h7 (by rw [aPut_r (by decide), aPut_r (by decide)])) (gCp_eq h8 (by rw [aPut_r (by decide), aPut_r (by decide)])) (by rw [show m = i by omega]; exact gCp_eq h10 (by rw [aPut_r (by decide), aPut_r (by decide)])) (by rw [show m = i by omega]; exact gCp_eq h11 (by rw [aPut_r (by decide), aPut_r (by decide)]))⟩
    · replace g0 : ¬ (((M1 188 38).toInt : Int) ≤ i3) := g0
      refine wP (ls' := [.ref 188, iv i1, iv i2, iv i3]) (st' := [.ref 188]) rfl rfl ?_
      refine wGetR hk (r := 210) (by decide +kernel) ?_
      refine wP (ls' := [.ref 188, iv i1, iv i2, iv i3]) (st' := [iv 500, .ref 210]) rfl rfl ?_
      refine wP (ls' := [.ref 188, iv i1, iv i2, iv i3]) (st' := [iv i1, iv 500, .ref 210]) rfl rfl ?_
      refine wMul ?_
      refine wP (ls' := [.ref 188, iv i1, iv i2, iv i3]) (st' := [iv i3, iv (500 * i1), .ref 210]) rfl rfl ?_
      refine wAdd ?_
      refine wP (ls' := [.ref 188, iv i1, iv i2, iv i3]) (st' := [.ref 188, iv ((500 * i1) + i3), .ref 210]) rfl rfl ?_
      refine wGetR hk (r := 210) (by decide +kernel) ?_
      refine wP (ls' := [.ref 188, iv i1, iv i2, iv i3]) (st' := [iv 2000, .ref 210, iv ((500 * i1) + i3), .ref 210]) rfl rfl ?_
      refine wP (ls' := [.ref 188, iv i1, iv i2, iv i3]) (st' := [iv i3, iv 2000, .ref 210, iv ((500 * i1) + i3), .ref 210]) rfl rfl ?_
      refine wAdd ?_
      refine wIld hk (l := 2500) (e := (M1 210 ((2000 + i3)).toNat).toInt) (by decide +kernel) (by omega) (by omega) (iE _) ?_
      refine wIst hk (l := 2500) (by decide +kernel) (by omega) (by omega) ?_
      refine wP (ls' := [.ref 188, iv i1, iv i2, iv i3]) (st' := [.ref 188]) rfl rfl ?_
      refine wGetR hk (r := 211) (by decide +kernel) ?_
      refine wP (ls' := [.ref 188, iv i1, iv i2, iv i3]) (st' := [iv 500, .ref 211]) rfl rfl ?_
      refine wP (ls' := [.ref 188, iv i1, iv i2, iv i3]) (st' := [iv i1, iv 500, .ref 211]) rfl rfl ?_
      refine wMul ?_
      refine wP (ls' := [.ref 188, iv i1, iv i2, iv i3]) (st' := [iv i3, iv (500 * i1), .ref 211]) rfl rfl ?_
      refine wAdd ?_
      refine wP (ls' := [.ref 188, iv i1, iv i2, iv i3]) (st' := [.ref 188, iv ((500 * i1) + i3), .ref 211]) rfl rfl ?_
      refine wGetR hk (r := 211) (by decide +kernel) ?_
      refine wP (ls' := [.ref 188, iv i1, iv i2, iv i3]) (st' := [iv 2000, .ref 211, iv ((500 * i1) + i3), .ref 211]) rfl rfl ?_
      refine wP (ls' := [.ref 188, iv i1, iv i2, iv i3]) (st' := [iv i3, iv 2000, .ref 211, iv ((500 * i1) + i3), .ref 211]) rfl rfl ?_
      refine wAdd ?_
      refine wIld hk (l := 2500) (e := (M1 211 ((2000 + i3)).toNat).toInt) (by decide +kernel) (by omega) (by omega) (by rw [aPut_o (by decide)]; exact iE _) ?_
      refine wIst hk (l := 2500) (by decide +kernel) (by omega) (by omega) ?_
      refine wInc (ls' := [.ref 188, iv i1, iv i2, iv (i3 + 1)]) rfl rfl ?_
      refine wGoto (n1 := 4) rfl bk_78_4 ?_
      have e1 : (((500 * i1) + i3)).toNat = 500 * kk + i := by omega
      have e2 : ((2000 + i3)).toNat = 2000 + i := by omega
      rw [e1, e2]
      exact ih (i + 1) (i3 + 1) _ (by omega) (by omega) (by omega) ⟨fun a ha => by rw [aPut_r (by omega), aPut_r (by omega)]; exact hA a ha, gCp_eq h6 (by rw [aPut_r (by decide), aPut_r (by decide)]), gCp_eq h7 (by rw [aPut_r (by decide), aPut_r (by decide)]), gCp_eq h8 (by rw [aPut_r (by decide), aPut_r (by decide)]), gCp_up h10 (by omega) (by rw [aPut_o (by decide), aPut_e]; exact Int32.ofInt_toInt _) (fun l hl => by rw [aPut_o (by decide), aPut_f hl]), gCp_up h11 (by omega) (by rw [aPut_e]; exact Int32.ofInt_toInt _) (fun l hl => by rw [aPut_f hl, aPut_o (by decide)])⟩
theorem h78_l {X : aX} {d : Nat} {k : Nat → aK} (hk : gKs k) {M : Nat → Nat → Int32} {kk n m : Nat} {i1 i2 : Int} (h1 : i1 = kk) (h2 : i2 = n) (hk4 : kk < 4) (hn : n ≤ 16) (hm : (M 188 38).toInt = m) (hm5 : m ≤ 500) (hL : gLs n M) (hR : gRows (M 204) (M 206) (M 207) (M 208) (M 210) (M 211)) :
    ∀ (nn i : Nat) (i3 : Int) (M1 : Nat → Nat → Int32) (hi : i3 = i) (hin : i ≤ n) (hd : n - i ≤ nn) (hI : (∀ a, a < 205 ∨ 208 < a → M1 a = M a) ∧ gCp M M1 206 (16 * kk) 64 i ∧ gCp M M1 207 (16 * kk) 64 i ∧ gCp M M1 208 (16 * kk) 64 i), zW X d 78 1 [.iload 3, .iload 2, .if_icmp .ge 3] [.ref 188, iv i1, iv i2, iv i3] [] (gH k M1) (fun rv h' => ∃ M', rv = none ∧ h' = gH k M' ∧ (∀ a, a < 204 ∨ 211 < a → M' a = M a) ∧ (∀ i, M' 204 i = M 204 i ∨ 0 ≤ (M' 204 i).toInt ∧ (M' 204 i).toInt ≤ 16) ∧ gRows (M' 204) (M' 206) (M' 207) (M' 208) (M' 210) (M' 211)) := by
  intro nn
  induction nn with
  | zero =>
    intro i i3 M1 hi hin hd hI
    obtain ⟨hA, h6, h7, h8⟩ := hI
    refine wP (ls' := [.ref 188, iv i1, iv i2, iv i3]) (st' := [iv i3]) rfl rfl ?_
    refine wP (ls' := [.ref 188, iv i1, iv i2, iv i3]) (st' := [iv i2, iv i3]) rfl rfl ?_
    refine wIfc (n1 := 3) rfl bk_78_3 bk_78_2 (by omega) (by omega) (fun g0 => ?_) (fun g0 => ?_)
    · replace g0 : (i2 : Int) ≤ i3 := g0
      refine wP (ls' := [.ref 188, iv i1, iv i2, iv i3]) (st' := [iv 0]) rfl rfl ?_
      refine wP (ls' := [.ref 188, iv i1, iv i2, iv 0]) (st' := []) rfl rfl ?_
      refine zW_fall bk_78_4 ?_
      obtain rfl : i = n := by omega
      exact h78_m hk h1 h2 hk4 hn hm hm5 hL hR m 0 0 M1 rfl (by omega) (by omega) ⟨fun a ha => hA a (by omega), h6, h7, h8, ⟨fun l hl => absurd hl (by omega), fun l _ => by rw [hA 210 (by decide)]⟩, ⟨fun l hl => absurd hl (by omega), fun l _ => by rw [hA 211 (by decide)]⟩⟩
    · replace g0 : ¬ ((i2 : Int) ≤ i3) := g0
      refine wP (ls' := [.ref 188, iv i1, iv i2, iv i3]) (st' := [.ref 188]) rfl rfl ?_
      refine wGetR hk (r := 205) (by decide +kernel) ?_
      refine wP (ls' := [.ref 188, iv i1, iv i2, iv i3]) (st' := [iv 16, .ref 205]) rfl rfl ?_
      refine wP (ls' := [.ref 188, iv i1, iv i2, iv i3]) (st' := [iv i1, iv 16, .ref 205]) rfl rfl ?_
      refine wMul ?_
      refine wP (ls' := [.ref 188, iv i1, iv i2, iv i3]) (st' := [iv i3, iv (16 * i1), .ref 205]) rfl rfl ?_
      refine wAdd ?_
      refine wP (ls' := [.ref 188, iv i1, iv i2, iv i3]) (st' := [.ref 188, iv ((16 * i1) + i3), .ref 205]) rfl rfl ?_
      refine wGetR hk (r := 205) (by decide +kernel) ?_
      refine wP (ls' := [.ref 188, iv i1, iv i2, iv i3]) (st' := [iv 64, .ref 205, iv ((16 * i1) + i3), .ref 205]) rfl rfl ?_
      refine wP (ls' := [.ref 188, iv i1, iv i2, iv i3]) (st' := [iv i3, iv 64, .ref 205, iv ((16 * i1) + i3), .ref 205]) rfl rfl ?_
      refine wAdd ?_
      refine wIld hk (l := 80) (e := (M1 205 ((64 + i3)).toNat).toInt) (by decide +kernel) (by omega) (by omega) (iE _) ?_
      refine wIst hk (l := 80) (by decide +kernel) (by omega) (by omega) ?_
      refine wP (ls' := [.ref 188, iv i1, iv i2, iv i3]) (st' := [.ref 188]) rfl rfl ?_
      refine wGetR hk (r := 206) (by decide +kernel) ?_
      refine wP (ls' := [.ref 188, iv i1, iv i2, iv i3]) (st' := [iv 16, .ref 206]) rfl rfl ?_
      refine wP (ls' := [.ref 188, iv i1, iv i2, iv i3]) (st' := [iv i1, iv 16, .ref 206]) rfl rfl ?_
      refine wMul ?_
      refine wP (ls' := [.ref 188, iv i1, iv i2, iv i3]) (st' := [iv i3, iv (16 * i1), .ref 206]) rfl rfl ?_
      refine wAdd ?_
      refine wP (ls' := [.ref 188, iv i1, iv i2, iv i3]) (st' := [.ref 188, iv ((16 * i1) + i3), .ref 206]) rfl rfl ?_
      refine wGetR hk (r := 206) (by decide +kernel) ?_
      refine wP (ls' := [.ref 188, iv i1, iv i2, iv i3]) (st' := [iv 64, .ref 206, iv ((16 * i1) + i3), .ref 206]) rfl rfl ?_
      refine wP (ls' := [.ref 188, iv i1, iv i2, iv i3]) (st' := [iv i3, iv 64, .ref 206, iv ((16 * i1) + i3), .ref 206]) rfl rfl ?_
      refine wAdd ?_
      refine wIld hk (l := 80) (e := (M1 206 ((64 + i3)).toNat).toInt) (by decide +kernel) (by omega) (by omega) (by rw [aPut_o (by decide)]; exact iE _) ?_
      refine wIst hk (l := 80) (by decide +kernel) (by omega) (by omega) ?_
      refine wP (ls' := [.ref 188, iv i1, iv i2, iv i3]) (st' := [.ref 188]) rfl rfl ?_
      refine wGetR hk (r := 207) (by decide +kernel) ?_
      refine wP (ls' := [.ref 188, iv i1, iv i2, iv i3]) (st' := [iv 16, .ref 207]) rfl rfl ?_
      refine wP (ls' := [.ref 188, iv i1, iv i2, iv i3]) (st' := [iv i1, iv 16, .ref 207]) rfl rfl ?_
      refine wMul ?_
      refine wP (ls' := [.ref 188, iv i1, iv i2, iv i3]) (st' := [iv i3, iv (16 * i1), .ref 207]) rfl rfl ?_
      refine wAdd ?_
      refine wP (ls' := [.ref 188, iv i1, iv i2, iv i3]) (st' := [.ref 188, iv ((16 * i1) + i3), .ref 207]) rfl rfl ?_
      refine wGetR hk (r := 207) (by decide +kernel) ?_
      refine wP (ls' := [.ref 188, iv i1, iv i2, iv i3]) (st' := [iv 64, .ref 207, iv ((16 * i1) + i3), .ref 207]) rfl rfl ?_
      refine wP (ls' := [.ref 188, iv i1, iv i2, iv i3]) (st' := [iv i3, iv 64, .ref 207, iv ((16 * i1) + i3), .ref 207]) rfl rfl ?_
      refine wAdd ?_
      refine wIld hk (l := 80) (e := (M1 207 ((64 + i3)).toNat).toInt) (by decide +kernel) (by omega) (by omega) (by rw [aPut_o (by decide), aPut_o (by decide)]; exact iE _) ?_
      refine wIst hk (l := 80) (by decide +kernel) (by omega) (by omega) ?_
      refine wP (ls' := [.ref 188, iv i1, iv i2, iv i3]) (st' := [.ref 188]) rfl rfl ?_
      refine wGetR hk (r := 208) (by decide +kernel) ?_
      refine wP (ls' := [.ref 188, iv i1, iv i2, iv i3]) (st' := [iv 16, .ref 208]) rfl rfl ?_
      refine wP (ls' := [.ref 188, iv i1, iv i2, iv i3]) (st' := [iv i1, iv 16, .ref 208]) rfl rfl ?_
      refine wMul ?_
      refine wP (ls' := [.ref 188, iv i1, iv i2, iv i3]) (st' := [iv i3, iv (16 * i1), .ref 208]) rfl rfl ?_
      refine wAdd ?_
      refine wP (ls' := [.ref 188, iv i1, iv i2, iv i3]) (st' := [.ref 188, iv ((16 * i1) + i3), .ref 208]) rfl rfl ?_
      refine wGetR hk (r := 208) (by decide +kernel) ?_
      refine wP (ls' := [.ref 188, iv i1, iv i2, iv i3]) (st' := [iv 64, .ref 208, iv ((16 * i1) + i3), .ref 208]) rfl rfl ?_
      refine wP (ls' := [.ref 188, iv i1, iv i2, iv i3]) (st' := [iv i3, iv 64, .ref 208, iv ((16 * i1) + i3), .ref 208]) rfl rfl ?_
      refine wAdd ?_
      refine wIld hk (l := 80) (e := (M1 208 ((64 + i3)).toNat).toInt) (by decide +kernel) (by omega) (by omega) (by rw [aPut_o (by decide), aPut_o (by decide), aPut_o (by decide)]; exact iE _) ?_
      refine wIst hk (l := 80) (by decide +kernel) (by omega) (by omega) ?_
      refine wInc (ls' := [.ref 188, iv i1, iv i2, iv (i3 + 1)]) rfl rfl ?_
      refine wGoto (n1 := 1) rfl bk_78_1 ?_
      exfalso
      omega
  | succ nn ih =>
    intro i i3 M1 hi hin hd hI
    obtain ⟨hA, h6, h7, h8⟩ := hI
    refine wP (ls' := [.ref 188, iv i1, iv i2, iv i3]) (st' := [iv i3]) rfl rfl ?_
    refine wP (ls' := [.ref 188, iv i1, iv i2, iv i3]) (st' := [iv i2, iv i3]) rfl rfl ?_
    refine wIfc (n1 := 3) rfl bk_78_3 bk_78_2 (by omega) (by omega) (fun g0 => ?_) (fun g0 => ?_)
    · replace g0 : (i2 : Int) ≤ i3 := g0
      refine wP (ls' := [.ref 188, iv i1, iv i2, iv i3]) (st' := [iv 0]) rfl rfl ?_
      refine wP (ls' := [.ref 188, iv i1, iv i2, iv 0]) (st' := []) rfl rfl ?_
      refine zW_fall bk_78_4 ?_
      obtain rfl : i = n := by omega
      exact h78_m hk h1 h2 hk4 hn hm hm5 hL hR m 0 0 M1 rfl (by omega) (by omega) ⟨fun a ha => hA a (by omega), h6, h7, h8, ⟨fun l hl => absurd hl (by omega), fun l _ => by rw [hA 210 (by decide)]⟩, ⟨fun l hl => absurd hl (by omega), fun l _ => by rw [hA 211 (by decide)]⟩⟩
    · replace g0 : ¬ ((i2 : Int) ≤ i3) := g0
      refine wP (ls' := [.ref 188, iv i1, iv i2, iv i3]) (st' := [.ref 188]) rfl rfl ?_
      refine wGetR hk (r := 205) (by decide +kernel) ?_
      refine wP (ls' := [.ref 188, iv i1, iv i2, iv i3]) (st' := [iv 16, .ref 205]) rfl rfl ?_
      refine wP (ls' := [.ref 188, iv i1, iv i2, iv i3]) (st' := [iv i1, iv 16, .ref 205]) rfl rfl ?_
      refine wMul ?_
      refine wP (ls' := [.ref 188, iv i1, iv i2, iv i3]) (st' := [iv i3, iv (16 * i1), .ref 205]) rfl rfl ?_
      refine wAdd ?_
      refine wP (ls' := [.ref 188, iv i1, iv i2, iv i3]) (st' := [.ref 188, iv ((16 * i1) + i3), .ref 205]) rfl rfl ?_
      refine wGetR hk (r := 205) (by decide +kernel) ?_
      refine wP (ls' := [.ref 188, iv i1, iv i2, iv i3]) (st' := [iv 64, .ref 205, iv ((16 * i1) + i3), .ref 205]) rfl rfl ?_
      refine wP (ls' := [.ref 188, iv i1, iv i2, iv i3]) (st' := [iv i3, iv 64, .ref 205, iv ((16 * i1) + i3), .ref 205]) rfl rfl ?_
      refine wAdd ?_
      refine wIld hk (l := 80) (e := (M1 205 ((64 + i3)).toNat).toInt) (by decide +kernel) (by omega) (by omega) (iE _) ?_
      refine wIst hk (l := 80) (by decide +kernel) (by omega) (by omega) ?_
      refine wP (ls' := [.ref 188, iv i1, iv i2, iv i3]) (st' := [.ref 188]) rfl rfl ?_
      refine wGetR hk (r := 206) (by decide +kernel) ?_
      refine wP (ls' := [.ref 188, iv i1, iv i2, iv i3]) (st' := [iv 16, .ref 206]) rfl rfl ?_
      refine wP (ls' := [.ref 188, iv i1, iv i2, iv i3]) (st' := [iv i1, iv 16, .ref 206]) rfl rfl ?_
      refine wMul ?_
      refine wP (ls' := [.ref 188, iv i1, iv i2, iv i3]) (st' := [iv i3, iv (16 * i1), .ref 206]) rfl rfl ?_
      refine wAdd ?_
      refine wP (ls' := [.ref 188, iv i1, iv i2, iv i3]) (st' := [.ref 188, iv ((16 * i1) + i3), .ref 206]) rfl rfl ?_
      refine wGetR hk (r := 206) (by decide +kernel) ?_
      refine wP (ls' := [.ref 188, iv i1, iv i2, iv i3]) (st' := [iv 64, .ref 206, iv ((16 * i1) + i3), .ref 206]) rfl rfl ?_
      refine wP (ls' := [.ref 188, iv i1, iv i2, iv i3]) (st' := [iv i3, iv 64, .ref 206, iv ((16 * i1) + i3), .ref 206]) rfl rfl ?_
      refine wAdd ?_
      refine wIld hk (l := 80) (e := (M1 206 ((64 + i3)).toNat).toInt) (by decide +kernel) (by omega) (by omega) (by rw [aPut_o (by decide)]; exact iE _) ?_
      refine wIst hk (l := 80) (by decide +kernel) (by omega) (by omega) ?_
      refine wP (ls' := [.ref 188, iv i1, iv i2, iv i3]) (st' := [.ref 188]) rfl rfl ?_
      refine wGetR hk (r := 207) (by decide +kernel) ?_
      refine wP (ls' := [.ref 188, iv i1, iv i2, iv i3]) (st' := [iv 16, .ref 207]) rfl rfl ?_
      refine wP (ls' := [.ref 188, iv i1, iv i2, iv i3]) (st' := [iv i1, iv 16, .ref 207]) rfl rfl ?_
      refine wMul ?_
      refine wP (ls' := [.ref 188, iv i1, iv i2, iv i3]) (st' := [iv i3, iv (16 * i1), .ref 207]) rfl rfl ?_
      refine wAdd ?_
      refine wP (ls' := [.ref 188, iv i1, iv i2, iv i3]) (st' := [.ref 188, iv ((16 * i1) + i3), .ref 207]) rfl rfl ?_
      refine wGetR hk (r := 207) (by decide +kernel) ?_
      refine wP (ls' := [.ref 188, iv i1, iv i2, iv i3]) (st' := [iv 64, .ref 207, iv ((16 * i1) + i3), .ref 207]) rfl rfl ?_
      refine wP (ls' := [.ref 188, iv i1, iv i2, iv i3]) (st' := [iv i3, iv 64, .ref 207, iv ((16 * i1) + i3), .ref 207]) rfl rfl ?_
      refine wAdd ?_
      refine wIld hk (l := 80) (e := (M1 207 ((64 + i3)).toNat).toInt) (by decide +kernel) (by omega) (by omega) (by rw [aPut_o (by decide), aPut_o (by decide)]; exact iE _) ?_
      refine wIst hk (l := 80) (by decide +kernel) (by omega) (by omega) ?_
      refine wP (ls' := [.ref 188, iv i1, iv i2, iv i3]) (st' := [.ref 188]) rfl rfl ?_
      refine wGetR hk (r := 208) (by decide +kernel) ?_
      refine wP (ls' := [.ref 188, iv i1, iv i2, iv i3]) (st' := [iv 16, .ref 208]) rfl rfl ?_
      refine wP (ls' := [.ref 188, iv i1, iv i2, iv i3]) (st' := [iv i1, iv 16, .ref 208]) rfl rfl ?_
      refine wMul ?_
      refine wP (ls' := [.ref 188, iv i1, iv i2, iv i3]) (st' := [iv i3, iv (16 * i1), .ref 208]) rfl rfl ?_
      refine wAdd ?_
      refine wP (ls' := [.ref 188, iv i1, iv i2, iv i3]) (st' := [.ref 188, iv ((16 * i1) + i3), .ref 208]) rfl rfl ?_
      refine wGetR hk (r := 208) (by decide +kernel) ?_
      refine wP (ls' := [.ref 188, iv i1, iv i2, iv i3]) (st' := [iv 64, .ref 208, iv ((16 * i1) + i3), .ref 208]) rfl rfl ?_
      refine wP (ls' := [.ref 188, iv i1, iv i2, iv i3]) (st' := [iv i3, iv 64, .ref 208, iv ((16 * i1) + i3), .ref 208]) rfl rfl ?_
      refine wAdd ?_
      refine wIld hk (l := 80) (e := (M1 208 ((64 + i3)).toNat).toInt) (by decide +kernel) (by omega) (by omega) (by rw [aPut_o (by decide), aPut_o (by decide), aPut_o (by decide)]; exact iE _) ?_
      refine wIst hk (l := 80) (by decide +kernel) (by omega) (by omega) ?_
      refine wInc (ls' := [.ref 188, iv i1, iv i2, iv (i3 + 1)]) rfl rfl ?_
      refine wGoto (n1 := 1) rfl bk_78_1 ?_
      have e1 : (((16 * i1) + i3)).toNat = 16 * kk + i := by omega
      have e2 : ((64 + i3)).toNat = 64 + i := by omega
      rw [e1, e2]
      exact ih (i + 1) (i3 + 1) _ (by omega) (by omega) (by omega) ⟨fun a ha => by rw [aPut_r (by omega), aPut_r (by omega), aPut_r (by omega), aPut_r (by omega)]; exact hA a ha, gCp_up h6 (by omega) (by rw [aPut_o (by decide), aPut_o (by decide), aPut_e]; exact Int32.ofInt_toInt _) (fun l hl => by rw [aPut_o (by decide), aPut_o (by decide), aPut_f hl, aPut_o (by decide)]), gCp_up h7 (by omega) (by rw [aPut_o (by decide), aPut_e]; exact Int32.ofInt_toInt _) (fun l hl => by rw [aPut_o (by decide), aPut_f hl, aPut_o (by decide), aPut_o (by decide)]), gCp_up h8 (by omega) (by rw [aPut_e]; exact Int32.ofInt_toInt _) (fun l hl => by rw [aPut_f hl, aPut_o (by decide), aPut_o (by decide), aPut_o (by decide)])⟩
theorem h78 {X : aX} {d : Nat} {k : Nat → aK} (hk : gKs k) {M : Nat → Nat → Int32} {kk n m : Nat} {i1 i2 : Int} (h1 : i1 = kk) (h2 : i2 = n) (hk4 : kk < 4) (hn : n ≤ 16) (hm : (M 188 38).toInt = m) (hm5 : m ≤ 500) (hL : gLs n M) (hR : gRows (M 204) (M 206) (M 207) (M 208) (M 210) (M 211)) : zRn X (d + 1) 78 [.ref 188, iv i1, iv i2] (gH k M) (fun rv h' => ∃ M', rv = none ∧ h' = gH k M' ∧ (∀ a, a < 204 ∨ 211 < a → M' a = M a) ∧ (∀ i, M' 204 i = M 204 i ∨ 0 ≤ (M' 204 i).toInt ∧ (M' 204 i).toInt ≤ 16) ∧ gRows (M' 204) (M' 206) (M' 207) (M' 208) (M' 210) (M' 211)) := by
  refine wEnt (n := 4) (ls := [.ref 188, iv i1, iv i2, aD]) bk_78_0 (by decide +kernel) rfl rfl rfl ?_
  refine wP (ls' := [.ref 188, iv i1, iv i2, aD]) (st' := [iv 0]) rfl rfl ?_
  refine wP (ls' := [.ref 188, iv i1, iv i2, iv 0]) (st' := []) rfl rfl ?_
  refine zW_fall bk_78_1 ?_
  exact h78_l hk h1 h2 hk4 hn hm hm5 hL hR n 0 0 M rfl (by omega) (by omega) ⟨fun _ _ => rfl, gCp_0, gCp_0, gCp_0⟩
theorem h80_l {X : aX} {d : Nat} {k : Nat → aK} (hk : gKs k) {M : Nat → Nat → Int32} {kk n : Nat} {i1 i2 : Int} (h1 : i1 = kk) (h2 : i2 = n) (hk4 : kk < 4) (hn : n ≤ 24) (hS : gSs n M) (hR : gSteps (M 214) (M 215)) :
    ∀ (nn i : Nat) (i3 : Int) (M1 : Nat → Nat → Int32) (hi : i3 = i) (hin : i ≤ n) (hd : n - i ≤ nn) (hI : (∀ a, a < 214 ∨ 215 < a → M1 a = M a) ∧ gCp M M1 214 (24 * kk) 96 i ∧ gCp M M1 215 (24 * kk) 96 i), zW X d 80 1 [.iload 3, .iload 2, .if_icmp .ge 3] [.ref 188, iv i1, iv i2, iv i3] [] (gH k M1) (fun rv h' => ∃ M', rv = none ∧ h' = gH k M' ∧ (∀ a, a < 213 ∨ 215 < a → M' a = M a) ∧ (∀ i, M' 213 i = M 213 i ∨ 0 ≤ (M' 213 i).toInt ∧ (M' 213 i).toInt ≤ 24) ∧ gSteps (M' 214) (M' 215)) := by
  intro nn
  induction nn with
  | zero =>
    intro i i3 M1 hi hin hd hI
    obtain ⟨hA, h4, h5⟩ := hI
    refine wP (ls' := [.ref 188, iv i1, iv i2, iv i3]) (st' := [iv i3]) rfl rfl ?_
    refine wP (ls' := [.ref 188, iv i1, iv i2, iv i3]) (st' := [iv i2, iv i3]) rfl rfl ?_
    refine wIfc (n1 := 3) rfl bk_80_3 bk_80_2 (by omega) (by omega) (fun g0 => ?_) (fun g0 => ?_)
    · replace g0 : (i2 : Int) ≤ i3 := g0
      refine wP (ls' := [.ref 188, iv i1, iv i2, iv i3]) (st' := [.ref 188]) rfl rfl ?_
      refine wGetR hk (r := 213) (by decide +kernel) ?_
      refine wP (ls' := [.ref 188, iv i1, iv i2, iv i3]) (st' := [iv i1, .ref 213]) rfl rfl ?_
      refine wP (ls' := [.ref 188, iv i1, iv i2, iv i3]) (st' := [iv i2, iv i1, .ref 213]) rfl rfl ?_
      refine wIst hk (l := 5) (by decide +kernel) (by omega) (by omega) ?_
      obtain rfl : i = n := by omega
      exact wRet0 (by decide +kernel) ⟨_, rfl, rfl, fun a ha => by rw [aPut_r (by omega)]; exact hA a (by omega), fun l => by
        by_cases q : l = (i1).toNat
        · right; rw [q, aPut_e, iR (by omega) (by omega)]; omega
        · left; rw [aPut_f q, hA 213 (by decide)], gSteps_tk hk4 hn hS hR (gCp_eq h4 (by rw [aPut_r (by decide)])) (gCp_eq h5 (by rw [aPut_r (by decide)]))⟩
    · replace g0 : ¬ ((i2 : Int) ≤ i3) := g0
      refine wP (ls' := [.ref 188, iv i1, iv i2, iv i3]) (st' := [.ref 188]) rfl rfl ?_
      refine wGetR hk (r := 214) (by decide +kernel) ?_
      refine wP (ls' := [.ref 188, iv i1, iv i2, iv i3]) (st' := [iv 24, .ref 214]) rfl rfl ?_
      refine wP (ls' := [.ref 188, iv i1, iv i2, iv i3]) (st' := [iv i1, iv 24, .ref 214]) rfl rfl ?_
      refine wMul ?_
      refine wP (ls' := [.ref 188, iv i1, iv i2, iv i3]) (st' := [iv i3, iv (24 * i1), .ref 214]) rfl rfl ?_
      refine wAdd ?_
      refine wP (ls' := [.ref 188, iv i1, iv i2, iv i3]) (st' := [.ref 188, iv ((24 * i1) + i3), .ref 214]) rfl rfl ?_
      refine wGetR hk (r := 214) (by decide +kernel) ?_
      refine wP (ls' := [.ref 188, iv i1, iv i2, iv i3]) (st' := [iv 96, .ref 214, iv ((24 * i1) + i3), .ref 214]) rfl rfl ?_
      refine wP (ls' := [.ref 188, iv i1, iv i2, iv i3]) (st' := [iv i3, iv 96, .ref 214, iv ((24 * i1) + i3), .ref 214]) rfl rfl ?_
      refine wAdd ?_
      refine wIld hk (l := 120) (e := (M1 214 ((96 + i3)).toNat).toInt) (by decide +kernel) (by omega) (by omega) (iE _) ?_
      refine wIst hk (l := 120) (by decide +kernel) (by omega) (by omega) ?_
      refine wP (ls' := [.ref 188, iv i1, iv i2, iv i3]) (st' := [.ref 188]) rfl rfl ?_
      refine wGetR hk (r := 215) (by decide +kernel) ?_
      refine wP (ls' := [.ref 188, iv i1, iv i2, iv i3]) (st' := [iv 24, .ref 215]) rfl rfl ?_
      refine wP (ls' := [.ref 188, iv i1, iv i2, iv i3]) (st' := [iv i1, iv 24, .ref 215]) rfl rfl ?_
      refine wMul ?_
      refine wP (ls' := [.ref 188, iv i1, iv i2, iv i3]) (st' := [iv i3, iv (24 * i1), .ref 215]) rfl rfl ?_
      refine wAdd ?_
      refine wP (ls' := [.ref 188, iv i1, iv i2, iv i3]) (st' := [.ref 188, iv ((24 * i1) + i3), .ref 215]) rfl rfl ?_
      refine wGetR hk (r := 215) (by decide +kernel) ?_
      refine wP (ls' := [.ref 188, iv i1, iv i2, iv i3]) (st' := [iv 96, .ref 215, iv ((24 * i1) + i3), .ref 215]) rfl rfl ?_
      refine wP (ls' := [.ref 188, iv i1, iv i2, iv i3]) (st' := [iv i3, iv 96, .ref 215, iv ((24 * i1) + i3), .ref 215]) rfl rfl ?_
      refine wAdd ?_
      refine wIld hk (l := 120) (e := (M1 215 ((96 + i3)).toNat).toInt) (by decide +kernel) (by omega) (by omega) (by rw [aPut_o (by decide)]; exact iE _) ?_
      refine wIst hk (l := 120) (by decide +kernel) (by omega) (by omega) ?_
      refine wInc (ls' := [.ref 188, iv i1, iv i2, iv (i3 + 1)]) rfl rfl ?_
      refine wGoto (n1 := 1) rfl bk_80_1 ?_
      exfalso
      omega
  | succ nn ih =>
    intro i i3 M1 hi hin hd hI
    obtain ⟨hA, h4, h5⟩ := hI
    refine wP (ls' := [.ref 188, iv i1, iv i2, iv i3]) (st' := [iv i3]) rfl rfl ?_
    refine wP (ls' := [.ref 188, iv i1, iv i2, iv i3]) (st' := [iv i2, iv i3]) rfl rfl ?_
    refine wIfc (n1 := 3) rfl bk_80_3 bk_80_2 (by omega) (by omega) (fun g0 => ?_) (fun g0 => ?_)
    · replace g0 : (i2 : Int) ≤ i3 := g0
      refine wP (ls' := [.ref 188, iv i1, iv i2, iv i3]) (st' := [.ref 188]) rfl rfl ?_
      refine wGetR hk (r := 213) (by decide +kernel) ?_
      refine wP (ls' := [.ref 188, iv i1, iv i2, iv i3]) (st' := [iv i1, .ref 213]) rfl rfl ?_
      refine wP (ls' := [.ref 188, iv i1, iv i2, iv i3]) (st' := [iv i2, iv i1, .ref 213]) rfl rfl ?_
      refine wIst hk (l := 5) (by decide +kernel) (by omega) (by omega) ?_
      obtain rfl : i = n := by omega
      exact wRet0 (by decide +kernel) ⟨_, rfl, rfl, fun a ha => by rw [aPut_r (by omega)]; exact hA a (by omega), fun l => by
        by_cases q : l = (i1).toNat
        · right; rw [q, aPut_e, iR (by omega) (by omega)]; omega
        · left; rw [aPut_f q, hA 213 (by decide)], gSteps_tk hk4 hn hS hR (gCp_eq h4 (by rw [aPut_r (by decide)])) (gCp_eq h5 (by rw [aPut_r (by decide)]))⟩
    · replace g0 : ¬ ((i2 : Int) ≤ i3) := g0
      refine wP (ls' := [.ref 188, iv i1, iv i2, iv i3]) (st' := [.ref 188]) rfl rfl ?_
      refine wGetR hk (r := 214) (by decide +kernel) ?_
      refine wP (ls' := [.ref 188, iv i1, iv i2, iv i3]) (st' := [iv 24, .ref 214]) rfl rfl ?_
      refine wP (ls' := [.ref 188, iv i1, iv i2, iv i3]) (st' := [iv i1, iv 24, .ref 214]) rfl rfl ?_
      refine wMul ?_
      refine wP (ls' := [.ref 188, iv i1, iv i2, iv i3]) (st' := [iv i3, iv (24 * i1), .ref 214]) rfl rfl ?_
      refine wAdd ?_
      refine wP (ls' := [.ref 188, iv i1, iv i2, iv i3]) (st' := [.ref 188, iv ((24 * i1) + i3), .ref 214]) rfl rfl ?_
      refine wGetR hk (r := 214) (by decide +kernel) ?_
      refine wP (ls' := [.ref 188, iv i1, iv i2, iv i3]) (st' := [iv 96, .ref 214, iv ((24 * i1) + i3), .ref 214]) rfl rfl ?_
      refine wP (ls' := [.ref 188, iv i1, iv i2, iv i3]) (st' := [iv i3, iv 96, .ref 214, iv ((24 * i1) + i3), .ref 214]) rfl rfl ?_
      refine wAdd ?_
      refine wIld hk (l := 120) (e := (M1 214 ((96 + i3)).toNat).toInt) (by decide +kernel) (by omega) (by omega) (iE _) ?_
      refine wIst hk (l := 120) (by decide +kernel) (by omega) (by omega) ?_
      refine wP (ls' := [.ref 188, iv i1, iv i2, iv i3]) (st' := [.ref 188]) rfl rfl ?_
      refine wGetR hk (r := 215) (by decide +kernel) ?_
      refine wP (ls' := [.ref 188, iv i1, iv i2, iv i3]) (st' := [iv 24, .ref 215]) rfl rfl ?_
      refine wP (ls' := [.ref 188, iv i1, iv i2, iv i3]) (st' := [iv i1, iv 24, .ref 215]) rfl rfl ?_
      refine wMul ?_
      refine wP (ls' := [.ref 188, iv i1, iv i2, iv i3]) (st' := [iv i3, iv (24 * i1), .ref 215]) rfl rfl ?_
      refine wAdd ?_
      refine wP (ls' := [.ref 188, iv i1, iv i2, iv i3]) (st' := [.ref 188, iv ((24 * i1) + i3), .ref 215]) rfl rfl ?_
      refine wGetR hk (r := 215) (by decide +kernel) ?_
      refine wP (ls' := [.ref 188, iv i1, iv i2, iv i3]) (st' := [iv 96, .ref 215, iv ((24 * i1) + i3), .ref 215]) rfl rfl ?_
      refine wP (ls' := [.ref 188, iv i1, iv i2, iv i3]) (st' := [iv i3, iv 96, .ref 215, iv ((24 * i1) + i3), .ref 215]) rfl rfl ?_
      refine wAdd ?_
      refine wIld hk (l := 120) (e := (M1 215 ((96 + i3)).toNat).toInt) (by decide +kernel) (by omega) (by omega) (by rw [aPut_o (by decide)]; exact iE _) ?_
      refine wIst hk (l := 120) (by decide +kernel) (by omega) (by omega) ?_
      refine wInc (ls' := [.ref 188, iv i1, iv i2, iv (i3 + 1)]) rfl rfl ?_
      refine wGoto (n1 := 1) rfl bk_80_1 ?_
      have e1 : (((24 * i1) + i3)).toNat = 24 * kk + i := by omega
      have e2 : ((96 + i3)).toNat = 96 + i := by omega
      rw [e1, e2]
      exact ih (i + 1) (i3 + 1) _ (by omega) (by omega) (by omega) ⟨fun a ha => by rw [aPut_r (by omega), aPut_r (by omega)]; exact hA a ha, gCp_up h4 (by omega) (by rw [aPut_o (by decide), aPut_e]; exact Int32.ofInt_toInt _) (fun l hl => by rw [aPut_o (by decide), aPut_f hl]), gCp_up h5 (by omega) (by rw [aPut_e]; exact Int32.ofInt_toInt _) (fun l hl => by rw [aPut_f hl, aPut_o (by decide)])⟩
theorem h80 {X : aX} {d : Nat} {k : Nat → aK} (hk : gKs k) {M : Nat → Nat → Int32} {kk n : Nat} {i1 i2 : Int} (h1 : i1 = kk) (h2 : i2 = n) (hk4 : kk < 4) (hn : n ≤ 24) (hS : gSs n M) (hR : gSteps (M 214) (M 215)) : zRn X (d + 1) 80 [.ref 188, iv i1, iv i2] (gH k M) (fun rv h' => ∃ M', rv = none ∧ h' = gH k M' ∧ (∀ a, a < 213 ∨ 215 < a → M' a = M a) ∧ (∀ i, M' 213 i = M 213 i ∨ 0 ≤ (M' 213 i).toInt ∧ (M' 213 i).toInt ≤ 24) ∧ gSteps (M' 214) (M' 215)) := by
  refine wEnt (n := 4) (ls := [.ref 188, iv i1, iv i2, aD]) bk_80_0 (by decide +kernel) rfl rfl rfl ?_
  refine wP (ls' := [.ref 188, iv i1, iv i2, aD]) (st' := [iv 0]) rfl rfl ?_
  refine wP (ls' := [.ref 188, iv i1, iv i2, iv 0]) (st' := []) rfl rfl ?_
  refine zW_fall bk_80_1 ?_
  exact h80_l hk h1 h2 hk4 hn hS hR n 0 0 M rfl (by omega) (by omega) ⟨fun _ _ => rfl, gCp_0, gCp_0⟩
