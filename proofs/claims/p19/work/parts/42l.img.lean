/-! images of texts, by hand: printed by wip/safe/h133.py -/
theorem bk_132_0 : (aMC 132)[0]? = some [.aload 0, .aload 0, .getfield 132112316, .bipush 1, .iadd, .putfield 132112316, .aload 0, .getfield 131112277, .ifCond .ne 2] := by decide +kernel
theorem bk_132_1 : (aMC 132)[1]? = some [.aload 0, .getfield 132012314, .aload 0, .getfield 132112316, .bipush 1, .isub, .iaload, .ireturn] := by decide +kernel
theorem bk_132_2 : (aMC 132)[2]? = some [.aload 0, .getfield 132012314, .aload 0, .getfield 132112316, .bipush 1, .isub, .iload 1, .iastore, .iload 1, .ireturn] := by decide +kernel
theorem bk_133_0 : (aMC 133)[0]? = some [.bipush 0, .istore 1] := by decide +kernel
theorem bk_133_1 : (aMC 133)[1]? = some [.iload 1, .bipush 4, .if_icmp .ge 3] := by decide +kernel
theorem bk_133_2 : (aMC 133)[2]? = some [.aload 0, .getfield 127212122, .iload 1, .aload 0, .aload 0, .getfield 127212122, .iload 1, .iaload, .invokevirtual 1859132, .iastore, .aload 0, .getfield 127712142, .iload 1, .aload 0, .aload 0, .getfield 127712142, .iload 1, .iaload, .invokevirtual 1859132, .iastore, .aload 0, .getfield 128812186, .iload 1, .aload 0, .aload 0, .getfield 128812186, .iload 1, .iaload, .invokevirtual 1859132, .iastore, .iinc 1 1, .goto 1] := by decide +kernel
theorem bk_133_3 : (aMC 133)[3]? = some [.bipush 0, .istore 1] := by decide +kernel
theorem bk_133_4 : (aMC 133)[4]? = some [.iload 1, .bipush 64, .if_icmp .ge 6] := by decide +kernel
theorem bk_133_5 : (aMC 133)[5]? = some [.aload 0, .getfield 127312126, .iload 1, .aload 0, .aload 0, .getfield 127312126, .iload 1, .iaload, .invokevirtual 1859132, .iastore, .aload 0, .getfield 127412130, .iload 1, .aload 0, .aload 0, .getfield 127412130, .iload 1, .iaload, .invokevirtual 1859132, .iastore, .aload 0, .getfield 127512134, .iload 1, .aload 0, .aload 0, .getfield 127512134, .iload 1, .iaload, .invokevirtual 1859132, .iastore, .aload 0, .getfield 127612138, .iload 1, .aload 0, .aload 0, .getfield 127612138, .iload 1, .iaload, .invokevirtual 1859132, .iastore, .iinc 1 1, .goto 4] := by decide +kernel
theorem bk_133_6 : (aMC 133)[6]? = some [.bipush 0, .istore 1] := by decide +kernel
theorem bk_133_7 : (aMC 133)[7]? = some [.iload 1, .bipush 2000, .if_icmp .ge 9] := by decide +kernel
theorem bk_133_8 : (aMC 133)[8]? = some [.aload 0, .getfield 127812146, .iload 1, .aload 0, .aload 0, .getfield 127812146, .iload 1, .iaload, .invokevirtual 1859132, .iastore, .aload 0, .getfield 127912150, .iload 1, .aload 0, .aload 0, .getfield 127912150, .iload 1, .iaload, .invokevirtual 1859132, .iastore, .iinc 1 1, .goto 7] := by decide +kernel
theorem bk_133_9 : (aMC 133)[9]? = some [.bipush 0, .istore 1] := by decide +kernel
theorem bk_133_10 : (aMC 133)[10]? = some [.iload 1, .bipush 96, .if_icmp .ge 12] := by decide +kernel
theorem bk_133_11 : (aMC 133)[11]? = some [.aload 0, .getfield 128912190, .iload 1, .aload 0, .aload 0, .getfield 128912190, .iload 1, .iaload, .invokevirtual 1859132, .iastore, .aload 0, .getfield 129012194, .iload 1, .aload 0, .aload 0, .getfield 129012194, .iload 1, .iaload, .invokevirtual 1859132, .iastore, .iinc 1 1, .goto 10] := by decide +kernel
theorem bk_133_12 : (aMC 133)[12]? = some [.return_] := by decide +kernel
/-- where an image keeps what -/
def gPos (a i : Nat) : Nat := if a = 204 ∧ i < 4 then 3 * i else if a = 209 ∧ i < 4 then 3 * i + 1 else if a = 213 ∧ i < 4 then 3 * i + 2 else if a = 205 ∧ i < 64 then 4 * i + 12 else if a = 206 ∧ i < 64 then 4 * i + 13 else if a = 207 ∧ i < 64 then 4 * i + 14 else if a = 208 ∧ i < 64 then 4 * i + 15
  else if a = 210 ∧ i < 2000 then 2 * i + 268 else if a = 211 ∧ i < 2000 then 2 * i + 269 else if a = 214 ∧ i < 96 then 2 * i + 4268 else if a = 215 ∧ i < 96 then 2 * i + 4269 else 10000
def gInv (j : Nat) : Nat × Nat := if j < 12 then (if j % 3 = 0 then (204, j / 3) else if j % 3 = 1 then (209, j / 3) else (213, j / 3)) else if j < 268 then (if j % 4 = 0 then (205, (j - 12) / 4) else if j % 4 = 1 then (206, (j - 12) / 4) else if j % 4 = 2 then (207, (j - 12) / 4) else (208, (j - 12) / 4))
  else if j < 4268 then (if j % 2 = 0 then (210, (j - 268) / 2) else (211, (j - 268) / 2)) else (if j % 2 = 0 then (214, (j - 4268) / 2) else (215, (j - 4268) / 2))
theorem gInv_s {a i : Nat} (h : gPos a i < 9999) : gInv (gPos a i) = (a, i) := by
  unfold gPos at h ⊢
  by_cases c1 : a = 204 ∧ i < 4
  · rw [if_pos c1]; unfold gInv; rw [if_pos (by omega), if_pos (by omega)]; exact Prod.ext c1.1.symm (by show 3 * i / 3 = i; omega)
  rw [if_neg c1] at h ⊢
  by_cases c2 : a = 209 ∧ i < 4
  · rw [if_pos c2]; unfold gInv; rw [if_pos (by omega), if_neg (by omega), if_pos (by omega)]; exact Prod.ext c2.1.symm (by show (3 * i + 1) / 3 = i; omega)
  rw [if_neg c2] at h ⊢
  by_cases c3 : a = 213 ∧ i < 4
  · rw [if_pos c3]; unfold gInv; rw [if_pos (by omega), if_neg (by omega), if_neg (by omega)]; exact Prod.ext c3.1.symm (by show (3 * i + 2) / 3 = i; omega)
  rw [if_neg c3] at h ⊢
  by_cases c4 : a = 205 ∧ i < 64
  · rw [if_pos c4]; unfold gInv; rw [if_neg (by omega), if_pos (by omega), if_pos (by omega)]; exact Prod.ext c4.1.symm (by show (4 * i + 12 - 12) / 4 = i; omega)
  rw [if_neg c4] at h ⊢
  by_cases c5 : a = 206 ∧ i < 64
  · rw [if_pos c5]; unfold gInv; rw [if_neg (by omega), if_pos (by omega), if_neg (by omega), if_pos (by omega)]; exact Prod.ext c5.1.symm (by show (4 * i + 13 - 12) / 4 = i; omega)
  rw [if_neg c5] at h ⊢
  by_cases c6 : a = 207 ∧ i < 64
  · rw [if_pos c6]; unfold gInv; rw [if_neg (by omega), if_pos (by omega), if_neg (by omega), if_neg (by omega), if_pos (by omega)]; exact Prod.ext c6.1.symm (by show (4 * i + 14 - 12) / 4 = i; omega)
  rw [if_neg c6] at h ⊢
  by_cases c7 : a = 208 ∧ i < 64
  · rw [if_pos c7]; unfold gInv; rw [if_neg (by omega), if_pos (by omega), if_neg (by omega), if_neg (by omega), if_neg (by omega)]; exact Prod.ext c7.1.symm (by show (4 * i + 15 - 12) / 4 = i; omega)
  rw [if_neg c7] at h ⊢
  by_cases c8 : a = 210 ∧ i < 2000
  · rw [if_pos c8]; unfold gInv; rw [if_neg (by omega), if_neg (by omega), if_pos (by omega), if_pos (by omega)]; exact Prod.ext c8.1.symm (by show (2 * i + 268 - 268) / 2 = i; omega)
  rw [if_neg c8] at h ⊢
  by_cases c9 : a = 211 ∧ i < 2000
  · rw [if_pos c9]; unfold gInv; rw [if_neg (by omega), if_neg (by omega), if_pos (by omega), if_neg (by omega)]; exact Prod.ext c9.1.symm (by show (2 * i + 269 - 268) / 2 = i; omega)
  rw [if_neg c9] at h ⊢
  by_cases c10 : a = 214 ∧ i < 96
  · rw [if_pos c10]; unfold gInv; rw [if_neg (by omega), if_neg (by omega), if_neg (by omega), if_pos (by omega)]; exact Prod.ext c10.1.symm (by show (2 * i + 4268 - 4268) / 2 = i; omega)
  rw [if_neg c10] at h ⊢
  by_cases c11 : a = 215 ∧ i < 96
  · rw [if_pos c11]; unfold gInv; rw [if_neg (by omega), if_neg (by omega), if_neg (by omega), if_neg (by omega)]; exact Prod.ext c11.1.symm (by show (2 * i + 4269 - 4268) / 2 = i; omega)
  rw [if_neg c11] at h
  omega
theorem gPos_inj {a i a' i' : Nat} (h : gPos a i < 9999) (e : gPos a' i' = gPos a i) : a' = a ∧ i' = i := by
  have h1 := gInv_s h
  have h2 := gInv_s (a := a') (i := i') (by omega)
  rw [e, h1] at h2
  exact ⟨(congrArg Prod.fst h2).symm, (congrArg Prod.snd h2).symm⟩
/-- an image is being taken: so far -/
def gTk (M M1 : Nat → Nat → Int32) (t : Nat) : Prop := (∀ a, a ≠ 188 → a ≠ 229 → M1 a = M a) ∧ (∀ f, f ≠ 79 → M1 188 f = M 188 f) ∧ (M1 188 79).toInt = t ∧ (∀ a i, gPos a i < t → M1 229 (gPos a i) = M a i) ∧ (∀ j, t ≤ j → M1 229 j = M 229 j)
/-- gone back to: so far (the next place, what has been written) -/
def gBk_ (M M1 : Nat → Nat → Int32) (t w : Nat) : Prop := (∀ f, f ≠ 79 → M1 188 f = M 188 f) ∧ (M1 188 79).toInt = t ∧ (∀ a i, a ≠ 188 → M1 a i = if gPos a i < w then M 229 (gPos a i) else M a i)
theorem aPut_id {M : Nat → Nat → Int32} {a j : Nat} {x : Int32} (h : M a j = x) : aPut M a j x = M := by
  funext b i
  unfold aPut
  by_cases e : b = a
  · rw [if_pos e]
    by_cases e2 : i = j
    · rw [if_pos e2, e, e2, h]
    · rw [if_neg e2]
  · rw [if_neg e]
theorem gTk_id {M M1 : Nat → Nat → Int32} {t a j : Nat} {x : Int32} (h : gTk M M1 t) (ha : a ≠ 188) (hb : a ≠ 229) (e : M a j = x) : gTk M (aPut M1 a j x) t := by
  rw [aPut_id (by rw [h.1 a ha hb]; exact e)]
  exact h
theorem gBk_wr {M M1 : Nat → Nat → Int32} {t w a j : Nat} {x : Int32} (h : gBk_ M M1 t w) (ha : a ≠ 188) (hp : gPos a j = w) (hw : w < 9999) (e : x = M 229 w) : gBk_ M (aPut M1 a j x) t (w + 1) := by
  obtain ⟨h1, h2, h3⟩ := h
  refine ⟨fun f hf => ?_, ?_, fun b i hb => ?_⟩
  · rw [aPut_o (by omega)]; exact h1 f hf
  · rw [aPut_o (by omega)]; exact h2
  · by_cases q : b = a ∧ i = j
    · obtain ⟨q1, q2⟩ := q
      subst q1
      subst q2
      rw [aPut_e, if_pos (by omega), hp, e]
    · have e1 : aPut M1 a j x b i = M1 b i := by
        unfold aPut
        by_cases q1 : b = a
        · rw [if_pos q1, if_neg (fun z => q ⟨q1, z⟩)]
        · rw [if_neg q1]
      rw [e1, h3 b i hb]
      have hne : gPos b i ≠ w := fun z => q (gPos_inj (by omega) (z.trans hp.symm))
      by_cases q3 : gPos b i < w
      · rw [if_pos q3, if_pos (by omega)]
      · rw [if_neg q3, if_neg (by omega)]

theorem h132_p {X : aX} {d : Nat} {k : Nat → aK} (hk : gKs k) {M M1 : Nat → Nat → Int32} {t a0 j0 : Nat} {v : Int} (h : gTk M M1 t) (hP : (M 188 69).toInt = 1) (hp : gPos a0 j0 = t) (ht : t < 4460) (hv : v = (M a0 j0).toInt) :
    zRn X (d + 1) 132 [.ref 188, iv v] (gH k M1) (fun rv h' => ∃ M2, rv = some (iv v) ∧ h' = gH k M2 ∧ gTk M M2 (t + 1)) := by
  have hP1 : (M1 188 69).toInt = 1 := by rw [h.2.1 69 (by decide), hP]
  have hT := h.2.2.1
  refine wEnt (n := 2) (ls := [.ref 188, iv v]) bk_132_0 (by decide +kernel) rfl rfl rfl ?_
  refine wP (ls' := [.ref 188, iv v]) (st' := [.ref 188]) rfl rfl ?_
  refine wP (ls' := [.ref 188, iv v]) (st' := [.ref 188, .ref 188]) rfl rfl ?_
  refine wGetN hk (f := 79) (e := (M1 188 79).toInt) (by decide +kernel) (iE _) ?_
  refine wP (ls' := [.ref 188, iv v]) (st' := [iv 1, iv (M1 188 79).toInt, .ref 188]) rfl rfl ?_
  refine wAdd ?_
  refine wPutN hk (f := 79) (by decide +kernel) (Or.inl rfl) ?_
  refine wP (ls' := [.ref 188, iv v]) (st' := [.ref 188]) rfl rfl ?_
  refine wGetN hk (f := 69) (e := (M1 188 69).toInt) (by decide +kernel) (by rw [aPut_f (by decide)]; exact iE _) ?_
  refine wIf0 (n1 := 2) rfl bk_132_2 bk_132_1 (by first | exact iG _ | omega) (fun g0 => ?_) (fun g0 => ?_)
  · replace g0 : ¬ (M1 188 69).toInt = 0 := g0
    refine wP (ls' := [.ref 188, iv v]) (st' := [.ref 188]) rfl rfl ?_
    refine wGetR hk (r := 229) (by decide +kernel) ?_
    refine wP (ls' := [.ref 188, iv v]) (st' := [.ref 188, .ref 229]) rfl rfl ?_
    refine wGetN hk (f := 79) (e := ((M1 188 79).toInt + 1)) (by decide +kernel) (by rw [aPut_e]) ?_
    refine wP (ls' := [.ref 188, iv v]) (st' := [iv 1, iv ((M1 188 79).toInt + 1), .ref 229]) rfl rfl ?_
    refine wSub ?_
    refine wP (ls' := [.ref 188, iv v]) (st' := [iv v, iv (((M1 188 79).toInt + 1) - 1), .ref 229]) rfl rfl ?_
    refine wIst hk (l := 8600) (by decide +kernel) (by omega) (by omega) ?_
    refine wP (ls' := [.ref 188, iv v]) (st' := [iv v]) rfl rfl ?_
    refine wIret (Or.inl (by decide +kernel)) ⟨_, rfl, rfl, fun a a1 a2 => ?_, fun f hf => ?_, ?_, fun a i hi => ?_, fun j hj => ?_⟩
    · rw [aPut_r a2, aPut_r a1]; exact h.1 a a1 a2
    · rw [aPut_o (by decide), aPut_f hf]; exact h.2.1 f hf
    · rw [aPut_o (by decide), aPut_e, iR (by omega) (by omega)]; omega
    · by_cases q : gPos a i = t
      · rw [show ((M1 188 79).toInt + 1 - 1).toNat = t by omega, q, aPut_e]
        obtain ⟨q1, q2⟩ := gPos_inj (by omega) (q.trans hp.symm)
        rw [q1, q2, hv, ← iE]
      · rw [aPut_f (by omega), aPut_o (by decide)]
        exact h.2.2.2.1 a i (by omega)
    · rw [aPut_f (by omega), aPut_o (by decide)]
      exact h.2.2.2.2 j (by omega)
  · replace g0 : ¬ (¬ (M1 188 69).toInt = 0) := g0
    exact absurd g0 (by omega)
theorem h132_b {X : aX} {d : Nat} {k : Nat → aK} (hk : gKs k) {M M1 : Nat → Nat → Int32} {t : Nat} {v : Int} (h : gBk_ M M1 t t) (hP : (M 188 69).toInt = 0) (ht : t < 4460) :
    zRn X (d + 1) 132 [.ref 188, iv v] (gH k M1) (fun rv h' => ∃ M2, rv = some (iv (M 229 t).toInt) ∧ h' = gH k M2 ∧ gBk_ M M2 (t + 1) t) := by
  have hP1 : (M1 188 69).toInt = 0 := by rw [h.1 69 (by decide), hP]
  have hT := h.2.1
  refine wEnt (n := 2) (ls := [.ref 188, iv v]) bk_132_0 (by decide +kernel) rfl rfl rfl ?_
  refine wP (ls' := [.ref 188, iv v]) (st' := [.ref 188]) rfl rfl ?_
  refine wP (ls' := [.ref 188, iv v]) (st' := [.ref 188, .ref 188]) rfl rfl ?_
  refine wGetN hk (f := 79) (e := (M1 188 79).toInt) (by decide +kernel) (iE _) ?_
  refine wP (ls' := [.ref 188, iv v]) (st' := [iv 1, iv (M1 188 79).toInt, .ref 188]) rfl rfl ?_
  refine wAdd ?_
  refine wPutN hk (f := 79) (by decide +kernel) (Or.inl rfl) ?_
  refine wP (ls' := [.ref 188, iv v]) (st' := [.ref 188]) rfl rfl ?_
  refine wGetN hk (f := 69) (e := (M1 188 69).toInt) (by decide +kernel) (by rw [aPut_f (by decide)]; exact iE _) ?_
  refine wIf0 (n1 := 2) rfl bk_132_2 bk_132_1 (by first | exact iG _ | omega) (fun g0 => ?_) (fun g0 => ?_)
  · replace g0 : ¬ (M1 188 69).toInt = 0 := g0
    exact absurd g0 (by omega)
  · replace g0 : ¬ (¬ (M1 188 69).toInt = 0) := g0
    refine wP (ls' := [.ref 188, iv v]) (st' := [.ref 188]) rfl rfl ?_
    refine wGetR hk (r := 229) (by decide +kernel) ?_
    refine wP (ls' := [.ref 188, iv v]) (st' := [.ref 188, .ref 229]) rfl rfl ?_
    refine wGetN hk (f := 79) (e := ((M1 188 79).toInt + 1)) (by decide +kernel) (by rw [aPut_e]) ?_
    refine wP (ls' := [.ref 188, iv v]) (st' := [iv 1, iv ((M1 188 79).toInt + 1), .ref 229]) rfl rfl ?_
    refine wSub ?_
    refine wIld hk (l := 8600) (e := (M1 229 ((((M1 188 79).toInt + 1) - 1)).toNat).toInt) (by decide +kernel) (by omega) (by omega) (by rw [aPut_o (by decide)]; exact iE _) ?_
    refine wIret (Or.inl (by decide +kernel)) ⟨_, ?_, rfl, fun f hf => ?_, ?_, fun a i ha => ?_⟩
    · rw [show ((M1 188 79).toInt + 1 - 1).toNat = t by omega, h.2.2 229 t (by decide), if_neg (by unfold gPos; simp; omega)]
    · rw [aPut_f hf]; exact h.1 f hf
    · rw [aPut_e, iR (by omega) (by omega)]; omega
    · rw [aPut_o ha]; exact h.2.2 a i ha
theorem gPos_204 {i : Nat} (h : i < 4) : gPos 204 i = 3 * i := by unfold gPos; simp [h]
theorem gPos_209 {i : Nat} (h : i < 4) : gPos 209 i = 3 * i + 1 := by unfold gPos; simp [h]
theorem gPos_213 {i : Nat} (h : i < 4) : gPos 213 i = 3 * i + 2 := by unfold gPos; simp [h]
theorem gPos_205 {i : Nat} (h : i < 64) : gPos 205 i = 4 * i + 12 := by unfold gPos; simp [h]
theorem gPos_206 {i : Nat} (h : i < 64) : gPos 206 i = 4 * i + 13 := by unfold gPos; simp [h]
theorem gPos_207 {i : Nat} (h : i < 64) : gPos 207 i = 4 * i + 14 := by unfold gPos; simp [h]
theorem gPos_208 {i : Nat} (h : i < 64) : gPos 208 i = 4 * i + 15 := by unfold gPos; simp [h]
theorem gPos_210 {i : Nat} (h : i < 2000) : gPos 210 i = 2 * i + 268 := by unfold gPos; simp [h]
theorem gPos_211 {i : Nat} (h : i < 2000) : gPos 211 i = 2 * i + 269 := by unfold gPos; simp [h]
theorem gPos_214 {i : Nat} (h : i < 96) : gPos 214 i = 2 * i + 4268 := by unfold gPos; simp [h]
theorem gPos_215 {i : Nat} (h : i < 96) : gPos 215 i = 2 * i + 4269 := by unfold gPos; simp [h]
theorem h133_p0 {X : aX} {d : Nat} {k : Nat → aK} (hk : gKs k) {M : Nat → Nat → Int32} (hP : (M 188 69).toInt = 1) {Q : Option Value → aH → Prop} (hx : ∀ (i1 : Int) (M1 : Nat → Nat → Int32), -2147483648 ≤ i1 ∧ i1 ≤ 2147483647 → gTk M M1 (3 * 4 + 0) → zW X (d + 1) 133 3 [.bipush 0, .istore 1] [.ref 188, iv i1] [] (gH k M1) Q) :
    ∀ (m n : Nat) (i1 : Int) (M1 : Nat → Nat → Int32), n + m = 4 → i1 = n → gTk M M1 (3 * n + 0) → zW X (d + 1) 133 1 [.iload 1, .bipush 4, .if_icmp .ge 3] [.ref 188, iv i1] [] (gH k M1) Q := by
  intro m
  induction m with
  | zero =>
    intro n i1 M1 hnm h1 hI
    refine wP (ls' := [.ref 188, iv i1]) (st' := [iv i1]) rfl rfl ?_
    refine wP (ls' := [.ref 188, iv i1]) (st' := [iv 4, iv i1]) rfl rfl ?_
    refine wIfc (n1 := 3) rfl bk_133_3 bk_133_2 (by omega) (by omega) (fun g0 => ?_) (fun g0 => ?_)
    · replace g0 : 4 ≤ i1 := g0
      exact hx i1 M1 (by omega) (by rw [show n = 4 by omega] at hI; exact hI)
    · replace g0 : ¬ (4 ≤ i1) := g0
      exact absurd g0 (by omega)
  | succ m ih =>
    intro n i1 M1 hnm h1 hI
    have en : (i1).toNat = n := by omega
    refine wP (ls' := [.ref 188, iv i1]) (st' := [iv i1]) rfl rfl ?_
    refine wP (ls' := [.ref 188, iv i1]) (st' := [iv 4, iv i1]) rfl rfl ?_
    refine wIfc (n1 := 3) rfl bk_133_3 bk_133_2 (by omega) (by omega) (fun g0 => ?_) (fun g0 => ?_)
    · replace g0 : 4 ≤ i1 := g0
      exact absurd g0 (by omega)
    · replace g0 : ¬ (4 ≤ i1) := g0
      refine wP (ls' := [.ref 188, iv i1]) (st' := [.ref 188]) rfl rfl ?_
      refine wGetR hk (r := 204) (by decide +kernel) ?_
      refine wP (ls' := [.ref 188, iv i1]) (st' := [iv i1, .ref 204]) rfl rfl ?_
      refine wP (ls' := [.ref 188, iv i1]) (st' := [.ref 188, iv i1, .ref 204]) rfl rfl ?_
      refine wP (ls' := [.ref 188, iv i1]) (st' := [.ref 188, .ref 188, iv i1, .ref 204]) rfl rfl ?_
      refine wGetR hk (r := 204) (by decide +kernel) ?_
      refine wP (ls' := [.ref 188, iv i1]) (st' := [iv i1, .ref 204, .ref 188, iv i1, .ref 204]) rfl rfl ?_
      refine wIld hk (l := 5) (e := (M1 204 (i1).toNat).toInt) (by decide +kernel) (by omega) (by omega) (iE _) ?_
      refine wCall hk (q := 132) (na := 1) (a := 188) (as := [iv (M1 204 (i1).toNat).toInt]) (t := [iv i1, .ref 204]) rfl (by decide +kernel) (by decide) (by decide +kernel) (Nat.le_of_ble_eq_true rfl) rfl rfl (zRn.mono (h132_p hk (a0 := 204) (j0 := n) (t := 3 * n + 0 + 0) hI hP (by rw [gPos_204 (by omega)] <;> omega) (by omega) (by rw [hI.1 204 (by decide) (by decide), en])) (fun rv h' hq => ?_))
      obtain ⟨N0, rfl, rfl, H0⟩ := hq
      refine ⟨rfl, ?_⟩
      show zW X _ 133 2 [.iastore, .aload 0, .getfield 127712142, .iload 1, .aload 0, .aload 0, .getfield 127712142, .iload 1, .iaload, .invokevirtual 1859132, .iastore, .aload 0, .getfield 128812186, .iload 1, .aload 0, .aload 0, .getfield 128812186, .iload 1, .iaload, .invokevirtual 1859132, .iastore, .iinc 1 1, .goto 1] [.ref 188, iv i1] [iv (M1 204 (i1).toNat).toInt, iv i1, .ref 204] (gH k N0) _
      refine wIst hk (l := 5) (by decide +kernel) (by omega) (by omega) ?_
      refine wP (ls' := [.ref 188, iv i1]) (st' := [.ref 188]) rfl rfl ?_
      refine wGetR hk (r := 209) (by decide +kernel) ?_
      refine wP (ls' := [.ref 188, iv i1]) (st' := [iv i1, .ref 209]) rfl rfl ?_
      refine wP (ls' := [.ref 188, iv i1]) (st' := [.ref 188, iv i1, .ref 209]) rfl rfl ?_
      refine wP (ls' := [.ref 188, iv i1]) (st' := [.ref 188, .ref 188, iv i1, .ref 209]) rfl rfl ?_
      refine wGetR hk (r := 209) (by decide +kernel) ?_
      refine wP (ls' := [.ref 188, iv i1]) (st' := [iv i1, .ref 209, .ref 188, iv i1, .ref 209]) rfl rfl ?_
      refine wIld hk (l := 5) (e := (N0 209 (i1).toNat).toInt) (by decide +kernel) (by omega) (by omega) (by rw [aPut_o (by decide)]; exact iE _) ?_
      refine wCall hk (q := 132) (na := 1) (a := 188) (as := [iv (N0 209 (i1).toNat).toInt]) (t := [iv i1, .ref 209]) rfl (by decide +kernel) (by decide) (by decide +kernel) (Nat.le_of_ble_eq_true rfl) rfl rfl (zRn.mono (h132_p hk (a0 := 209) (j0 := n) (t := 3 * n + 0 + 1) (gTk_id H0 (by decide) (by decide) (by rw [hI.1 204 (by decide) (by decide), en]; exact iE _)) hP (by rw [gPos_209 (by omega)] <;> omega) (by omega) (by rw [H0.1 209 (by decide) (by decide), en])) (fun rv h' hq => ?_))
      obtain ⟨N1, rfl, rfl, H1⟩ := hq
      refine ⟨rfl, ?_⟩
      show zW X _ 133 2 [.iastore, .aload 0, .getfield 128812186, .iload 1, .aload 0, .aload 0, .getfield 128812186, .iload 1, .iaload, .invokevirtual 1859132, .iastore, .iinc 1 1, .goto 1] [.ref 188, iv i1] [iv (N0 209 (i1).toNat).toInt, iv i1, .ref 209] (gH k N1) _
      refine wIst hk (l := 5) (by decide +kernel) (by omega) (by omega) ?_
      refine wP (ls' := [.ref 188, iv i1]) (st' := [.ref 188]) rfl rfl ?_
      refine wGetR hk (r := 213) (by decide +kernel) ?_
      refine wP (ls' := [.ref 188, iv i1]) (st' := [iv i1, .ref 213]) rfl rfl ?_
      refine wP (ls' := [.ref 188, iv i1]) (st' := [.ref 188, iv i1, .ref 213]) rfl rfl ?_
      refine wP (ls' := [.ref 188, iv i1]) (st' := [.ref 188, .ref 188, iv i1, .ref 213]) rfl rfl ?_
      refine wGetR hk (r := 213) (by decide +kernel) ?_
      refine wP (ls' := [.ref 188, iv i1]) (st' := [iv i1, .ref 213, .ref 188, iv i1, .ref 213]) rfl rfl ?_
      refine wIld hk (l := 5) (e := (N1 213 (i1).toNat).toInt) (by decide +kernel) (by omega) (by omega) (by rw [aPut_o (by decide)]; exact iE _) ?_
      refine wCall hk (q := 132) (na := 1) (a := 188) (as := [iv (N1 213 (i1).toNat).toInt]) (t := [iv i1, .ref 213]) rfl (by decide +kernel) (by decide) (by decide +kernel) (Nat.le_of_ble_eq_true rfl) rfl rfl (zRn.mono (h132_p hk (a0 := 213) (j0 := n) (t := 3 * n + 0 + 2) (gTk_id H1 (by decide) (by decide) (by rw [H0.1 209 (by decide) (by decide), en]; exact iE _)) hP (by rw [gPos_213 (by omega)] <;> omega) (by omega) (by rw [H1.1 213 (by decide) (by decide), en])) (fun rv h' hq => ?_))
      obtain ⟨N2, rfl, rfl, H2⟩ := hq
      refine ⟨rfl, ?_⟩
      show zW X _ 133 2 [.iastore, .iinc 1 1, .goto 1] [.ref 188, iv i1] [iv (N1 213 (i1).toNat).toInt, iv i1, .ref 213] (gH k N2) _
      refine wIst hk (l := 5) (by decide +kernel) (by omega) (by omega) ?_
      refine wInc (ls' := [.ref 188, iv (i1 + 1)]) rfl rfl ?_
      refine wGoto (n1 := 1) rfl bk_133_1 ?_
      exact ih (n + 1) (i1 + 1) (aPut N2 213 (i1).toNat (Int32.ofInt (N1 213 (i1).toNat).toInt)) (by omega) (by omega) (by rw [show 3 * (n + 1) + 0 = 3 * n + 0 + 2 + 1 by omega]; exact (gTk_id H2 (by decide) (by decide) (by rw [H1.1 213 (by decide) (by decide), en]; exact iE _)))
theorem h133_p1 {X : aX} {d : Nat} {k : Nat → aK} (hk : gKs k) {M : Nat → Nat → Int32} (hP : (M 188 69).toInt = 1) {Q : Option Value → aH → Prop} (hx : ∀ (i1 : Int) (M1 : Nat → Nat → Int32), -2147483648 ≤ i1 ∧ i1 ≤ 2147483647 → gTk M M1 (4 * 64 + 12) → zW X (d + 1) 133 6 [.bipush 0, .istore 1] [.ref 188, iv i1] [] (gH k M1) Q) :
    ∀ (m n : Nat) (i1 : Int) (M1 : Nat → Nat → Int32), n + m = 64 → i1 = n → gTk M M1 (4 * n + 12) → zW X (d + 1) 133 4 [.iload 1, .bipush 64, .if_icmp .ge 6] [.ref 188, iv i1] [] (gH k M1) Q := by
  intro m
  induction m with
  | zero =>
    intro n i1 M1 hnm h1 hI
    refine wP (ls' := [.ref 188, iv i1]) (st' := [iv i1]) rfl rfl ?_
    refine wP (ls' := [.ref 188, iv i1]) (st' := [iv 64, iv i1]) rfl rfl ?_
    refine wIfc (n1 := 6) rfl bk_133_6 bk_133_5 (by omega) (by omega) (fun g0 => ?_) (fun g0 => ?_)
    · replace g0 : 64 ≤ i1 := g0
      exact hx i1 M1 (by omega) (by rw [show n = 64 by omega] at hI; exact hI)
    · replace g0 : ¬ (64 ≤ i1) := g0
      exact absurd g0 (by omega)
  | succ m ih =>
    intro n i1 M1 hnm h1 hI
    have en : (i1).toNat = n := by omega
    refine wP (ls' := [.ref 188, iv i1]) (st' := [iv i1]) rfl rfl ?_
    refine wP (ls' := [.ref 188, iv i1]) (st' := [iv 64, iv i1]) rfl rfl ?_
    refine wIfc (n1 := 6) rfl bk_133_6 bk_133_5 (by omega) (by omega) (fun g0 => ?_) (fun g0 => ?_)
    · replace g0 : 64 ≤ i1 := g0
      exact absurd g0 (by omega)
    · replace g0 : ¬ (64 ≤ i1) := g0
      refine wP (ls' := [.ref 188, iv i1]) (st' := [.ref 188]) rfl rfl ?_
      refine wGetR hk (r := 205) (by decide +kernel) ?_
      refine wP (ls' := [.ref 188, iv i1]) (st' := [iv i1, .ref 205]) rfl rfl ?_
      refine wP (ls' := [.ref 188, iv i1]) (st' := [.ref 188, iv i1, .ref 205]) rfl rfl ?_
      refine wP (ls' := [.ref 188, iv i1]) (st' := [.ref 188, .ref 188, iv i1, .ref 205]) rfl rfl ?_
      refine wGetR hk (r := 205) (by decide +kernel) ?_
      refine wP (ls' := [.ref 188, iv i1]) (st' := [iv i1, .ref 205, .ref 188, iv i1, .ref 205]) rfl rfl ?_
      refine wIld hk (l := 80) (e := (M1 205 (i1).toNat).toInt) (by decide +kernel) (by omega) (by omega) (iE _) ?_
      refine wCall hk (q := 132) (na := 1) (a := 188) (as := [iv (M1 205 (i1).toNat).toInt]) (t := [iv i1, .ref 205]) rfl (by decide +kernel) (by decide) (by decide +kernel) (Nat.le_of_ble_eq_true rfl) rfl rfl (zRn.mono (h132_p hk (a0 := 205) (j0 := n) (t := 4 * n + 12 + 0) hI hP (by rw [gPos_205 (by omega)] <;> omega) (by omega) (by rw [hI.1 205 (by decide) (by decide), en])) (fun rv h' hq => ?_))
      obtain ⟨N0, rfl, rfl, H0⟩ := hq
      refine ⟨rfl, ?_⟩
      show zW X _ 133 5 [.iastore, .aload 0, .getfield 127412130, .iload 1, .aload 0, .aload 0, .getfield 127412130, .iload 1, .iaload, .invokevirtual 1859132, .iastore, .aload 0, .getfield 127512134, .iload 1, .aload 0, .aload 0, .getfield 127512134, .iload 1, .iaload, .invokevirtual 1859132, .iastore, .aload 0, .getfield 127612138, .iload 1, .aload 0, .aload 0, .getfield 127612138, .iload 1, .iaload, .invokevirtual 1859132, .iastore, .iinc 1 1, .goto 4] [.ref 188, iv i1] [iv (M1 205 (i1).toNat).toInt, iv i1, .ref 205] (gH k N0) _
      refine wIst hk (l := 80) (by decide +kernel) (by omega) (by omega) ?_
      refine wP (ls' := [.ref 188, iv i1]) (st' := [.ref 188]) rfl rfl ?_
      refine wGetR hk (r := 206) (by decide +kernel) ?_
      refine wP (ls' := [.ref 188, iv i1]) (st' := [iv i1, .ref 206]) rfl rfl ?_
      refine wP (ls' := [.ref 188, iv i1]) (st' := [.ref 188, iv i1, .ref 206]) rfl rfl ?_
      refine wP (ls' := [.ref 188, iv i1]) (st' := [.ref 188, .ref 188, iv i1, .ref 206]) rfl rfl ?_
      refine wGetR hk (r := 206) (by decide +kernel) ?_
      refine wP (ls' := [.ref 188, iv i1]) (st' := [iv i1, .ref 206, .ref 188, iv i1, .ref 206]) rfl rfl ?_
      refine wIld hk (l := 80) (e := (N0 206 (i1).toNat).toInt) (by decide +kernel) (by omega) (by omega) (by rw [aPut_o (by decide)]; exact iE _) ?_
      refine wCall hk (q := 132) (na := 1) (a := 188) (as := [iv (N0 206 (i1).toNat).toInt]) (t := [iv i1, .ref 206]) rfl (by decide +kernel) (by decide) (by decide +kernel) (Nat.le_of_ble_eq_true rfl) rfl rfl (zRn.mono (h132_p hk (a0 := 206) (j0 := n) (t := 4 * n + 12 + 1) (gTk_id H0 (by decide) (by decide) (by rw [hI.1 205 (by decide) (by decide), en]; exact iE _)) hP (by rw [gPos_206 (by omega)] <;> omega) (by omega) (by rw [H0.1 206 (by decide) (by decide), en])) (fun rv h' hq => ?_))
      obtain ⟨N1, rfl, rfl, H1⟩ := hq
      refine ⟨rfl, ?_⟩
      show zW X _ 133 5 [.iastore, .aload 0, .getfield 127512134, .iload 1, .aload 0, .aload 0, .getfield 127512134, .iload 1, .iaload, .invokevirtual 1859132, .iastore, .aload 0, .getfield 127612138, .iload 1, .aload 0, .aload 0, .getfield 127612138, .iload 1, .iaload, .invokevirtual 1859132, .iastore, .iinc 1 1, .goto 4] [.ref 188, iv i1] [iv (N0 206 (i1).toNat).toInt, iv i1, .ref 206] (gH k N1) _
      refine wIst hk (l := 80) (by decide +kernel) (by omega) (by omega) ?_
      refine wP (ls' := [.ref 188, iv i1]) (st' := [.ref 188]) rfl rfl ?_
      refine wGetR hk (r := 207) (by decide +kernel) ?_
      refine wP (ls' := [.ref 188, iv i1]) (st' := [iv i1, .ref 207]) rfl rfl ?_
      refine wP (ls' := [.ref 188, iv i1]) (st' := [.ref 188, iv i1, .ref 207]) rfl rfl ?_
      refine wP (ls' := [.ref 188, iv i1]) (st' := [.ref 188, .ref 188, iv i1, .ref 207]) rfl rfl ?_
      refine wGetR hk (r := 207) (by decide +kernel) ?_
      refine wP (ls' := [.ref 188, iv i1]) (st' := [iv i1, .ref 207, .ref 188, iv i1, .ref 207]) rfl rfl ?_
      refine wIld hk (l := 80) (e := (N1 207 (i1).toNat).toInt) (by decide +kernel) (by omega) (by omega) (by rw [aPut_o (by decide)]; exact iE _) ?_
      refine wCall hk (q := 132) (na := 1) (a := 188) (as := [iv (N1 207 (i1).toNat).toInt]) (t := [iv i1, .ref 207]) rfl (by decide +kernel) (by decide) (by decide +kernel) (Nat.le_of_ble_eq_true rfl) rfl rfl (zRn.mono (h132_p hk (a0 := 207) (j0 := n) (t := 4 * n + 12 + 2) (gTk_id H1 (by decide) (by decide) (by rw [H0.1 206 (by decide) (by decide), en]; exact iE _)) hP (by rw [gPos_207 (by omega)] <;> omega) (by omega) (by rw [H1.1 207 (by decide) (by decide), en])) (fun rv h' hq => ?_))
      obtain ⟨N2, rfl, rfl, H2⟩ := hq
      refine ⟨rfl, ?_⟩
      show zW X _ 133 5 [.iastore, .aload 0, .getfield 127612138, .iload 1, .aload 0, .aload 0, .getfield 127612138, .iload 1, .iaload, .invokevirtual 1859132, .iastore, .iinc 1 1, .goto 4] [.ref 188, iv i1] [iv (N1 207 (i1).toNat).toInt, iv i1, .ref 207] (gH k N2) _
      refine wIst hk (l := 80) (by decide +kernel) (by omega) (by omega) ?_
      refine wP (ls' := [.ref 188, iv i1]) (st' := [.ref 188]) rfl rfl ?_
      refine wGetR hk (r := 208) (by decide +kernel) ?_
      refine wP (ls' := [.ref 188, iv i1]) (st' := [iv i1, .ref 208]) rfl rfl ?_
      refine wP (ls' := [.ref 188, iv i1]) (st' := [.ref 188, iv i1, .ref 208]) rfl rfl ?_
      refine wP (ls' := [.ref 188, iv i1]) (st' := [.ref 188, .ref 188, iv i1, .ref 208]) rfl rfl ?_
      refine wGetR hk (r := 208) (by decide +kernel) ?_
      refine wP (ls' := [.ref 188, iv i1]) (st' := [iv i1, .ref 208, .ref 188, iv i1, .ref 208]) rfl rfl ?_
      refine wIld hk (l := 80) (e := (N2 208 (i1).toNat).toInt) (by decide +kernel) (by omega) (by omega) (by rw [aPut_o (by decide)]; exact iE _) ?_
      refine wCall hk (q := 132) (na := 1) (a := 188) (as := [iv (N2 208 (i1).toNat).toInt]) (t := [iv i1, .ref 208]) rfl (by decide +kernel) (by decide) (by decide +kernel) (Nat.le_of_ble_eq_true rfl) rfl rfl (zRn.mono (h132_p hk (a0 := 208) (j0 := n) (t := 4 * n + 12 + 3) (gTk_id H2 (by decide) (by decide) (by rw [H1.1 207 (by decide) (by decide), en]; exact iE _)) hP (by rw [gPos_208 (by omega)] <;> omega) (by omega) (by rw [H2.1 208 (by decide) (by decide), en])) (fun rv h' hq => ?_))
      obtain ⟨N3, rfl, rfl, H3⟩ := hq
      refine ⟨rfl, ?_⟩
      show zW X _ 133 5 [.iastore, .iinc 1 1, .goto 4] [.ref 188, iv i1] [iv (N2 208 (i1).toNat).toInt, iv i1, .ref 208] (gH k N3) _
      refine wIst hk (l := 80) (by decide +kernel) (by omega) (by omega) ?_
      refine wInc (ls' := [.ref 188, iv (i1 + 1)]) rfl rfl ?_
      refine wGoto (n1 := 4) rfl bk_133_4 ?_
      exact ih (n + 1) (i1 + 1) (aPut N3 208 (i1).toNat (Int32.ofInt (N2 208 (i1).toNat).toInt)) (by omega) (by omega) (by rw [show 4 * (n + 1) + 12 = 4 * n + 12 + 3 + 1 by omega]; exact (gTk_id H3 (by decide) (by decide) (by rw [H2.1 208 (by decide) (by decide), en]; exact iE _)))
theorem h133_p2 {X : aX} {d : Nat} {k : Nat → aK} (hk : gKs k) {M : Nat → Nat → Int32} (hP : (M 188 69).toInt = 1) {Q : Option Value → aH → Prop} (hx : ∀ (i1 : Int) (M1 : Nat → Nat → Int32), -2147483648 ≤ i1 ∧ i1 ≤ 2147483647 → gTk M M1 (2 * 2000 + 268) → zW X (d + 1) 133 9 [.bipush 0, .istore 1] [.ref 188, iv i1] [] (gH k M1) Q) :
    ∀ (m n : Nat) (i1 : Int) (M1 : Nat → Nat → Int32), n + m = 2000 → i1 = n → gTk M M1 (2 * n + 268) → zW X (d + 1) 133 7 [.iload 1, .bipush 2000, .if_icmp .ge 9] [.ref 188, iv i1] [] (gH k M1) Q := by
  intro m
  induction m with
  | zero =>
    intro n i1 M1 hnm h1 hI
    refine wP (ls' := [.ref 188, iv i1]) (st' := [iv i1]) rfl rfl ?_
    refine wP (ls' := [.ref 188, iv i1]) (st' := [iv 2000, iv i1]) rfl rfl ?_
    refine wIfc (n1 := 9) rfl bk_133_9 bk_133_8 (by omega) (by omega) (fun g0 => ?_) (fun g0 => ?_)
    · replace g0 : 2000 ≤ i1 := g0
      exact hx i1 M1 (by omega) (by rw [show n = 2000 by omega] at hI; exact hI)
    · replace g0 : ¬ (2000 ≤ i1) := g0
      exact absurd g0 (by omega)
  | succ m ih =>
    intro n i1 M1 hnm h1 hI
    have en : (i1).toNat = n := by omega
    refine wP (ls' := [.ref 188, iv i1]) (st' := [iv i1]) rfl rfl ?_
    refine wP (ls' := [.ref 188, iv i1]) (st' := [iv 2000, iv i1]) rfl rfl ?_
    refine wIfc (n1 := 9) rfl bk_133_9 bk_133_8 (by omega) (by omega) (fun g0 => ?_) (fun g0 => ?_)
    · replace g0 : 2000 ≤ i1 := g0
      exact absurd g0 (by omega)
    · replace g0 : ¬ (2000 ≤ i1) := g0
      refine wP (ls' := [.ref 188, iv i1]) (st' := [.ref 188]) rfl rfl ?_
      refine wGetR hk (r := 210) (by decide +kernel) ?_
      refine wP (ls' := [.ref 188, iv i1]) (st' := [iv i1, .ref 210]) rfl rfl ?_
      refine wP (ls' := [.ref 188, iv i1]) (st' := [.ref 188, iv i1, .ref 210]) rfl rfl ?_
      refine wP (ls' := [.ref 188, iv i1]) (st' := [.ref 188, .ref 188, iv i1, .ref 210]) rfl rfl ?_
      refine wGetR hk (r := 210) (by decide +kernel) ?_
      refine wP (ls' := [.ref 188, iv i1]) (st' := [iv i1, .ref 210, .ref 188, iv i1, .ref 210]) rfl rfl ?_
      refine wIld hk (l := 2500) (e := (M1 210 (i1).toNat).toInt) (by decide +kernel) (by omega) (by omega) (iE _) ?_
      refine wCall hk (q := 132) (na := 1) (a := 188) (as := [iv (M1 210 (i1).toNat).toInt]) (t := [iv i1, .ref 210]) rfl (by decide +kernel) (by decide) (by decide +kernel) (Nat.le_of_ble_eq_true rfl) rfl rfl (zRn.mono (h132_p hk (a0 := 210) (j0 := n) (t := 2 * n + 268 + 0) hI hP (by rw [gPos_210 (by omega)] <;> omega) (by omega) (by rw [hI.1 210 (by decide) (by decide), en])) (fun rv h' hq => ?_))
      obtain ⟨N0, rfl, rfl, H0⟩ := hq
      refine ⟨rfl, ?_⟩
      show zW X _ 133 8 [.iastore, .aload 0, .getfield 127912150, .iload 1, .aload 0, .aload 0, .getfield 127912150, .iload 1, .iaload, .invokevirtual 1859132, .iastore, .iinc 1 1, .goto 7] [.ref 188, iv i1] [iv (M1 210 (i1).toNat).toInt, iv i1, .ref 210] (gH k N0) _
      refine wIst hk (l := 2500) (by decide +kernel) (by omega) (by omega) ?_
      refine wP (ls' := [.ref 188, iv i1]) (st' := [.ref 188]) rfl rfl ?_
      refine wGetR hk (r := 211) (by decide +kernel) ?_
      refine wP (ls' := [.ref 188, iv i1]) (st' := [iv i1, .ref 211]) rfl rfl ?_
      refine wP (ls' := [.ref 188, iv i1]) (st' := [.ref 188, iv i1, .ref 211]) rfl rfl ?_
      refine wP (ls' := [.ref 188, iv i1]) (st' := [.ref 188, .ref 188, iv i1, .ref 211]) rfl rfl ?_
      refine wGetR hk (r := 211) (by decide +kernel) ?_
      refine wP (ls' := [.ref 188, iv i1]) (st' := [iv i1, .ref 211, .ref 188, iv i1, .ref 211]) rfl rfl ?_
      refine wIld hk (l := 2500) (e := (N0 211 (i1).toNat).toInt) (by decide +kernel) (by omega) (by omega) (by rw [aPut_o (by decide)]; exact iE _) ?_
      refine wCall hk (q := 132) (na := 1) (a := 188) (as := [iv (N0 211 (i1).toNat).toInt]) (t := [iv i1, .ref 211]) rfl (by decide +kernel) (by decide) (by decide +kernel) (Nat.le_of_ble_eq_true rfl) rfl rfl (zRn.mono (h132_p hk (a0 := 211) (j0 := n) (t := 2 * n + 268 + 1) (gTk_id H0 (by decide) (by decide) (by rw [hI.1 210 (by decide) (by decide), en]; exact iE _)) hP (by rw [gPos_211 (by omega)] <;> omega) (by omega) (by rw [H0.1 211 (by decide) (by decide), en])) (fun rv h' hq => ?_))
      obtain ⟨N1, rfl, rfl, H1⟩ := hq
      refine ⟨rfl, ?_⟩
      show zW X _ 133 8 [.iastore, .iinc 1 1, .goto 7] [.ref 188, iv i1] [iv (N0 211 (i1).toNat).toInt, iv i1, .ref 211] (gH k N1) _
      refine wIst hk (l := 2500) (by decide +kernel) (by omega) (by omega) ?_
      refine wInc (ls' := [.ref 188, iv (i1 + 1)]) rfl rfl ?_
      refine wGoto (n1 := 7) rfl bk_133_7 ?_
      exact ih (n + 1) (i1 + 1) (aPut N1 211 (i1).toNat (Int32.ofInt (N0 211 (i1).toNat).toInt)) (by omega) (by omega) (by rw [show 2 * (n + 1) + 268 = 2 * n + 268 + 1 + 1 by omega]; exact (gTk_id H1 (by decide) (by decide) (by rw [H0.1 211 (by decide) (by decide), en]; exact iE _)))
theorem h133_p3 {X : aX} {d : Nat} {k : Nat → aK} (hk : gKs k) {M : Nat → Nat → Int32} (hP : (M 188 69).toInt = 1) {Q : Option Value → aH → Prop} (hx : ∀ (i1 : Int) (M1 : Nat → Nat → Int32), -2147483648 ≤ i1 ∧ i1 ≤ 2147483647 → gTk M M1 (2 * 96 + 4268) → zW X (d + 1) 133 12 [.return_] [.ref 188, iv i1] [] (gH k M1) Q) :
    ∀ (m n : Nat) (i1 : Int) (M1 : Nat → Nat → Int32), n + m = 96 → i1 = n → gTk M M1 (2 * n + 4268) → zW X (d + 1) 133 10 [.iload 1, .bipush 96, .if_icmp .ge 12] [.ref 188, iv i1] [] (gH k M1) Q := by
  intro m
  induction m with
  | zero =>
    intro n i1 M1 hnm h1 hI
    refine wP (ls' := [.ref 188, iv i1]) (st' := [iv i1]) rfl rfl ?_
    refine wP (ls' := [.ref 188, iv i1]) (st' := [iv 96, iv i1]) rfl rfl ?_
    refine wIfc (n1 := 12) rfl bk_133_12 bk_133_11 (by omega) (by omega) (fun g0 => ?_) (fun g0 => ?_)
    · replace g0 : 96 ≤ i1 := g0
      exact hx i1 M1 (by omega) (by rw [show n = 96 by omega] at hI; exact hI)
    · replace g0 : ¬ (96 ≤ i1) := g0
      exact absurd g0 (by omega)
  | succ m ih =>
    intro n i1 M1 hnm h1 hI
    have en : (i1).toNat = n := by omega
    refine wP (ls' := [.ref 188, iv i1]) (st' := [iv i1]) rfl rfl ?_
    refine wP (ls' := [.ref 188, iv i1]) (st' := [iv 96, iv i1]) rfl rfl ?_
    refine wIfc (n1 := 12) rfl bk_133_12 bk_133_11 (by omega) (by omega) (fun g0 => ?_) (fun g0 => ?_)
    · replace g0 : 96 ≤ i1 := g0
      exact absurd g0 (by omega)
    · replace g0 : ¬ (96 ≤ i1) := g0
      refine wP (ls' := [.ref 188, iv i1]) (st' := [.ref 188]) rfl rfl ?_
      refine wGetR hk (r := 214) (by decide +kernel) ?_
      refine wP (ls' := [.ref 188, iv i1]) (st' := [iv i1, .ref 214]) rfl rfl ?_
      refine wP (ls' := [.ref 188, iv i1]) (st' := [.ref 188, iv i1, .ref 214]) rfl rfl ?_
      refine wP (ls' := [.ref 188, iv i1]) (st' := [.ref 188, .ref 188, iv i1, .ref 214]) rfl rfl ?_
      refine wGetR hk (r := 214) (by decide +kernel) ?_
      refine wP (ls' := [.ref 188, iv i1]) (st' := [iv i1, .ref 214, .ref 188, iv i1, .ref 214]) rfl rfl ?_
      refine wIld hk (l := 120) (e := (M1 214 (i1).toNat).toInt) (by decide +kernel) (by omega) (by omega) (iE _) ?_
      refine wCall hk (q := 132) (na := 1) (a := 188) (as := [iv (M1 214 (i1).toNat).toInt]) (t := [iv i1, .ref 214]) rfl (by decide +kernel) (by decide) (by decide +kernel) (Nat.le_of_ble_eq_true rfl) rfl rfl (zRn.mono (h132_p hk (a0 := 214) (j0 := n) (t := 2 * n + 4268 + 0) hI hP (by rw [gPos_214 (by omega)] <;> omega) (by omega) (by rw [hI.1 214 (by decide) (by decide), en])) (fun rv h' hq => ?_))
      obtain ⟨N0, rfl, rfl, H0⟩ := hq
      refine ⟨rfl, ?_⟩
      show zW X _ 133 11 [.iastore, .aload 0, .getfield 129012194, .iload 1, .aload 0, .aload 0, .getfield 129012194, .iload 1, .iaload, .invokevirtual 1859132, .iastore, .iinc 1 1, .goto 10] [.ref 188, iv i1] [iv (M1 214 (i1).toNat).toInt, iv i1, .ref 214] (gH k N0) _
      refine wIst hk (l := 120) (by decide +kernel) (by omega) (by omega) ?_
      refine wP (ls' := [.ref 188, iv i1]) (st' := [.ref 188]) rfl rfl ?_
      refine wGetR hk (r := 215) (by decide +kernel) ?_
      refine wP (ls' := [.ref 188, iv i1]) (st' := [iv i1, .ref 215]) rfl rfl ?_
      refine wP (ls' := [.ref 188, iv i1]) (st' := [.ref 188, iv i1, .ref 215]) rfl rfl ?_
      refine wP (ls' := [.ref 188, iv i1]) (st' := [.ref 188, .ref 188, iv i1, .ref 215]) rfl rfl ?_
      refine wGetR hk (r := 215) (by decide +kernel) ?_
      refine wP (ls' := [.ref 188, iv i1]) (st' := [iv i1, .ref 215, .ref 188, iv i1, .ref 215]) rfl rfl ?_
      refine wIld hk (l := 120) (e := (N0 215 (i1).toNat).toInt) (by decide +kernel) (by omega) (by omega) (by rw [aPut_o (by decide)]; exact iE _) ?_
      refine wCall hk (q := 132) (na := 1) (a := 188) (as := [iv (N0 215 (i1).toNat).toInt]) (t := [iv i1, .ref 215]) rfl (by decide +kernel) (by decide) (by decide +kernel) (Nat.le_of_ble_eq_true rfl) rfl rfl (zRn.mono (h132_p hk (a0 := 215) (j0 := n) (t := 2 * n + 4268 + 1) (gTk_id H0 (by decide) (by decide) (by rw [hI.1 214 (by decide) (by decide), en]; exact iE _)) hP (by rw [gPos_215 (by omega)] <;> omega) (by omega) (by rw [H0.1 215 (by decide) (by decide), en])) (fun rv h' hq => ?_))
      obtain ⟨N1, rfl, rfl, H1⟩ := hq
      refine ⟨rfl, ?_⟩
      show zW X _ 133 11 [.iastore, .iinc 1 1, .goto 10] [.ref 188, iv i1] [iv (N0 215 (i1).toNat).toInt, iv i1, .ref 215] (gH k N1) _
      refine wIst hk (l := 120) (by decide +kernel) (by omega) (by omega) ?_
      refine wInc (ls' := [.ref 188, iv (i1 + 1)]) rfl rfl ?_
      refine wGoto (n1 := 10) rfl bk_133_10 ?_
      exact ih (n + 1) (i1 + 1) (aPut N1 215 (i1).toNat (Int32.ofInt (N0 215 (i1).toNat).toInt)) (by omega) (by omega) (by rw [show 2 * (n + 1) + 4268 = 2 * n + 4268 + 1 + 1 by omega]; exact (gTk_id H1 (by decide) (by decide) (by rw [H0.1 215 (by decide) (by decide), en]; exact iE _)))
theorem h133_b0 {X : aX} {d : Nat} {k : Nat → aK} (hk : gKs k) {M : Nat → Nat → Int32} (hP : (M 188 69).toInt = 0) {Q : Option Value → aH → Prop} (hx : ∀ (i1 : Int) (M1 : Nat → Nat → Int32), -2147483648 ≤ i1 ∧ i1 ≤ 2147483647 → gBk_ M M1 (3 * 4 + 0) (3 * 4 + 0) → zW X (d + 1) 133 3 [.bipush 0, .istore 1] [.ref 188, iv i1] [] (gH k M1) Q) :
    ∀ (m n : Nat) (i1 : Int) (M1 : Nat → Nat → Int32), n + m = 4 → i1 = n → gBk_ M M1 (3 * n + 0) (3 * n + 0) → zW X (d + 1) 133 1 [.iload 1, .bipush 4, .if_icmp .ge 3] [.ref 188, iv i1] [] (gH k M1) Q := by
  intro m
  induction m with
  | zero =>
    intro n i1 M1 hnm h1 hI
    refine wP (ls' := [.ref 188, iv i1]) (st' := [iv i1]) rfl rfl ?_
    refine wP (ls' := [.ref 188, iv i1]) (st' := [iv 4, iv i1]) rfl rfl ?_
    refine wIfc (n1 := 3) rfl bk_133_3 bk_133_2 (by omega) (by omega) (fun g0 => ?_) (fun g0 => ?_)
    · replace g0 : 4 ≤ i1 := g0
      exact hx i1 M1 (by omega) (by rw [show n = 4 by omega] at hI; exact hI)
    · replace g0 : ¬ (4 ≤ i1) := g0
      exact absurd g0 (by omega)
  | succ m ih =>
    intro n i1 M1 hnm h1 hI
    have en : (i1).toNat = n := by omega
    refine wP (ls' := [.ref 188, iv i1]) (st' := [iv i1]) rfl rfl ?_
    refine wP (ls' := [.ref 188, iv i1]) (st' := [iv 4, iv i1]) rfl rfl ?_
    refine wIfc (n1 := 3) rfl bk_133_3 bk_133_2 (by omega) (by omega) (fun g0 => ?_) (fun g0 => ?_)
    · replace g0 : 4 ≤ i1 := g0
      exact absurd g0 (by omega)
    · replace g0 : ¬ (4 ≤ i1) := g0
      refine wP (ls' := [.ref 188, iv i1]) (st' := [.ref 188]) rfl rfl ?_
      refine wGetR hk (r := 204) (by decide +kernel) ?_
      refine wP (ls' := [.ref 188, iv i1]) (st' := [iv i1, .ref 204]) rfl rfl ?_
      refine wP (ls' := [.ref 188, iv i1]) (st' := [.ref 188, iv i1, .ref 204]) rfl rfl ?_
      refine wP (ls' := [.ref 188, iv i1]) (st' := [.ref 188, .ref 188, iv i1, .ref 204]) rfl rfl ?_
      refine wGetR hk (r := 204) (by decide +kernel) ?_
      refine wP (ls' := [.ref 188, iv i1]) (st' := [iv i1, .ref 204, .ref 188, iv i1, .ref 204]) rfl rfl ?_
      refine wIld hk (l := 5) (e := (M1 204 (i1).toNat).toInt) (by decide +kernel) (by omega) (by omega) (iE _) ?_
      refine wCall hk (q := 132) (na := 1) (a := 188) (as := [iv (M1 204 (i1).toNat).toInt]) (t := [iv i1, .ref 204]) rfl (by decide +kernel) (by decide) (by decide +kernel) (Nat.le_of_ble_eq_true rfl) rfl rfl (zRn.mono (h132_b hk (t := 3 * n + 0 + 0) hI hP (by omega)) (fun rv h' hq => ?_))
      obtain ⟨N0, rfl, rfl, H0⟩ := hq
      refine ⟨rfl, ?_⟩
      show zW X _ 133 2 [.iastore, .aload 0, .getfield 127712142, .iload 1, .aload 0, .aload 0, .getfield 127712142, .iload 1, .iaload, .invokevirtual 1859132, .iastore, .aload 0, .getfield 128812186, .iload 1, .aload 0, .aload 0, .getfield 128812186, .iload 1, .iaload, .invokevirtual 1859132, .iastore, .iinc 1 1, .goto 1] [.ref 188, iv i1] [iv (M 229 (3 * n + 0 + 0)).toInt, iv i1, .ref 204] (gH k N0) _
      refine wIst hk (l := 5) (by decide +kernel) (by omega) (by omega) ?_
      refine wP (ls' := [.ref 188, iv i1]) (st' := [.ref 188]) rfl rfl ?_
      refine wGetR hk (r := 209) (by decide +kernel) ?_
      refine wP (ls' := [.ref 188, iv i1]) (st' := [iv i1, .ref 209]) rfl rfl ?_
      refine wP (ls' := [.ref 188, iv i1]) (st' := [.ref 188, iv i1, .ref 209]) rfl rfl ?_
      refine wP (ls' := [.ref 188, iv i1]) (st' := [.ref 188, .ref 188, iv i1, .ref 209]) rfl rfl ?_
      refine wGetR hk (r := 209) (by decide +kernel) ?_
      refine wP (ls' := [.ref 188, iv i1]) (st' := [iv i1, .ref 209, .ref 188, iv i1, .ref 209]) rfl rfl ?_
      refine wIld hk (l := 5) (e := (N0 209 (i1).toNat).toInt) (by decide +kernel) (by omega) (by omega) (by rw [aPut_o (by decide)]; exact iE _) ?_
      refine wCall hk (q := 132) (na := 1) (a := 188) (as := [iv (N0 209 (i1).toNat).toInt]) (t := [iv i1, .ref 209]) rfl (by decide +kernel) (by decide) (by decide +kernel) (Nat.le_of_ble_eq_true rfl) rfl rfl (zRn.mono (h132_b hk (t := 3 * n + 0 + 1) (gBk_wr (w := 3 * n + 0 + 0) H0 (by decide) (by rw [en, gPos_204 (by omega)] <;> omega) (by omega) (iE _).symm) hP (by omega)) (fun rv h' hq => ?_))
      obtain ⟨N1, rfl, rfl, H1⟩ := hq
      refine ⟨rfl, ?_⟩
      show zW X _ 133 2 [.iastore, .aload 0, .getfield 128812186, .iload 1, .aload 0, .aload 0, .getfield 128812186, .iload 1, .iaload, .invokevirtual 1859132, .iastore, .iinc 1 1, .goto 1] [.ref 188, iv i1] [iv (M 229 (3 * n + 0 + 1)).toInt, iv i1, .ref 209] (gH k N1) _
      refine wIst hk (l := 5) (by decide +kernel) (by omega) (by omega) ?_
      refine wP (ls' := [.ref 188, iv i1]) (st' := [.ref 188]) rfl rfl ?_
      refine wGetR hk (r := 213) (by decide +kernel) ?_
      refine wP (ls' := [.ref 188, iv i1]) (st' := [iv i1, .ref 213]) rfl rfl ?_
      refine wP (ls' := [.ref 188, iv i1]) (st' := [.ref 188, iv i1, .ref 213]) rfl rfl ?_
      refine wP (ls' := [.ref 188, iv i1]) (st' := [.ref 188, .ref 188, iv i1, .ref 213]) rfl rfl ?_
      refine wGetR hk (r := 213) (by decide +kernel) ?_
      refine wP (ls' := [.ref 188, iv i1]) (st' := [iv i1, .ref 213, .ref 188, iv i1, .ref 213]) rfl rfl ?_
      refine wIld hk (l := 5) (e := (N1 213 (i1).toNat).toInt) (by decide +kernel) (by omega) (by omega) (by rw [aPut_o (by decide)]; exact iE _) ?_
      refine wCall hk (q := 132) (na := 1) (a := 188) (as := [iv (N1 213 (i1).toNat).toInt]) (t := [iv i1, .ref 213]) rfl (by decide +kernel) (by decide) (by decide +kernel) (Nat.le_of_ble_eq_true rfl) rfl rfl (zRn.mono (h132_b hk (t := 3 * n + 0 + 2) (gBk_wr (w := 3 * n + 0 + 1) H1 (by decide) (by rw [en, gPos_209 (by omega)] <;> omega) (by omega) (iE _).symm) hP (by omega)) (fun rv h' hq => ?_))
      obtain ⟨N2, rfl, rfl, H2⟩ := hq
      refine ⟨rfl, ?_⟩
      show zW X _ 133 2 [.iastore, .iinc 1 1, .goto 1] [.ref 188, iv i1] [iv (M 229 (3 * n + 0 + 2)).toInt, iv i1, .ref 213] (gH k N2) _
      refine wIst hk (l := 5) (by decide +kernel) (by omega) (by omega) ?_
      refine wInc (ls' := [.ref 188, iv (i1 + 1)]) rfl rfl ?_
      refine wGoto (n1 := 1) rfl bk_133_1 ?_
      exact ih (n + 1) (i1 + 1) (aPut N2 213 (i1).toNat (Int32.ofInt (M 229 (3 * n + 0 + 2)).toInt)) (by omega) (by omega) (by rw [show 3 * (n + 1) + 0 = 3 * n + 0 + 2 + 1 by omega]; exact (gBk_wr (w := 3 * n + 0 + 2) H2 (by decide) (by rw [en, gPos_213 (by omega)] <;> omega) (by omega) (iE _).symm))
theorem h133_b1 {X : aX} {d : Nat} {k : Nat → aK} (hk : gKs k) {M : Nat → Nat → Int32} (hP : (M 188 69).toInt = 0) {Q : Option Value → aH → Prop} (hx : ∀ (i1 : Int) (M1 : Nat → Nat → Int32), -2147483648 ≤ i1 ∧ i1 ≤ 2147483647 → gBk_ M M1 (4 * 64 + 12) (4 * 64 + 12) → zW X (d + 1) 133 6 [.bipush 0, .istore 1] [.ref 188, iv i1] [] (gH k M1) Q) :
    ∀ (m n : Nat) (i1 : Int) (M1 : Nat → Nat → Int32), n + m = 64 → i1 = n → gBk_ M M1 (4 * n + 12) (4 * n + 12) → zW X (d + 1) 133 4 [.iload 1, .bipush 64, .if_icmp .ge 6] [.ref 188, iv i1] [] (gH k M1) Q := by
  intro m
  induction m with
  | zero =>
    intro n i1 M1 hnm h1 hI
    refine wP (ls' := [.ref 188, iv i1]) (st' := [iv i1]) rfl rfl ?_
    refine wP (ls' := [.ref 188, iv i1]) (st' := [iv 64, iv i1]) rfl rfl ?_
    refine wIfc (n1 := 6) rfl bk_133_6 bk_133_5 (by omega) (by omega) (fun g0 => ?_) (fun g0 => ?_)
    · replace g0 : 64 ≤ i1 := g0
      exact hx i1 M1 (by omega) (by rw [show n = 64 by omega] at hI; exact hI)
    · replace g0 : ¬ (64 ≤ i1) := g0
      exact absurd g0 (by omega)
  | succ m ih =>
    intro n i1 M1 hnm h1 hI
    have en : (i1).toNat = n := by omega
    refine wP (ls' := [.ref 188, iv i1]) (st' := [iv i1]) rfl rfl ?_
    refine wP (ls' := [.ref 188, iv i1]) (st' := [iv 64, iv i1]) rfl rfl ?_
    refine wIfc (n1 := 6) rfl bk_133_6 bk_133_5 (by omega) (by omega) (fun g0 => ?_) (fun g0 => ?_)
    · replace g0 : 64 ≤ i1 := g0
      exact absurd g0 (by omega)
    · replace g0 : ¬ (64 ≤ i1) := g0
      refine wP (ls' := [.ref 188, iv i1]) (st' := [.ref 188]) rfl rfl ?_
      refine wGetR hk (r := 205) (by decide +kernel) ?_
      refine wP (ls' := [.ref 188, iv i1]) (st' := [iv i1, .ref 205]) rfl rfl ?_
      refine wP (ls' := [.ref 188, iv i1]) (st' := [.ref 188, iv i1, .ref 205]) rfl rfl ?_
      refine wP (ls' := [.ref 188, iv i1]) (st' := [.ref 188, .ref 188, iv i1, .ref 205]) rfl rfl ?_
      refine wGetR hk (r := 205) (by decide +kernel) ?_
      refine wP (ls' := [.ref 188, iv i1]) (st' := [iv i1, .ref 205, .ref 188, iv i1, .ref 205]) rfl rfl ?_
      refine wIld hk (l := 80) (e := (M1 205 (i1).toNat).toInt) (by decide +kernel) (by omega) (by omega) (iE _) ?_
      refine wCall hk (q := 132) (na := 1) (a := 188) (as := [iv (M1 205 (i1).toNat).toInt]) (t := [iv i1, .ref 205]) rfl (by decide +kernel) (by decide) (by decide +kernel) (Nat.le_of_ble_eq_true rfl) rfl rfl (zRn.mono (h132_b hk (t := 4 * n + 12 + 0) hI hP (by omega)) (fun rv h' hq => ?_))
      obtain ⟨N0, rfl, rfl, H0⟩ := hq
      refine ⟨rfl, ?_⟩
      show zW X _ 133 5 [.iastore, .aload 0, .getfield 127412130, .iload 1, .aload 0, .aload 0, .getfield 127412130, .iload 1, .iaload, .invokevirtual 1859132, .iastore, .aload 0, .getfield 127512134, .iload 1, .aload 0, .aload 0, .getfield 127512134, .iload 1, .iaload, .invokevirtual 1859132, .iastore, .aload 0, .getfield 127612138, .iload 1, .aload 0, .aload 0, .getfield 127612138, .iload 1, .iaload, .invokevirtual 1859132, .iastore, .iinc 1 1, .goto 4] [.ref 188, iv i1] [iv (M 229 (4 * n + 12 + 0)).toInt, iv i1, .ref 205] (gH k N0) _
      refine wIst hk (l := 80) (by decide +kernel) (by omega) (by omega) ?_
      refine wP (ls' := [.ref 188, iv i1]) (st' := [.ref 188]) rfl rfl ?_
      refine wGetR hk (r := 206) (by decide +kernel) ?_
      refine wP (ls' := [.ref 188, iv i1]) (st' := [iv i1, .ref 206]) rfl rfl ?_
      refine wP (ls' := [.ref 188, iv i1]) (st' := [.ref 188, iv i1, .ref 206]) rfl rfl ?_
      refine wP (ls' := [.ref 188, iv i1]) (st' := [.ref 188, .ref 188, iv i1, .ref 206]) rfl rfl ?_
      refine wGetR hk (r := 206) (by decide +kernel) ?_
      refine wP (ls' := [.ref 188, iv i1]) (st' := [iv i1, .ref 206, .ref 188, iv i1, .ref 206]) rfl rfl ?_
      refine wIld hk (l := 80) (e := (N0 206 (i1).toNat).toInt) (by decide +kernel) (by omega) (by omega) (by rw [aPut_o (by decide)]; exact iE _) ?_
      refine wCall hk (q := 132) (na := 1) (a := 188) (as := [iv (N0 206 (i1).toNat).toInt]) (t := [iv i1, .ref 206]) rfl (by decide +kernel) (by decide) (by decide +kernel) (Nat.le_of_ble_eq_true rfl) rfl rfl (zRn.mono (h132_b hk (t := 4 * n + 12 + 1) (gBk_wr (w := 4 * n + 12 + 0) H0 (by decide) (by rw [en, gPos_205 (by omega)] <;> omega) (by omega) (iE _).symm) hP (by omega)) (fun rv h' hq => ?_))
      obtain ⟨N1, rfl, rfl, H1⟩ := hq
      refine ⟨rfl, ?_⟩
      show zW X _ 133 5 [.iastore, .aload 0, .getfield 127512134, .iload 1, .aload 0, .aload 0, .getfield 127512134, .iload 1, .iaload, .invokevirtual 1859132, .iastore, .aload 0, .getfield 127612138, .iload 1, .aload 0, .aload 0, .getfield 127612138, .iload 1, .iaload, .invokevirtual 1859132, .iastore, .iinc 1 1, .goto 4] [.ref 188, iv i1] [iv (M 229 (4 * n + 12 + 1)).toInt, iv i1, .ref 206] (gH k N1) _
      refine wIst hk (l := 80) (by decide +kernel) (by omega) (by omega) ?_
      refine wP (ls' := [.ref 188, iv i1]) (st' := [.ref 188]) rfl rfl ?_
      refine wGetR hk (r := 207) (by decide +kernel) ?_
      refine wP (ls' := [.ref 188, iv i1]) (st' := [iv i1, .ref 207]) rfl rfl ?_
      refine wP (ls' := [.ref 188, iv i1]) (st' := [.ref 188, iv i1, .ref 207]) rfl rfl ?_
      refine wP (ls' := [.ref 188, iv i1]) (st' := [.ref 188, .ref 188, iv i1, .ref 207]) rfl rfl ?_
      refine wGetR hk (r := 207) (by decide +kernel) ?_
      refine wP (ls' := [.ref 188, iv i1]) (st' := [iv i1, .ref 207, .ref 188, iv i1, .ref 207]) rfl rfl ?_
      refine wIld hk (l := 80) (e := (N1 207 (i1).toNat).toInt) (by decide +kernel) (by omega) (by omega) (by rw [aPut_o (by decide)]; exact iE _) ?_
      refine wCall hk (q := 132) (na := 1) (a := 188) (as := [iv (N1 207 (i1).toNat).toInt]) (t := [iv i1, .ref 207]) rfl (by decide +kernel) (by decide) (by decide +kernel) (Nat.le_of_ble_eq_true rfl) rfl rfl (zRn.mono (h132_b hk (t := 4 * n + 12 + 2) (gBk_wr (w := 4 * n + 12 + 1) H1 (by decide) (by rw [en, gPos_206 (by omega)] <;> omega) (by omega) (iE _).symm) hP (by omega)) (fun rv h' hq => ?_))
      obtain ⟨N2, rfl, rfl, H2⟩ := hq
      refine ⟨rfl, ?_⟩
      show zW X _ 133 5 [.iastore, .aload 0, .getfield 127612138, .iload 1, .aload 0, .aload 0, .getfield 127612138, .iload 1, .iaload, .invokevirtual 1859132, .iastore, .iinc 1 1, .goto 4] [.ref 188, iv i1] [iv (M 229 (4 * n + 12 + 2)).toInt, iv i1, .ref 207] (gH k N2) _
      refine wIst hk (l := 80) (by decide +kernel) (by omega) (by omega) ?_
      refine wP (ls' := [.ref 188, iv i1]) (st' := [.ref 188]) rfl rfl ?_
      refine wGetR hk (r := 208) (by decide +kernel) ?_
      refine wP (ls' := [.ref 188, iv i1]) (st' := [iv i1, .ref 208]) rfl rfl ?_
      refine wP (ls' := [.ref 188, iv i1]) (st' := [.ref 188, iv i1, .ref 208]) rfl rfl ?_
      refine wP (ls' := [.ref 188, iv i1]) (st' := [.ref 188, .ref 188, iv i1, .ref 208]) rfl rfl ?_
      refine wGetR hk (r := 208) (by decide +kernel) ?_
      refine wP (ls' := [.ref 188, iv i1]) (st' := [iv i1, .ref 208, .ref 188, iv i1, .ref 208]) rfl rfl ?_
      refine wIld hk (l := 80) (e := (N2 208 (i1).toNat).toInt) (by decide +kernel) (by omega) (by omega) (by rw [aPut_o (by decide)]; exact iE _) ?_
      refine wCall hk (q := 132) (na := 1) (a := 188) (as := [iv (N2 208 (i1).toNat).toInt]) (t := [iv i1, .ref 208]) rfl (by decide +kernel) (by decide) (by decide +kernel) (Nat.le_of_ble_eq_true rfl) rfl rfl (zRn.mono (h132_b hk (t := 4 * n + 12 + 3) (gBk_wr (w := 4 * n + 12 + 2) H2 (by decide) (by rw [en, gPos_207 (by omega)] <;> omega) (by omega) (iE _).symm) hP (by omega)) (fun rv h' hq => ?_))
      obtain ⟨N3, rfl, rfl, H3⟩ := hq
      refine ⟨rfl, ?_⟩
      show zW X _ 133 5 [.iastore, .iinc 1 1, .goto 4] [.ref 188, iv i1] [iv (M 229 (4 * n + 12 + 3)).toInt, iv i1, .ref 208] (gH k N3) _
      refine wIst hk (l := 80) (by decide +kernel) (by omega) (by omega) ?_
      refine wInc (ls' := [.ref 188, iv (i1 + 1)]) rfl rfl ?_
      refine wGoto (n1 := 4) rfl bk_133_4 ?_
      exact ih (n + 1) (i1 + 1) (aPut N3 208 (i1).toNat (Int32.ofInt (M 229 (4 * n + 12 + 3)).toInt)) (by omega) (by omega) (by rw [show 4 * (n + 1) + 12 = 4 * n + 12 + 3 + 1 by omega]; exact (gBk_wr (w := 4 * n + 12 + 3) H3 (by decide) (by rw [en, gPos_208 (by omega)] <;> omega) (by omega) (iE _).symm))
theorem h133_b2 {X : aX} {d : Nat} {k : Nat → aK} (hk : gKs k) {M : Nat → Nat → Int32} (hP : (M 188 69).toInt = 0) {Q : Option Value → aH → Prop} (hx : ∀ (i1 : Int) (M1 : Nat → Nat → Int32), -2147483648 ≤ i1 ∧ i1 ≤ 2147483647 → gBk_ M M1 (2 * 2000 + 268) (2 * 2000 + 268) → zW X (d + 1) 133 9 [.bipush 0, .istore 1] [.ref 188, iv i1] [] (gH k M1) Q) :
    ∀ (m n : Nat) (i1 : Int) (M1 : Nat → Nat → Int32), n + m = 2000 → i1 = n → gBk_ M M1 (2 * n + 268) (2 * n + 268) → zW X (d + 1) 133 7 [.iload 1, .bipush 2000, .if_icmp .ge 9] [.ref 188, iv i1] [] (gH k M1) Q := by
  intro m
  induction m with
  | zero =>
    intro n i1 M1 hnm h1 hI
    refine wP (ls' := [.ref 188, iv i1]) (st' := [iv i1]) rfl rfl ?_
    refine wP (ls' := [.ref 188, iv i1]) (st' := [iv 2000, iv i1]) rfl rfl ?_
    refine wIfc (n1 := 9) rfl bk_133_9 bk_133_8 (by omega) (by omega) (fun g0 => ?_) (fun g0 => ?_)
    · replace g0 : 2000 ≤ i1 := g0
      exact hx i1 M1 (by omega) (by rw [show n = 2000 by omega] at hI; exact hI)
    · replace g0 : ¬ (2000 ≤ i1) := g0
      exact absurd g0 (by omega)
  | succ m ih =>
    intro n i1 M1 hnm h1 hI
    have en : (i1).toNat = n := by omega
    refine wP (ls' := [.ref 188, iv i1]) (st' := [iv i1]) rfl rfl ?_
    refine wP (ls' := [.ref 188, iv i1]) (st' := [iv 2000, iv i1]) rfl rfl ?_
    refine wIfc (n1 := 9) rfl bk_133_9 bk_133_8 (by omega) (by omega) (fun g0 => ?_) (fun g0 => ?_)
    · replace g0 : 2000 ≤ i1 := g0
      exact absurd g0 (by omega)
    · replace g0 : ¬ (2000 ≤ i1) := g0
      refine wP (ls' := [.ref 188, iv i1]) (st' := [.ref 188]) rfl rfl ?_
      refine wGetR hk (r := 210) (by decide +kernel) ?_
      refine wP (ls' := [.ref 188, iv i1]) (st' := [iv i1, .ref 210]) rfl rfl ?_
      refine wP (ls' := [.ref 188, iv i1]) (st' := [.ref 188, iv i1, .ref 210]) rfl rfl ?_
      refine wP (ls' := [.ref 188, iv i1]) (st' := [.ref 188, .ref 188, iv i1, .ref 210]) rfl rfl ?_
      refine wGetR hk (r := 210) (by decide +kernel) ?_
      refine wP (ls' := [.ref 188, iv i1]) (st' := [iv i1, .ref 210, .ref 188, iv i1, .ref 210]) rfl rfl ?_
      refine wIld hk (l := 2500) (e := (M1 210 (i1).toNat).toInt) (by decide +kernel) (by omega) (by omega) (iE _) ?_
      refine wCall hk (q := 132) (na := 1) (a := 188) (as := [iv (M1 210 (i1).toNat).toInt]) (t := [iv i1, .ref 210]) rfl (by decide +kernel) (by decide) (by decide +kernel) (Nat.le_of_ble_eq_true rfl) rfl rfl (zRn.mono (h132_b hk (t := 2 * n + 268 + 0) hI hP (by omega)) (fun rv h' hq => ?_))
      obtain ⟨N0, rfl, rfl, H0⟩ := hq
      refine ⟨rfl, ?_⟩
      show zW X _ 133 8 [.iastore, .aload 0, .getfield 127912150, .iload 1, .aload 0, .aload 0, .getfield 127912150, .iload 1, .iaload, .invokevirtual 1859132, .iastore, .iinc 1 1, .goto 7] [.ref 188, iv i1] [iv (M 229 (2 * n + 268 + 0)).toInt, iv i1, .ref 210] (gH k N0) _
      refine wIst hk (l := 2500) (by decide +kernel) (by omega) (by omega) ?_
      refine wP (ls' := [.ref 188, iv i1]) (st' := [.ref 188]) rfl rfl ?_
      refine wGetR hk (r := 211) (by decide +kernel) ?_
      refine wP (ls' := [.ref 188, iv i1]) (st' := [iv i1, .ref 211]) rfl rfl ?_
      refine wP (ls' := [.ref 188, iv i1]) (st' := [.ref 188, iv i1, .ref 211]) rfl rfl ?_
      refine wP (ls' := [.ref 188, iv i1]) (st' := [.ref 188, .ref 188, iv i1, .ref 211]) rfl rfl ?_
      refine wGetR hk (r := 211) (by decide +kernel) ?_
      refine wP (ls' := [.ref 188, iv i1]) (st' := [iv i1, .ref 211, .ref 188, iv i1, .ref 211]) rfl rfl ?_
      refine wIld hk (l := 2500) (e := (N0 211 (i1).toNat).toInt) (by decide +kernel) (by omega) (by omega) (by rw [aPut_o (by decide)]; exact iE _) ?_
      refine wCall hk (q := 132) (na := 1) (a := 188) (as := [iv (N0 211 (i1).toNat).toInt]) (t := [iv i1, .ref 211]) rfl (by decide +kernel) (by decide) (by decide +kernel) (Nat.le_of_ble_eq_true rfl) rfl rfl (zRn.mono (h132_b hk (t := 2 * n + 268 + 1) (gBk_wr (w := 2 * n + 268 + 0) H0 (by decide) (by rw [en, gPos_210 (by omega)] <;> omega) (by omega) (iE _).symm) hP (by omega)) (fun rv h' hq => ?_))
      obtain ⟨N1, rfl, rfl, H1⟩ := hq
      refine ⟨rfl, ?_⟩
      show zW X _ 133 8 [.iastore, .iinc 1 1, .goto 7] [.ref 188, iv i1] [iv (M 229 (2 * n + 268 + 1)).toInt, iv i1, .ref 211] (gH k N1) _
      refine wIst hk (l := 2500) (by decide +kernel) (by omega) (by omega) ?_
      refine wInc (ls' := [.ref 188, iv (i1 + 1)]) rfl rfl ?_
      refine wGoto (n1 := 7) rfl bk_133_7 ?_
      exact ih (n + 1) (i1 + 1) (aPut N1 211 (i1).toNat (Int32.ofInt (M 229 (2 * n + 268 + 1)).toInt)) (by omega) (by omega) (by rw [show 2 * (n + 1) + 268 = 2 * n + 268 + 1 + 1 by omega]; exact (gBk_wr (w := 2 * n + 268 + 1) H1 (by decide) (by rw [en, gPos_211 (by omega)] <;> omega) (by omega) (iE _).symm))
theorem h133_b3 {X : aX} {d : Nat} {k : Nat → aK} (hk : gKs k) {M : Nat → Nat → Int32} (hP : (M 188 69).toInt = 0) {Q : Option Value → aH → Prop} (hx : ∀ (i1 : Int) (M1 : Nat → Nat → Int32), -2147483648 ≤ i1 ∧ i1 ≤ 2147483647 → gBk_ M M1 (2 * 96 + 4268) (2 * 96 + 4268) → zW X (d + 1) 133 12 [.return_] [.ref 188, iv i1] [] (gH k M1) Q) :
    ∀ (m n : Nat) (i1 : Int) (M1 : Nat → Nat → Int32), n + m = 96 → i1 = n → gBk_ M M1 (2 * n + 4268) (2 * n + 4268) → zW X (d + 1) 133 10 [.iload 1, .bipush 96, .if_icmp .ge 12] [.ref 188, iv i1] [] (gH k M1) Q := by
  intro m
  induction m with
  | zero =>
    intro n i1 M1 hnm h1 hI
    refine wP (ls' := [.ref 188, iv i1]) (st' := [iv i1]) rfl rfl ?_
    refine wP (ls' := [.ref 188, iv i1]) (st' := [iv 96, iv i1]) rfl rfl ?_
    refine wIfc (n1 := 12) rfl bk_133_12 bk_133_11 (by omega) (by omega) (fun g0 => ?_) (fun g0 => ?_)
    · replace g0 : 96 ≤ i1 := g0
      exact hx i1 M1 (by omega) (by rw [show n = 96 by omega] at hI; exact hI)
    · replace g0 : ¬ (96 ≤ i1) := g0
      exact absurd g0 (by omega)
  | succ m ih =>
    intro n i1 M1 hnm h1 hI
    have en : (i1).toNat = n := by omega
    refine wP (ls' := [.ref 188, iv i1]) (st' := [iv i1]) rfl rfl ?_
    refine wP (ls' := [.ref 188, iv i1]) (st' := [iv 96, iv i1]) rfl rfl ?_
    refine wIfc (n1 := 12) rfl bk_133_12 bk_133_11 (by omega) (by omega) (fun g0 => ?_) (fun g0 => ?_)
    · replace g0 : 96 ≤ i1 := g0
      exact absurd g0 (by omega)
    · replace g0 : ¬ (96 ≤ i1) := g0
      refine wP (ls' := [.ref 188, iv i1]) (st' := [.ref 188]) rfl rfl ?_
      refine wGetR hk (r := 214) (by decide +kernel) ?_
      refine wP (ls' := [.ref 188, iv i1]) (st' := [iv i1, .ref 214]) rfl rfl ?_
      refine wP (ls' := [.ref 188, iv i1]) (st' := [.ref 188, iv i1, .ref 214]) rfl rfl ?_
      refine wP (ls' := [.ref 188, iv i1]) (st' := [.ref 188, .ref 188, iv i1, .ref 214]) rfl rfl ?_
      refine wGetR hk (r := 214) (by decide +kernel) ?_
      refine wP (ls' := [.ref 188, iv i1]) (st' := [iv i1, .ref 214, .ref 188, iv i1, .ref 214]) rfl rfl ?_
      refine wIld hk (l := 120) (e := (M1 214 (i1).toNat).toInt) (by decide +kernel) (by omega) (by omega) (iE _) ?_
      refine wCall hk (q := 132) (na := 1) (a := 188) (as := [iv (M1 214 (i1).toNat).toInt]) (t := [iv i1, .ref 214]) rfl (by decide +kernel) (by decide) (by decide +kernel) (Nat.le_of_ble_eq_true rfl) rfl rfl (zRn.mono (h132_b hk (t := 2 * n + 4268 + 0) hI hP (by omega)) (fun rv h' hq => ?_))
      obtain ⟨N0, rfl, rfl, H0⟩ := hq
      refine ⟨rfl, ?_⟩
      show zW X _ 133 11 [.iastore, .aload 0, .getfield 129012194, .iload 1, .aload 0, .aload 0, .getfield 129012194, .iload 1, .iaload, .invokevirtual 1859132, .iastore, .iinc 1 1, .goto 10] [.ref 188, iv i1] [iv (M 229 (2 * n + 4268 + 0)).toInt, iv i1, .ref 214] (gH k N0) _
      refine wIst hk (l := 120) (by decide +kernel) (by omega) (by omega) ?_
      refine wP (ls' := [.ref 188, iv i1]) (st' := [.ref 188]) rfl rfl ?_
      refine wGetR hk (r := 215) (by decide +kernel) ?_
      refine wP (ls' := [.ref 188, iv i1]) (st' := [iv i1, .ref 215]) rfl rfl ?_
      refine wP (ls' := [.ref 188, iv i1]) (st' := [.ref 188, iv i1, .ref 215]) rfl rfl ?_
      refine wP (ls' := [.ref 188, iv i1]) (st' := [.ref 188, .ref 188, iv i1, .ref 215]) rfl rfl ?_
      refine wGetR hk (r := 215) (by decide +kernel) ?_
      refine wP (ls' := [.ref 188, iv i1]) (st' := [iv i1, .ref 215, .ref 188, iv i1, .ref 215]) rfl rfl ?_
      refine wIld hk (l := 120) (e := (N0 215 (i1).toNat).toInt) (by decide +kernel) (by omega) (by omega) (by rw [aPut_o (by decide)]; exact iE _) ?_
      refine wCall hk (q := 132) (na := 1) (a := 188) (as := [iv (N0 215 (i1).toNat).toInt]) (t := [iv i1, .ref 215]) rfl (by decide +kernel) (by decide) (by decide +kernel) (Nat.le_of_ble_eq_true rfl) rfl rfl (zRn.mono (h132_b hk (t := 2 * n + 4268 + 1) (gBk_wr (w := 2 * n + 4268 + 0) H0 (by decide) (by rw [en, gPos_214 (by omega)] <;> omega) (by omega) (iE _).symm) hP (by omega)) (fun rv h' hq => ?_))
      obtain ⟨N1, rfl, rfl, H1⟩ := hq
      refine ⟨rfl, ?_⟩
      show zW X _ 133 11 [.iastore, .iinc 1 1, .goto 10] [.ref 188, iv i1] [iv (M 229 (2 * n + 4268 + 1)).toInt, iv i1, .ref 215] (gH k N1) _
      refine wIst hk (l := 120) (by decide +kernel) (by omega) (by omega) ?_
      refine wInc (ls' := [.ref 188, iv (i1 + 1)]) rfl rfl ?_
      refine wGoto (n1 := 10) rfl bk_133_10 ?_
      exact ih (n + 1) (i1 + 1) (aPut N1 215 (i1).toNat (Int32.ofInt (M 229 (2 * n + 4268 + 1)).toInt)) (by omega) (by omega) (by rw [show 2 * (n + 1) + 4268 = 2 * n + 4268 + 1 + 1 by omega]; exact (gBk_wr (w := 2 * n + 4268 + 1) H1 (by decide) (by rw [en, gPos_215 (by omega)] <;> omega) (by omega) (iE _).symm))
theorem h133_p {X : aX} {d : Nat} {k : Nat → aK} (hk : gKs k) {M : Nat → Nat → Int32} (hP : (M 188 69).toInt = 1) (hA : (M 188 79).toInt = 0) :
    zRn X (d + 1 + 1) 133 [.ref 188] (gH k M) (fun rv h' => ∃ M', rv = none ∧ h' = gH k M' ∧ gTk M M' (2 * 96 + 4268)) := by
  have h0 : gTk M M (3 * 0 + 0) := ⟨fun _ _ _ => rfl, fun _ _ => rfl, hA, fun a i h => absurd h (by omega), fun _ _ => rfl⟩
  refine wEnt (n := 2) (ls := [.ref 188, aD]) bk_133_0 (by decide +kernel) rfl rfl rfl ?_
  refine wP (ls' := [.ref 188, aD]) (st' := [iv 0]) rfl rfl ?_
  refine wP (ls' := [.ref 188, iv 0]) (st' := []) rfl rfl ?_
  refine zW_fall bk_133_1 ?_
  refine h133_p0 hk hP (fun i0 N0 r0 H0 => ?_) 4 0 0 M (by omega) rfl h0
  refine wP (ls' := [.ref 188, iv i0]) (st' := [iv 0]) rfl rfl ?_
  refine wP (ls' := [.ref 188, iv 0]) (st' := []) rfl rfl ?_
  refine zW_fall bk_133_4 ?_
  refine h133_p1 hk hP (fun i1 N1 r1 H1 => ?_) 64 0 0 N0 (by omega) rfl (by rw [show 4 * 0 + 12 = 3 * 4 + 0 by omega]; exact H0)
  refine wP (ls' := [.ref 188, iv i1]) (st' := [iv 0]) rfl rfl ?_
  refine wP (ls' := [.ref 188, iv 0]) (st' := []) rfl rfl ?_
  refine zW_fall bk_133_7 ?_
  refine h133_p2 hk hP (fun i2 N2 r2 H2 => ?_) 2000 0 0 N1 (by omega) rfl (by rw [show 2 * 0 + 268 = 4 * 64 + 12 by omega]; exact H1)
  refine wP (ls' := [.ref 188, iv i2]) (st' := [iv 0]) rfl rfl ?_
  refine wP (ls' := [.ref 188, iv 0]) (st' := []) rfl rfl ?_
  refine zW_fall bk_133_10 ?_
  refine h133_p3 hk hP (fun i3 N3 r3 H3 => ?_) 96 0 0 N2 (by omega) rfl (by rw [show 2 * 0 + 4268 = 2 * 2000 + 268 by omega]; exact H2)
  exact wRet0 (by decide +kernel) ⟨_, rfl, rfl, H3⟩
theorem h133_b {X : aX} {d : Nat} {k : Nat → aK} (hk : gKs k) {M : Nat → Nat → Int32} (hP : (M 188 69).toInt = 0) (hA : (M 188 79).toInt = 0) :
    zRn X (d + 1 + 1) 133 [.ref 188] (gH k M) (fun rv h' => ∃ M', rv = none ∧ h' = gH k M' ∧ gBk_ M M' (2 * 96 + 4268) (2 * 96 + 4268)) := by
  have h0 : gBk_ M M (3 * 0 + 0) (3 * 0 + 0) := ⟨fun _ _ => rfl, hA, fun a i _ => by rw [if_neg (by omega)]⟩
  refine wEnt (n := 2) (ls := [.ref 188, aD]) bk_133_0 (by decide +kernel) rfl rfl rfl ?_
  refine wP (ls' := [.ref 188, aD]) (st' := [iv 0]) rfl rfl ?_
  refine wP (ls' := [.ref 188, iv 0]) (st' := []) rfl rfl ?_
  refine zW_fall bk_133_1 ?_
  refine h133_b0 hk hP (fun i0 N0 r0 H0 => ?_) 4 0 0 M (by omega) rfl h0
  refine wP (ls' := [.ref 188, iv i0]) (st' := [iv 0]) rfl rfl ?_
  refine wP (ls' := [.ref 188, iv 0]) (st' := []) rfl rfl ?_
  refine zW_fall bk_133_4 ?_
  refine h133_b1 hk hP (fun i1 N1 r1 H1 => ?_) 64 0 0 N0 (by omega) rfl (by rw [show 4 * 0 + 12 = 3 * 4 + 0 by omega]; exact H0)
  refine wP (ls' := [.ref 188, iv i1]) (st' := [iv 0]) rfl rfl ?_
  refine wP (ls' := [.ref 188, iv 0]) (st' := []) rfl rfl ?_
  refine zW_fall bk_133_7 ?_
  refine h133_b2 hk hP (fun i2 N2 r2 H2 => ?_) 2000 0 0 N1 (by omega) rfl (by rw [show 2 * 0 + 268 = 4 * 64 + 12 by omega]; exact H1)
  refine wP (ls' := [.ref 188, iv i2]) (st' := [iv 0]) rfl rfl ?_
  refine wP (ls' := [.ref 188, iv 0]) (st' := []) rfl rfl ?_
  refine zW_fall bk_133_10 ?_
  refine h133_b3 hk hP (fun i3 N3 r3 H3 => ?_) 96 0 0 N2 (by omega) rfl (by rw [show 2 * 0 + 4268 = 2 * 2000 + 268 by omega]; exact H2)
  exact wRet0 (by decide +kernel) ⟨_, rfl, rfl, H3⟩
