/-! a day's counts: fights, heat, who goes, names -/
theorem i_ac4 {a b c d : Int32} : (a + b) + (c + d) = (a + c) + (b + d) := by
  rw [Int32.add_assoc a b (c + d), Int32.add_assoc a c (b + d), ← Int32.add_assoc b c d, Int32.add_comm b c, Int32.add_assoc c b d]
theorem i_asc {a b : Int32} : a + b - a = b := Int32.sub_eq_iff_eq_add.mpr (Int32.add_comm a b)
theorem i_arc {a b c : Int32} : a + b + c = a + c + b := by rw [Int32.add_assoc, Int32.add_comm b c, ← Int32.add_assoc]
/-- how many of the camps have a name -/
def nmV (V : pMem) : Int32 := (if V 196 0 ≤ 0 then kI 0 else kI 1) + (if V 196 1 ≤ 0 then kI 0 else kI 1)
theorem nmV_c {V U : pMem} (h : U 196 = V 196) : nmV U = nmV V := by
  unfold nmV
  rw [h]
theorem cN_split {p g : Nat → Bool} (h : ∀ i, g i = true → p i = true) : ∀ {n : Nat}, cN (fun i => p i && !g i) n + cN g n = cN p n := by
  intro n
  induction n with
  | zero => rfl
  | succ n ih =>
    show cN (fun i => p i && !g i) n + (if (p n && !g n) = true then 1 else 0) + (cN g n + (if g n = true then 1 else 0)) = cN p n + (if p n = true then 1 else 0)
    have e : (if (p n && !g n) = true then 1 else 0) + (if g n = true then 1 else 0) = (if p n = true then 1 else 0) := by
      cases hg : g n with
      | false => cases p n <;> rfl
      | true => rw [h n hg]; rfl
    omega
theorem na_1 {o : List Cd} {L : List Ln} {l : Nat} {V : pMem} (hl : l = 0 ∨ l = 1) (h0 : 0 ≤ (V 188 3).toInt ∧ (V 188 3).toInt ≤ 100000) : ∃ d : Int32, nmV (naV o L l V) = nmV V + d ∧ naV o L l V 188 56 = V 188 56 + d := by
  obtain ⟨_, _, a3, a4⟩ := naV_v (o := o) (L := L) (l := l) (V := V)
  have y0 : ¬ V 188 3 + kI 1 ≤ 0 := by rw [i_le, i_add1 (by omega), i_0]; omega
  by_cases c : V 196 l = 0 ∧ 0 < tl (FlV V (kI (l : Nat))) o (kI 17) L
  · rw [if_pos c] at a4
    refine ⟨kI 1, ?_, a4⟩
    rcases hl with rfl | rfl
    · have e0 : naV o L 0 V 196 0 = V 188 3 + kI 1 := by rw [a3 0, if_pos ⟨c, rfl⟩]
      have e1 : naV o L 0 V 196 1 = V 196 1 := by rw [a3 1, if_neg (fun q => absurd q.2 (by decide))]
      have z : V 196 0 ≤ 0 := by rw [c.1]; decide
      unfold nmV
      rw [e0, e1, if_neg y0, if_pos z]
      generalize (if V 196 1 ≤ 0 then kI 0 else kI 1) = Z
      rw [kIz, Int32.zero_add, Int32.add_comm]
    · have e0 : naV o L 1 V 196 1 = V 188 3 + kI 1 := by rw [a3 1, if_pos ⟨c, rfl⟩]
      have e1 : naV o L 1 V 196 0 = V 196 0 := by rw [a3 0, if_neg (fun q => absurd q.2 (by decide))]
      have z : V 196 1 ≤ 0 := by rw [c.1]; decide
      unfold nmV
      rw [e0, e1, if_neg y0, if_pos z]
      generalize (if V 196 0 ≤ 0 then kI 0 else kI 1) = Z
      rw [kIz, Int32.add_zero]
  · refine ⟨0, ?_, by rw [a4, if_neg c]; exact (Int32.add_zero _).symm⟩
    have e : ∀ i, naV o L l V 196 i = V 196 i := fun i => by rw [a3 i, if_neg (fun q => c q.1)]
    unfold nmV
    rw [e 0, e 1]
    exact (Int32.add_zero _).symm
/-- what one day counts -/
def cnV (V U : pMem) : Prop := U 197 0 + U 197 1 = V 197 0 + V 197 1 + f_102 U ∧ U 198 0 + U 198 1 = V 198 0 + V 198 1 + U 188 55 ∧ kI (cN (thV U) 24 : Nat) + U 188 57 = kI (cN (thV V) 24 : Nat) ∧ nmV U = nmV V + U 188 56 ∧ (f_102 U ≤ 0 ↔ U 188 54 = 0)
theorem bo_ite {b : Bool} {x : Int32} : ∀ q l : Nat, (if q = l ∧ b = true then x else 0) = if q = l then (if b = true then x else 0) else 0 := fun q l => by
  by_cases e : q = l
  · by_cases c : b = true
    · rw [if_pos ⟨e, c⟩, if_pos e, if_pos c]
    · rw [if_neg (fun q => c q.2), if_pos e, if_neg c]
  · rw [if_neg (fun q => e q.1), if_neg e]
theorem f4_cn {o : List Cd} {L : List Ln} {P W0 W1 W2 U : pMem} (e0 : W0 = fg0 P) (e1 : W1 = fgV o L 0 W0) (e2 : W2 = fgV o L 1 W1) (eU : U = naV o L 1 (naV o L 0 (na0 (hoV o L W2)))) (h0 : 0 ≤ (P 188 3).toInt ∧ (P 188 3).toInt ≤ 100000) : cnV P U := by
  have f0 : ∀ b, b ≠ 188 → W0 b = P b := fun b hb => by rw [e0]; unfold fg0; rw [apR hb, apR hb]
  have f8 : W0 188 3 = P 188 3 := by rw [e0]; unfold fg0; rw [aPut_at (by decide), aPut_at (by decide)]
  have g54 : W0 188 54 = kI 0 := by rw [e0]; unfold fg0; rw [aPut_at (by decide), aPut_same]
  have g55 : W0 188 55 = kI 0 := by rw [e0]; unfold fg0; rw [aPut_same]
  obtain ⟨b0, y0, _, r0, s0, t0, q0⟩ := fg_1 (o := o) (L := L) (l := 0) (V := W0)
  obtain ⟨v0, v0', _⟩ := fgV_v (o := o) (L := L) (l := 0) (V := W0)
  rw [← e1] at r0 s0 t0 q0 v0 v0'
  obtain ⟨b1, y1, _, r1, s1, t1, q1⟩ := fg_1 (o := o) (L := L) (l := 1) (V := W1)
  obtain ⟨v1, v1', _⟩ := fgV_v (o := o) (L := L) (l := 1) (V := W1)
  rw [← e2] at r1 s1 t1 q1 v1 v1'
  obtain ⟨h1, h2, h3, h4⟩ := hoV_v (o := o) (L := L) (V := W2)
  generalize hH : hoV o L W2 = H at h1 h2 h3 h4 eU
  have n0R : ∀ b, b ≠ 188 → na0 H b = H b := fun b hb => by unfold na0; rw [apR hb]
  have n08 : ∀ j, j ≠ 56 → na0 H 188 j = H 188 j := fun j hj => by unfold na0; rw [aPut_at hj]
  have n056 : na0 H 188 56 = kI 0 := by unfold na0; rw [aPut_same]
  obtain ⟨a1, a2, _, _⟩ := naV_v (o := o) (L := L) (l := 0) (V := na0 H)
  obtain ⟨c1, c2, _, _⟩ := naV_v (o := o) (L := L) (l := 1) (V := naV o L 0 (na0 H))
  rw [← eU] at c1 c2
  have w2R : ∀ b, b ≠ 188 → b ≠ 197 → b ≠ 198 → W2 b = P b := fun b x1 x2 x3 => by rw [v1 b x1 x2 x3, v0 b x1 x2 x3, f0 b x1]
  have uR : ∀ b, b ≠ 188 → b ≠ 196 → b ≠ 191 → U b = W2 b := fun b x1 x2 x3 => by rw [c1 b x1 x2, a1 b x1 x2, n0R b x1, h1 b x1 x3]
  have u8 : ∀ j, j ≠ 56 → j ≠ 57 → U 188 j = W2 188 j := fun j x1 x2 => by rw [c2 j x1, a2 j x1, n08 j x1, h2 j x2]
  have w3 : W2 188 3 = P 188 3 := by rw [v1' 3 (by decide) (by decide), v0' 3 (by decide) (by decide), f8]
  have x0 : W2 197 0 = P 197 0 + (if b0 = true then kI 1 else kI 0) := by
    rw [r1 0, r0 0, f0 197 (by decide), bo_ite, bo_ite, if_neg (show ¬ (0 : Nat) = 1 by decide), if_pos (show (0 : Nat) = 0 from rfl), Int32.add_zero]
    rfl
  have x1 : W2 197 1 = P 197 1 + (if b1 = true then kI 1 else kI 0) := by
    rw [r1 1, r0 1, f0 197 (by decide), bo_ite, bo_ite, if_neg (show ¬ (1 : Nat) = 0 by decide), if_pos (show (1 : Nat) = 1 from rfl), Int32.add_zero]
    rfl
  have x2 : W2 198 0 = P 198 0 + y0 := by
    rw [s1 0, s0 0, f0 198 (by decide), if_neg (show ¬ (0 : Nat) = 1 by decide), if_pos (show (0 : Nat) = 0 from rfl), Int32.add_zero]
  have x3 : W2 198 1 = P 198 1 + y1 := by
    rw [s1 1, s0 1, f0 198 (by decide), if_neg (show ¬ (1 : Nat) = 0 by decide), if_pos (show (1 : Nat) = 1 from rfl), Int32.add_zero]
  have x54 : W2 188 54 = (if b1 = true then kI 2 else kI 0) + (if b0 = true then kI 1 else kI 0) := by
    rw [q1, q0, g54]
    cases b0 <;> cases b1 <;> decide +kernel
  have x55 : W2 188 55 = y0 + y1 := by rw [t1, t0, g55, kIz, Int32.zero_add]
  have xf : f_102 U = (if b0 = true then kI 1 else kI 0) + (if b1 = true then kI 1 else kI 0) := by
    unfold f_102
    rw [u8 54 (by decide) (by decide), x54]
    cases b0 <;> cases b1 <;> decide +kernel
  have w191 : W2 191 = P 191 := w2R 191 (by decide) (by decide) (by decide)
  have u191 : ∀ i, U 191 i = if i < 24 ∧ goV o L W2 i = true then kI 0 else W2 191 i := fun i => by rw [c1 191 (by decide) (by decide), a1 191 (by decide) (by decide), n0R 191 (by decide), h4 i]
  refine ⟨?_, ?_, ?_, ?_, ?_⟩
  · rw [uR 197 (by decide) (by decide) (by decide), x0, x1, xf]
    exact i_ac4
  · rw [uR 198 (by decide) (by decide) (by decide), x2, x3, u8 55 (by decide) (by decide), x55]
    exact i_ac4
  · have eg : ∀ i, goV o L W2 i = true → thV P i = true := fun i hi => by
      unfold goV at hi
      rw [thV_c w191] at hi
      exact (zAnd hi).1
    have et : cN (thV U) 24 = cN (fun i => thV P i && !goV o L W2 i) 24 := cN_cg fun i hi => by
      show (!decide (U 191 i = 0)) = _
      rw [u191 i]
      by_cases c : goV o L W2 i = true
      · rw [if_pos ⟨hi, c⟩, c, Bool.not_true, Bool.and_false]
        rfl
      · have cf : goV o L W2 i = false := Bool.eq_false_iff.mpr c
        rw [if_neg (fun q => c q.2), cf, Bool.not_false, Bool.and_true, w191]
        rfl
    rw [c2 57 (by decide), a2 57 (by decide), n08 57 (by decide), h3, et, ← kI_n1, cN_split eg]
  · obtain ⟨d0, m0, n0⟩ := na_1 (o := o) (L := L) (l := 0) (V := na0 H) (Or.inl rfl) (by rw [n08 3 (by decide), h2 3 (by decide), w3]; exact h0)
    obtain ⟨d1, m1, n1⟩ := na_1 (o := o) (L := L) (l := 1) (V := naV o L 0 (na0 H)) (Or.inr rfl) (by rw [a2 3 (by decide), n08 3 (by decide), h2 3 (by decide), w3]; exact h0)
    rw [← eU] at m1 n1
    have e196 : na0 H 196 = P 196 := by rw [n0R 196 (by decide), h1 196 (by decide) (by decide), w2R 196 (by decide) (by decide) (by decide)]
    rw [m1, m0, n1, n0, n056, nmV_c e196, kIz, Int32.zero_add, Int32.add_assoc]
  · rw [xf, u8 54 (by decide) (by decide), x54]
    cases b0 <;> cases b1 <;> decide +kernel
theorem cnV_c {V V' U U' : pMem} (h : cnV V U) (e : ∀ b, b = 191 ∨ b = 196 ∨ b = 197 ∨ b = 198 → V' b = V b ∧ U' b = U b) (e8 : ∀ j, j = 54 ∨ j = 55 ∨ j = 56 ∨ j = 57 → U' 188 j = U 188 j) : cnV V' U' := by
  obtain ⟨h1, h2, h3, h4, h5⟩ := h
  have ef : f_102 U' = f_102 U := by unfold f_102; rw [e8 54 (by omega)]
  refine ⟨?_, ?_, ?_, ?_, ?_⟩
  · rw [(e 197 (by omega)).1, (e 197 (by omega)).2, ef]; exact h1
  · rw [(e 198 (by omega)).1, (e 198 (by omega)).2, e8 55 (by omega)]; exact h2
  · rw [thV_c (e 191 (by omega)).1, thV_c (e 191 (by omega)).2, e8 57 (by omega)]; exact h3
  · rw [nmV_c (e 196 (by omega)).1, nmV_c (e 196 (by omega)).2, e8 56 (by omega)]; exact h4
  · rw [ef, e8 54 (by omega)]; exact h5
theorem day_cn {o : List Cd} {L : List Ln} {k p wr : Int32} {V N : pMem} (hd : 0 ≤ (V 188 3).toInt ∧ (V 188 3).toInt ≤ 100000) (x : sx (dyV (stV o L k p wr V)) N) : cnV V N := by
  generalize hP : (likV o L (if k = kI 1 then plV (bgV k p wr V) else bgV k p wr V)) = P
  have pR : ∀ b, b ≠ 188 → b ≠ 194 → b ≠ 199 → b ≠ 200 → P b = V b := fun b h1 h2 h3 h4 => by
    rw [← hP, likV_c h2]
    by_cases c : k = kI 1
    · rw [if_pos c, plR h1 h3, bgR h1 h4]
    · rw [if_neg c, bgR h1 h4]
  have p3 : P 188 3 = V 188 3 := by
    rw [← hP, likV_c (by decide)]
    by_cases c : k = kI 1
    · rw [if_pos c, pl8 (by decide) (by decide), bg8 (by omega)]
    · rw [if_neg c, bg8 (by omega)]
  have eU : stV o L k p wr V = naV o L 1 (naV o L 0 (na0 (hoV o L (fgV o L 1 (fgV o L 0 (fg0 P)))))) := by
    rw [← hP]
    rfl
  have q := f4_cn (o := o) (L := L) (P := P) rfl rfl rfl eU (by rw [p3]; exact hd)
  refine cnV_c q (fun b hb => ⟨(pR b (by omega) (by omega) (by omega) (by omega)).symm, ?_⟩) fun j hj => ?_
  · rw [sx_row x (by omega) (by rcases hb with rfl | rfl | rfl | rfl <;> rfl) (by omega) (by omega) (by omega), dyR (by omega)]
  · rw [sx_8 x (by omega) (by omega), dy8 (by omega)]
/-! a day in thought, whatever the day -/
def rTg (l k : Nat) (o : List Cd) (L : List Ln) (M V : pMem) : Prop := rV V ∧ rW 143 M V ∧ cLk M l o L ∧ rLk V k o L
theorem day_tg {l k : Nat} (hl : pK 2 l = true) {o : List Cd} {L : List Ln} {M V N M1 : pMem} (h : rTg l k o L M V) (hd : 0 ≤ (V 188 3).toInt ∧ (V 188 3).toInt ≤ 1000) {p1 p2 p3 : Int32} {v : Int32} {u : Unit} (hD : D_138 143 l p1 p2 p3 M v M1) (h101 : D_101 p1 p2 p3 V u N) :
    rTg l k o L M1 N ∧ v = f_102 N ∧ N 188 3 = V 188 3 + kI 1 ∧ frC 143 l M M1 ∧ cnV V N := by
  obtain ⟨hV, hW, cl, rl⟩ := h
  have hw : pK 10 143 = true := by decide +kernel
  have hd' : 0 ≤ (V 188 3).toInt ∧ (V 188 3).toInt ≤ 100000 := ⟨hd.1, by omega⟩
  obtain ⟨a1, a2, a3, a4, a5⟩ := D_138_v hw hl hV hW hd' cl (D_101_bo h101) hD
  obtain ⟨x1, _⟩ := D_101_v sc_r hV hd' rl h101
  have ag := agV_sx x1
  have r3 : N 188 3 = V 188 3 + kI 1 := by
    rw [sx_8 x1 (by decide) (by decide)]
    unfold dyV
    rw [aPut_same, st8 (by decide)]
  have rlN : rLk N k o L := rLk_v rl (fun b q1 q2 => by
    rw [sx_row x1 (by omega) (by
      have e : b = 204 ∨ b = 205 ∨ b = 206 ∨ b = 207 ∨ b = 208 ∨ b = 209 ∨ b = 210 ∨ b = 211 := by omega
      rcases e with rfl | rfl | rfl | rfl | rfl | rfl | rfl | rfl <;> rfl) (by omega) (by omega) (by omega), dyR (by omega), stR (by omega) (by omega) (by omega) (by omega)]) (by rw [sx_8 x1 (by decide) (by decide), dy8 (by decide), st8 (by decide)])
  refine ⟨⟨rV_cg a1 ag, rW_cg a2 ag, frC_law hw hl a5 cl, rlN⟩, ?_, r3, a5, day_cn hd' x1⟩
  unfold f_102
  rw [a3, sx_8 x1 (by decide) (by decide), dy8 (by decide)]
  exact st54
theorem cross_tg {M V : pMem} (hV : rV V) (hW : rW 143 M V) {v u : Int32} {N N2 : pMem} (hc : D_230 143 M v N) (hr : D_55 V u N2) : v = u ∧ N = M ∧ N2 = V := by
  obtain ⟨m0, p0⟩ := mem_w hV hW (p := kI 0) (Or.inl rfl)
  obtain ⟨m1, p1⟩ := mem_w hV hW (p := kI 1) (Or.inr rfl)
  obtain ⟨a1, a2⟩ := D_230_w p0 p1 hc
  obtain ⟨n, hn⟩ := hV.1
  obtain ⟨b1, b2⟩ := D_55_w hn (fun i hi => (hV.2.1 i hi).1) hr
  exact ⟨by rw [a1, b1, crS_cg m0 m1 fun i j hi hj => lkW_V hW hi hj], a2, b2⟩
theorem f238_V {w : Nat} {M V : pMem} (h : rW w M V) : f_238 w M = nmV V := by
  have e0 : M (w + 4) 6 = V 196 0 := (h.2.2.2.2.2 0 (by decide)).1
  have e1 : M (w + 4) 7 = V 196 1 := (h.2.2.2.2.2 1 (by decide)).1
  have q0 : f_237 w (kI 0) M = if V 196 0 ≤ 0 then kI 0 else kI 1 := by
    show (if M (w + 4) (ix (kI 6 + kI 0)) ≤ 0 then kI 0 else kI 1) = _
    rw [show ix (kI 6 + kI 0) = 6 by decide +kernel, e0]
  have q1 : f_237 w (kI 1) M = if V 196 1 ≤ 0 then kI 0 else kI 1 := by
    show (if M (w + 4) (ix (kI 6 + kI 1)) ≤ 0 then kI 0 else kI 1) = _
    rw [show ix (kI 6 + kI 1) = 7 by decide +kernel, e1]
  unfold f_238 nmV
  rw [q0, q1]
  by_cases c0 : V 196 0 ≤ 0
  · rw [if_pos c0, if_pos (show kI 0 = 0 from rfl)]
    by_cases c1 : V 196 1 ≤ 0
    · rw [if_pos c1, if_pos (show kI 0 = 0 from rfl)]
    · rw [if_neg c1, if_neg (show ¬ kI 1 = 0 by decide)]
  · rw [if_neg c0, if_neg (show ¬ kI 1 = 0 by decide)]
    by_cases c1 : V 196 1 ≤ 0
    · rw [if_pos c1, if_pos (show kI 0 = 0 from rfl)]
    · rw [if_neg c1, if_neg (show ¬ kI 1 = 0 by decide)]
theorem f236_V {w : Nat} {M V : pMem} (h : rW w M V) : f_236 w (kI 4) M = V 197 0 + V 197 1 ∧ f_236 w (kI 5) M = V 198 0 + V 198 1 := by
  have a0 : M (w + 4) 8 = V 197 0 := (h.2.2.2.2.2 0 (by decide)).2.1
  have a1 : M (w + 4) 9 = V 197 1 := (h.2.2.2.2.2 1 (by decide)).2.1
  have b0 : M (w + 4) 10 = V 198 0 := (h.2.2.2.2.2 0 (by decide)).2.2.1
  have b1 : M (w + 4) 11 = V 198 1 := (h.2.2.2.2.2 1 (by decide)).2.2.1
  constructor
  · show M (w + 4) (ix (kI 4 * kI 2)) + M (w + 4) (ix (kI 4 * kI 2 + kI 1)) = _
    rw [show ix (kI 4 * kI 2) = 8 by decide +kernel, show ix (kI 4 * kI 2 + kI 1) = 9 by decide +kernel, a0, a1]
  · show M (w + 4) (ix (kI 5 * kI 2)) + M (w + 4) (ix (kI 5 * kI 2 + kI 1)) = _
    rw [show ix (kI 5 * kI 2) = 10 by decide +kernel, show ix (kI 5 * kI 2 + kI 1) = 11 by decide +kernel, b0, b1]
theorem abs_44 {x : Int32} : pAbs x = f_44 x := by
  unfold pAbs f_44
  by_cases c : 0 ≤ x
  · rw [if_pos c, if_pos c]
  · rw [if_neg c, if_neg c, Int32.sub_eq_add_neg, Int32.zero_add]
