/-! a day, over all that is told -/
section ST
variable {o : List Cd} {L : List Ln} {V U : pMem} {k p wr : Int32} {l : Nat}
theorem naR {b : Nat} (h1 : b ≠ 188) (h2 : b ≠ 196) : naV o L l V b = V b := by
  unfold naV
  by_cases c : V 196 l = 0 ∧ 0 < tl (FlV V (kI (l : Nat))) o (kI 17) L
  · rw [if_pos c, apR h1, apR h2]
  · rw [if_neg c]
theorem na8 {j : Nat} (h : j ≠ 56) : naV o L l V 188 j = V 188 j := by
  unfold naV
  by_cases c : V 196 l = 0 ∧ 0 < tl (FlV V (kI (l : Nat))) o (kI 17) L
  · rw [if_pos c, aPut_at h, aPut_cell (by decide)]
  · rw [if_neg c]
theorem fgR {b : Nat} (h1 : b ≠ 188) (h2 : b ≠ 197) (h3 : b ≠ 198) : fgV o L l V b = V b := by
  unfold fgV
  by_cases c : 0 < tl (FlV V (kI (l : Nat))) o (kI 15) L
  · rw [if_pos c, apR h1, apR h3, apR h2, apR h1]
  · rw [if_neg c]
theorem fg8 {j : Nat} (h : j ≠ 54) (h2 : j ≠ 55) : fgV o L l V 188 j = V 188 j := by
  unfold fgV
  by_cases c : 0 < tl (FlV V (kI (l : Nat))) o (kI 15) L
  · rw [if_pos c, aPut_at h2, aPut_cell (by decide), aPut_cell (by decide), aPut_at h]
  · rw [if_neg c]
theorem fg54 : fgV o L l V 188 54 = V 188 54 ∨ fgV o L l V 188 54 = V 188 54 ||| kI 1 <<< (kI (l : Nat) &&& 31) := by
  unfold fgV
  by_cases c : 0 < tl (FlV V (kI (l : Nat))) o (kI 15) L
  · rw [if_pos c]
    exact Or.inr (by rw [aPut_at (by decide), aPut_cell (by decide), aPut_cell (by decide), aPut_same])
  · rw [if_neg c]
    exact Or.inl rfl
theorem plR {b : Nat} (h1 : b ≠ 188) (h2 : b ≠ 199) : plV V b = V b := by
  have e : plV0 V b = V b := by
    unfold plV0 drwV
    rw [apR h1, apR h1, apR h1]
  unfold plV
  by_cases c : wonV V = kI (-1)
  · rw [if_pos c, e]
  · rw [if_neg c, apR h2, e]
theorem pl8 {j : Nat} (h1 : j ≠ 1) (h2 : j ≠ 20) : plV V 188 j = V 188 j := by
  have e : plV0 V 188 j = V 188 j := by
    unfold plV0 drwV
    rw [aPut_at h2, aPut_at h1, aPut_at h1]
  unfold plV
  by_cases c : wonV V = kI (-1)
  · rw [if_pos c, e]
  · rw [if_neg c, aPut_cell (by decide), e]
theorem bgR {b : Nat} (h1 : b ≠ 188) (h2 : b ≠ 200) : bgV k p wr V b = V b := by
  have e : bg0 k p wr V b = V b := by
    unfold bg0
    rw [apR h1, apR h1, apR h1, apR h1, apR h1]
  unfold bgV
  by_cases c : wr = kI (-1)
  · rw [if_pos c, e]
  · rw [if_neg c, apR h2, e]
theorem bg8 {j : Nat} (h : j < 17 ∨ 21 < j) : bgV k p wr V 188 j = V 188 j := by
  have e : bg0 k p wr V 188 j = V 188 j := by
    unfold bg0
    rw [aPut_at (by omega), aPut_at (by omega), aPut_at (by omega), aPut_at (by omega), aPut_at (by omega)]
  unfold bgV
  by_cases c : wr = kI (-1)
  · rw [if_pos c, e]
  · rw [if_neg c, aPut_cell (by decide), e]
theorem stR {b : Nat} (h1 : b ≠ 188) (h2 : b ≠ 191) (h3 : b ≠ 194) (h4 : b < 196 ∨ 200 < b) : stV o L k p wr V b = V b := by
  unfold stV
  rw [naR h1 (by omega), naR h1 (by omega)]
  unfold na0
  rw [apR h1]
  unfold hoV
  rw [apR h1, aRow_cell h2, fgR h1 (by omega) (by omega), fgR h1 (by omega) (by omega)]
  unfold fg0
  rw [apR h1, apR h1]
  unfold likV
  rw [aRow_cell h3]
  by_cases c : k = kI 1
  · rw [if_pos c, plR h1 (by omega), bgR h1 (by omega)]
  · rw [if_neg c, bgR h1 (by omega)]
theorem st8 {j : Nat} (h : j ≠ 1 ∧ (j < 17 ∨ 57 < j)) : stV o L k p wr V 188 j = V 188 j := by
  unfold stV
  rw [na8 (by omega), na8 (by omega)]
  unfold na0
  rw [aPut_at (by omega)]
  unfold hoV
  rw [aPut_at (by omega), aRow_cell (by decide), fg8 (by omega) (by omega), fg8 (by omega) (by omega)]
  unfold fg0
  rw [aPut_at (by omega), aPut_at (by omega)]
  unfold likV
  rw [aRow_cell (by decide)]
  by_cases c : k = kI 1
  · rw [if_pos c, pl8 (by omega) (by omega), bg8 (by omega)]
  · rw [if_neg c, bg8 (by omega)]
theorem st54 : f_239 (stV o L k p wr V 188 54) = (stV o L k p wr V 188 54 &&& kI 1) + (stV o L k p wr V 188 54 >>> (kI 1 &&& 31)) := by
  have e : ∀ X : pMem, fg0 X 188 54 = kI 0 := fun X => by
    unfold fg0
    rw [aPut_at (by decide), aPut_same]
  have q : ∀ X : pMem, ∃ y, y = stV o L k p wr V 188 54 ∧ (y = kI 0 ∨ y = kI 1 ∨ y = kI 2 ∨ y = kI 3) := fun _ => by
    refine ⟨_, rfl, ?_⟩
    unfold stV
    rw [na8 (by decide), na8 (by decide)]
    unfold na0
    rw [aPut_at (by decide)]
    unfold hoV
    rw [aPut_at (by decide), aRow_cell (by decide)]
    generalize hY : (likV o L (if k = kI 1 then plV (bgV k p wr V) else bgV k p wr V)) = Y
    rcases fg54 (o := o) (L := L) (l := 1) (V := fgV o L 0 (fg0 Y)) with q1 | q1 <;> rcases fg54 (o := o) (L := L) (l := 0) (V := fg0 Y) with q2 | q2 <;> rw [q1, q2, e]
    · exact Or.inl rfl
    · exact Or.inr (Or.inl (by decide +kernel))
    · exact Or.inr (Or.inr (Or.inl (by decide +kernel)))
    · exact Or.inr (Or.inr (Or.inr (by decide +kernel)))
  obtain ⟨y, ey, hy⟩ := q V
  rw [← ey]
  rcases hy with rfl | rfl | rfl | rfl <;> decide +kernel
theorem thV_c (h : U 191 = V 191) : thV U = thV V := by
  funext i
  unfold thV
  rw [h]
theorem FcV_c (h9 : U 189 = V 189) (h0 : U 190 = V 190) (h4 : U 194 = V 194) (h5 : U 195 = V 195) (h : ∀ j, 17 ≤ j → j ≤ 21 → U 188 j = V 188 j) : FcV U = FcV V := by
  funext i j m
  have lk : lkV U = lkV V := lkV_c h4
  have fd : FdV U = FdV V := by
    funext x y
    unfold FdV
    rw [h 17 (by decide) (by decide), h 18 (by decide) (by decide), h 19 (by decide) (by decide), h 20 (by decide) (by decide), h 21 (by decide) (by decide)]
  unfold FcV
  rw [h9, h0, lk, h5, fd]
theorem kpV_c (h9 : U 189 = V 189) (h1 : U 191 = V 191) (h4 : U 194 = V 194) (e17 : U 188 17 = V 188 17) (e54 : U 188 54 = V 188 54) (e20 : U 188 20 = V 188 20) : kpV U = kpV V := by
  funext m
  have il : inL U = inL V := funext fun q => inL_c h1 h9
  unfold kpV
  rw [thV_c h1, il, lkV_c h4, e17, e54, e20]
theorem loB_c {i : Nat} (h9 : U 189 = V 189) (h0 : U 190 = V 190) (h1 : U 191 = V 191) (h2 : U 192 = V 192) (h4 : U 194 = V 194) (h5 : U 195 = V 195) (h : ∀ j, 17 ≤ j → j ≤ 21 → U 188 j = V 188 j) : loB o L U i = loB o L V i := by
  unfold loB
  rw [thV_c h1, h2, acr_cg (thV_c h1) (by rw [FcV_c h9 h0 h4 h5 h]) (lkV_c h4) h9]
end ST
theorem dyR {V : pMem} {b : Nat} (h : b ≠ 188) : dyV V b = V b := apR h
theorem dy8 {V : pMem} {j : Nat} (h : j ≠ 3) : dyV V 188 j = V 188 j := aPut_at h
/-- the law in force, on both sides -/
theorem force_T {M V : pMem} (h : rT 18 M V) : ∃ k o L, (M 18 7).toInt = (k : Nat) ∧ k < 4 ∧ cLk M (30 + 11 * k) o L ∧ rLk V k o L := by
  obtain ⟨_, _, _, h8, ⟨f1, f2, f3⟩, _⟩ := h
  obtain ⟨k, hk⟩ : ∃ k : Nat, (V 188 4).toInt = k := ⟨(V 188 4).toInt.toNat, by omega⟩
  obtain ⟨o, L, c, r, x, y⟩ := h8 k (by omega)
  exact ⟨k, o, L, by rw [f1]; exact hk, by omega, ⟨c, y⟩, ⟨r, x⟩, c.2.1, y, by omega, hk⟩
theorem day_T {p1 p2 p3 v : Int32} {M M4 V Vr N : pMem} {u : Unit} (h : rT 18 M V) (hd : (V 188 3).toInt < 60) (hp : p3 = kI (-1) ∨ bo p3) (h30 : D_30 p1 p2 p3 M v M4) (hs : sc V Vr) (h101 : D_101 p1 p2 p3 Vr u N) : rT 18 M4 N ∧ v = f_102 N := by
  obtain ⟨k, o, L, hk, hk4, cl, rl⟩ := force_T h
  obtain ⟨⟨hV, ⟨n, hn, h192⟩, d0, d60⟩, ⟨hW, hLo⟩, hke, hlw, hot⟩ := id h
  have hW : rW 19 M V := hW
  have hLo : rLo 19 M V := hLo
  have hke : ∀ k, k < 480 → M 26 k = V 201 k := hke
  have hw : pK 10 19 = true := by decide +kernel
  -- the class
  obtain ⟨l, M1, h217, v2, M2, h138, _, M3, h190, _, M4', h218, hv, hM4⟩ := h30
  have hl := D_217_k h217
  obtain ⟨_, el, eM1⟩ := h217
  rw [ix_of hk] at el
  rw [eM1] at h138
  obtain ⟨a1, a2, a3, a4, a5⟩ := D_138_v hw hl hV hW ⟨d0, by omega⟩ (by rw [el]; exact cl) hp h138
  generalize hS : stV o L p1 p2 p3 V = St at a1 a2 a3 a4
  have sR : ∀ b, b ≠ 188 → b ≠ 191 → b ≠ 194 → (b < 196 ∨ 200 < b) → St b = V b := fun b q1 q2 q3 q4 => by rw [← hS]; exact stR q1 q2 q3 q4
  have s8 : ∀ j, (j ≠ 1 ∧ (j < 17 ∨ 57 < j)) → St 188 j = V 188 j := fun j q => by rw [← hS]; exact st8 q
  have s54 : f_239 (St 188 54) = (St 188 54 &&& kI 1) + (St 188 54 >>> (kI 1 &&& 31)) := by rw [← hS]; exact st54
  have f138 := F_138 hw hl h138
  have f190 := F_190 hw hl h190
  have lo1 : rLo 19 M2 (dyV St) := by
    refine rLo_c hLo (f138 19 3 (by decide) rfl (by simp only [l_138, pOut_cons, pOut_nil, true_or, and_true]; omega)) ?_
    rw [dyR (by decide), sR 192 (by decide) (by decide) (by decide) (by decide)]
  have cl2 : cLk M2 l o L := frC_law hw hl a5 (by rw [el]; exact cl)
  obtain ⟨b1, b2, b3, b3'⟩ := D_190_v hw hl a1 a2 lo1 cl2 h190
  obtain ⟨d, hdd⟩ : ∃ d : Nat, (V 188 3).toInt = d := ⟨(V 188 3).toInt.toNat, by omega⟩
  have st3 : St 188 3 = V 188 3 := s8 3 (by decide)
  have dy3 : (dyV St 188 3).toInt = ((d + 1 : Nat) : Int) := by
    unfold dyV
    rw [aPut_same, st3]
    exact n_add1 hdd (by omega)
  have r54 : dyV St 188 54 = St 188 54 := dy8 (by decide)
  obtain ⟨e1, e2⟩ := D_218_v a1 b1 (by rw [b3' 11 (by decide), a4, r54]) dy3 (by omega) h218
  have eM : M4 = M4' := hM4
  subst eM
  -- the reference
  have rlV : rLk V k o L := rl
  obtain ⟨x1, M10, M11, u1, u2, y1, y2, y3⟩ := D_101_v hs hV ⟨d0, by omega⟩ rl h101
  rw [hS] at x1 y1
  have rVS : rV St := rV_c a1 (dy8 (by decide)).symm (dyR (by decide)).symm (dyR (by decide)).symm (dyR (by decide)).symm (dyR (by decide)).symm
  have rlS : rLk St k o L := rLk_v rl (fun b q1 q2 => sR b (by omega) (by omega) (by omega) (by omega)) (s8 4 (by decide))
  have hnS : ∃ m, rNb St m := rVS.1
  obtain ⟨m, hm⟩ := hnS
  have emn : m = n := by
    have q1 := hm.2.1
    have q2 := hn.2.1
    rw [s8 2 (by decide)] at q1
    omega
  rw [emn] at hm
  have z1 := D_99_v y1 rVS rlS hm y2
  have z2 := D_100_v z1 (rV_lo rVS) (d := d) (by rw [loN_c (by decide), st3]; exact hdd) y3
  rw [if_pos (by omega)] at z2
  -- rows of N
  have n8 : ∀ j, j ≠ 0 → j ≠ 51 → N 188 j = dyV St 188 j := fun j q1 q2 => sx_8 x1 q1 q2
  have nR : ∀ a, a < 230 → pScrA a = false → a ≠ 188 → a ≠ 192 → a ≠ 201 → N a = St a := fun a q1 q2 q3 q4 q5 => by rw [sx_row x1 q1 q2 q3 q4 q5, dyR q3]
  have n201 : N 201 = keR (loN o L St n) d := by
    have q := sc_row z2 (a := 201) (by decide) rfl (by decide)
    rw [apR (by decide), aRow_same'] at q
    exact q
  have n192 : N 192 = loN o L St n 192 := by
    have q := sc_row z2 (a := 192) (by decide) rfl (by decide)
    rw [apR (by decide), aRow_cell (by decide)] at q
    exact q
  have ag := agV_sx x1
  have lB : ∀ i, loB o L (dyV St) i = loB o L St i := fun i => loB_c (dyR (by decide)) (dyR (by decide)) (dyR (by decide)) (dyR (by decide)) (dyR (by decide)) (dyR (by decide)) (fun j q1 q2 => dy8 (by omega))
  have lo2 : ∀ i, i < 24 → N 192 i = loN o L (dyV St) 24 192 i := fun i hi => by
    rw [n192, loN_24 hm i hi, loN_v, loN_v, lB i, dyR (show (192 : Nat) ≠ 188 by decide)]
  have c19 : ∀ j, M4 19 j = M3 19 j := fun j => by rw [e2 19 (by decide)]
  have hW4 : rW 19 M4 N := rW_cg (rW_eq b1 fun j hj => e2 _ (by omega)) ag
  have rl4 : rLo 19 M4 N := by
    obtain ⟨q1, q2⟩ := b2
    refine ⟨by rw [c19]; exact q1, fun i hi => ?_⟩
    rw [c19, lo2 i hi]
    exact q2 i hi
  have cM : ∀ b, 24 ≤ b → b < 74 → b ≠ 26 → b ≠ l + 6 → M4 b = M b := fun b q1 q2 q3 q4 => by
    rw [e2 b q3, b3 b (by omega) (by omega) q4, a5 b (fun j hj => by omega) (by omega) q4]
  have c18 : M4 18 = M 18 := by rw [e2 18 (by decide), b3 18 (by decide) (by decide) (by omega), a5 18 (fun j hj => by omega) (by decide) (by omega)]
  have c26 : M3 26 = M 26 := by rw [b3 26 (by decide) (by decide) (by omega), a5 26 (fun j hj => by omega) (by decide) (by omega)]
  have vN : ∀ a, a < 230 → pScrA a = false → a ≠ 188 → a ≠ 191 → a ≠ 192 → a ≠ 194 → (a < 196 ∨ 201 < a) → N a = V a := fun a q1 q2 q3 q4 q5 q6 q7 => by rw [nR a q1 q2 q3 q5 (by omega), sR a q3 q4 q6 (by omega)]
  have v8 : ∀ j, j = 2 ∨ j = 4 ∨ j = 71 → N 188 j = V 188 j := fun j q => by rw [n8 j (by omega) (by omega), dy8 (by omega), s8 j (by omega)]
  refine ⟨⟨⟨rV_cg a1 ag, ⟨n, ?_, fun i hi => ?_⟩, ?_, ?_⟩, ⟨hW4, rl4⟩, fun q hq => ?_, fun q hq => ?_, ?_⟩, ?_⟩
  · refine ⟨hn.1, by rw [v8 2 (by omega)]; exact hn.2.1, fun i q1 q2 => ?_⟩
    rw [nR 191 (by decide) rfl (by decide) (by decide) (by decide)]
    exact hm.2.2 i q1 q2
  · rw [n192, loN_v, sR 192 (by decide) (by decide) (by decide) (by decide), vN 189 (by decide) rfl (by decide) (by decide) (by decide) (by decide) (by decide)]
    by_cases c : i < n ∧ loB o L St i = true
    · rw [if_pos c]
      exact ⟨Or.inl rfl, fun q => absurd c.1 (by omega)⟩
    · rw [if_neg c]
      exact h192 i hi
  · rw [n8 3 (by decide) (by decide), dy3]; omega
  · rw [n8 3 (by decide) (by decide), dy3]; omega
  · show M4 26 q = N 201 q
    rw [e1 q hq, n201, c26]
    unfold keR
    have kp : kpV (dyV St) = kpV (loN o L St n) := (kpV_c (dyR (by decide)) (dyR (by decide)) (dyR (by decide)) (dy8 (by decide)) (dy8 (by decide)) (dy8 (by decide))).trans
      (kpV_c (loN_c (by decide)) (loN_c (by decide)) (loN_c (by decide)) (by rw [loN_c (by decide)]) (by rw [loN_c (by decide)]) (by rw [loN_c (by decide)])).symm
    rw [kp]
    by_cases c : 8 * d ≤ q ∧ q < 8 * d + 8
    · rw [if_pos ⟨by omega, c⟩, if_pos c]
    · rw [if_neg (fun r => c r.2), if_neg c, loN_c (by decide), sR 201 (by decide) (by decide) (by decide) (by decide)]
      exact hke q hq
  · obtain ⟨o', L', c, r, x⟩ := hlw q hq
    refine ⟨o', L', clLaw_eq c fun b q1 q2 => cM b (by omega) (by omega) (by omega) (by omega), ?_, x⟩
    rw [vN 204 (by decide) rfl (by decide) (by decide) (by decide) (by decide) (by decide), vN 205 (by decide) rfl (by decide) (by decide) (by decide) (by decide) (by decide), vN 206 (by decide) rfl (by decide) (by decide) (by decide) (by decide) (by decide), vN 207 (by decide) rfl (by decide) (by decide) (by decide) (by decide) (by decide), vN 208 (by decide) rfl (by decide) (by decide) (by decide) (by decide) (by decide), vN 209 (by decide) rfl (by decide) (by decide) (by decide) (by decide) (by decide), vN 210 (by decide) rfl (by decide) (by decide) (by decide) (by decide) (by decide), vN 211 (by decide) rfl (by decide) (by decide) (by decide) (by decide) (by decide)]
    exact r
  · exact rOt_c hot (by rw [c18]) (by rw [c18]) (cM 28 (by decide) (by decide) (by decide) (by omega)) (cM 29 (by decide) (by decide) (by decide) (by omega)) (v8 4 (by omega)) (v8 71 (by omega)) (vN 226 (by decide) rfl (by decide) (by decide) (by decide) (by decide) (by decide)) (vN 227 (by decide) rfl (by decide) (by decide) (by decide) (by decide) (by decide)) (vN 193 (by decide) rfl (by decide) (by decide) (by decide) (by decide) (by decide))
  · unfold f_102
    rw [hv, a3, n8 54 (by decide) (by decide), r54]
    exact s54
