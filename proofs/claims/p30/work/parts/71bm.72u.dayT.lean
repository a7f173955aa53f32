/-! a day, over all that is told -/
section ST
variable {o : List Cd} {L : List Ln} {V U : pMem} {k p wr : Int32} {l : Nat}
theorem naR {b : Nat} (h1 : b ≠ 188) (h2 : b ≠ 196) : naV o L l V b = V b := by
  unfold naV
  by_cases c : V 196 l = 0 ∧ 0 < tl (FlV V (kI (l : Nat))) o (kI 17) L
  · rw [if_pos c, apR h1, apR h2]
  · rw [if_neg c]
theorem na8 {j : Nat} (h : j ≠ 56) : naV o L l V 188 j = V 188 j := by
  unfold naV
  by_cases c : V 196 l = 0 ∧ 0 < tl (FlV V (kI (l : Nat))) o (kI 17) L
  · rw [if_pos c, aPut_at h, aPut_cell (by decide)]
  · rw [if_neg c]
theorem fgR {b : Nat} (h1 : b ≠ 188) (h2 : b ≠ 197) (h3 : b ≠ 198) : fgV o L l V b = V b := by
  unfold fgV
  by_cases c : 0 < tl (FlV V (kI (l : Nat))) o (kI 15) L
  · rw [if_pos c, apR h1, apR h3, apR h2, apR h1]
  · rw [if_neg c]
theorem fg8 {j : Nat} (h : j ≠ 54) (h2 : j ≠ 55) : fgV o L l V 188 j = V 188 j := by
  unfold fgV
  by_cases c : 0 < tl (FlV V (kI (l : Nat))) o (kI 15) L
  · rw [if_pos c, aPut_at h2, aPut_cell (by decide), aPut_cell (by decide), aPut_at h]
  · rw [if_neg c]
theorem fg54 : fgV o L l V 188 54 = V 188 54 ∨ fgV o L l V 188 54 = V 188 54 ||| kI 1 <<< (kI (l : Nat) &&& 31) := by
  unfold fgV
  by_cases c : 0 < tl (FlV V (kI (l : Nat))) o (kI 15) L
  · rw [if_pos c]
    exact Or.inr (by rw [aPut_at (by decide), aPut_cell (by decide), aPut_cell (by decide), aPut_same])
  · rw [if_neg c]
    exact Or.inl rfl
theorem plR {b : Nat} (h1 : b ≠ 188) (h2 : b ≠ 199) : plV V b = V b := by
  have e : plV0 V b = V b := by
    unfold plV0 drwV
    rw [apR h1, apR h1, apR h1]
  unfold plV
  by_cases c : wonV V = kI (-1)
  · rw [if_pos c, e]
  · rw [if_neg c, apR h2, e]
theorem pl8 {j : Nat} (h1 : j ≠ 1) (h2 : j ≠ 20) : plV V 188 j = V 188 j := by
  have e : plV0 V 188 j = V 188 j := by
    unfold plV0 drwV
    rw [aPut_at h2, aPut_at h1, aPut_at h1]
  unfold plV
  by_cases c : wonV V = kI (-1)
  · rw [if_pos c, e]
  · rw [if_neg c, aPut_cell (by decide), e]
theorem bgR {b : Nat} (h1 : b ≠ 188) (h2 : b ≠ 200) : bgV k p wr V b = V b := by
  have e : bg0 k p wr V b = V b := by
    unfold bg0
    rw [apR h1, apR h1, apR h1, apR h1, apR h1]
  unfold bgV
  by_cases c : wr = kI (-1)
  · rw [if_pos c, e]
  · rw [if_neg c, apR h2, e]
theorem bg8 {j : Nat} (h : j < 17 ∨ 21 < j) : bgV k p wr V 188 j = V 188 j := by
  have e : bg0 k p wr V 188 j = V 188 j := by
    unfold bg0
    rw [aPut_at (by omega), aPut_at (by omega), aPut_at (by omega), aPut_at (by omega), aPut_at (by omega)]
  unfold bgV
  by_cases c : wr = kI (-1)
  · rw [if_pos c, e]
  · rw [if_neg c, aPut_cell (by decide), e]
theorem stR {b : Nat} (h1 : b ≠ 188) (h2 : b ≠ 191) (h3 : b ≠ 194) (h4 : b < 196 ∨ 200 < b) : stV o L k p wr V b = V b := by
  unfold stV
  rw [naR h1 (by omega), naR h1 (by omega)]
  unfold na0
  rw [apR h1]
  unfold hoV
  rw [apR h1, aRow_cell h2, fgR h1 (by omega) (by omega), fgR h1 (by omega) (by omega)]
  unfold fg0
  rw [apR h1, apR h1]
  unfold likV
  rw [aRow_cell h3]
  by_cases c : k = kI 1
  · rw [if_pos c, plR h1 (by omega), bgR h1 (by omega)]
  · rw [if_neg c, bgR h1 (by omega)]
theorem st8 {j : Nat} (h : j ≠ 1 ∧ (j < 17 ∨ 57 < j)) : stV o L k p wr V 188 j = V 188 j := by
  unfold stV
  rw [na8 (by omega), na8 (by omega)]
  unfold na0
  rw [aPut_at (by omega)]
  unfold hoV
  rw [aPut_at (by omega), aRow_cell (by decide), fg8 (by omega) (by omega), fg8 (by omega) (by omega)]
  unfold fg0
  rw [aPut_at (by omega), aPut_at (by omega)]
  unfold likV
  rw [aRow_cell (by decide)]
  by_cases c : k = kI 1
  · rw [if_pos c, pl8 (by omega) (by omega), bg8 (by omega)]
  · rw [if_neg c, bg8 (by omega)]
theorem st54 : f_239 (stV o L k p wr V 188 54) = (stV o L k p wr V 188 54 &&& kI 1) + (stV o L k p wr V 188 54 >>> (kI 1 &&& 31)) := by
  have e : ∀ X : pMem, fg0 X 188 54 = kI 0 := fun X => by
    unfold fg0
    rw [aPut_at (by decide), aPut_same]
  have q : ∀ X : pMem, ∃ y, y = stV o L k p wr V 188 54 ∧ (y = kI 0 ∨ y = kI 1 ∨ y = kI 2 ∨ y = kI 3) := fun _ => by
    refine ⟨_, rfl, ?_⟩
    unfold stV
    rw [na8 (by decide), na8 (by decide)]
    unfold na0
    rw [aPut_at (by decide)]
    unfold hoV
    rw [aPut_at (by decide), aRow_cell (by decide)]
    generalize hY : (likV o L (if k = kI 1 then plV (bgV k p wr V) else bgV k p wr V)) = Y
    rcases fg54 (o := o) (L := L) (l := 1) (V := fgV o L 0 (fg0 Y)) with q1 | q1 <;> rcases fg54 (o := o) (L := L) (l := 0) (V := fg0 Y) with q2 | q2 <;> rw [q1, q2, e]
    · exact Or.inl rfl
    · exact Or.inr (Or.inl (by decide +kernel))
    · exact Or.inr (Or.inr (Or.inl (by decide +kernel)))
    · exact Or.inr (Or.inr (Or.inr (by decide +kernel)))
  obtain ⟨y, ey, hy⟩ := q V
  rw [← ey]
  rcases hy with rfl | rfl | rfl | rfl <;> decide +kernel
theorem thV_c (h : U 191 = V 191) : thV U = thV V := by
  funext i
  unfold thV
  rw [h]
theorem FcV_c (h9 : U 189 = V 189) (h0 : U 190 = V 190) (h4 : U 194 = V 194) (h5 : U 195 = V 195) (h : ∀ j, 17 ≤ j → j ≤ 21 → U 188 j = V 188 j) : FcV U = FcV V := by
  funext i j m
  have lk : lkV U = lkV V := lkV_c h4
  have fd : FdV U = FdV V := by
    funext x y
    unfold FdV
    rw [h 17 (by decide) (by decide), h 18 (by decide) (by decide), h 19 (by decide) (by decide), h 20 (by decide) (by decide), h 21 (by decide) (by decide)]
  unfold FcV
  rw [h9, h0, lk, h5, fd]
theorem kpV_c (h9 : U 189 = V 189) (h1 : U 191 = V 191) (h4 : U 194 = V 194) (e17 : U 188 17 = V 188 17) (e54 : U 188 54 = V 188 54) (e20 : U 188 20 = V 188 20) : kpV U = kpV V := by
  funext m
  have il : inL U = inL V := funext fun q => inL_c h1 h9
  unfold kpV
  rw [thV_c h1, il, lkV_c h4, e17, e54, e20]
theorem loB_c {i : Nat} (h9 : U 189 = V 189) (h0 : U 190 = V 190) (h1 : U 191 = V 191) (h2 : U 192 = V 192) (h4 : U 194 = V 194) (h5 : U 195 = V 195) (h : ∀ j, 17 ≤ j → j ≤ 21 → U 188 j = V 188 j) : loB o L U i = loB o L V i := by
  unfold loB
  rw [thV_c h1, h2, acr_cg (thV_c h1) (by rw [FcV_c h9 h0 h4 h5 h]) (lkV_c h4) h9]
end ST
theorem dyR {V : pMem} {b : Nat} (h : b ≠ 188) : dyV V b = V b := apR h
theorem dy8 {V : pMem} {j : Nat} (h : j ≠ 3) : dyV V 188 j = V 188 j := aPut_at h
/-- the law in force, on both sides -/
theorem force_T {M V : pMem} (h : rT 18 M V) : ∃ k o L, (M 18 7).toInt = (k : Nat) ∧ k < 4 ∧ cLk M (30 + 11 * k) o L ∧ rLk V k o L := by
  obtain ⟨_, _, _, h8, ⟨f1, f2, f3⟩, _⟩ := h
  obtain ⟨k, hk⟩ : ∃ k : Nat, (V 188 4).toInt = k := ⟨(V 188 4).toInt.toNat, by omega⟩
  obtain ⟨o, L, c, r, x, y⟩ := h8 k (by omega)
  exact ⟨k, o, L, by rw [f1]; exact hk, by omega, ⟨c, y⟩, ⟨r, x⟩, c.2.1, y, by omega, hk⟩
theorem day_T {p1 p2 p3 v : Int32} {M M4 V Vr N : pMem} {u : Unit} (h : rT 18 M V) (hd : (V 188 3).toInt < 60) (hp : p3 = kI (-1) ∨ bo p3) (h30 : D_30 p1 p2 p3 M v M4) (hs : sc V Vr) (h101 : D_101 p1 p2 p3 Vr u N) : rT 18 M4 N ∧ v = f_102 N := by
  obtain ⟨k, o, L, hk, hk4, cl, rl⟩ := force_T h
  obtain ⟨⟨hV, ⟨n, hn, h192⟩, d0, d60⟩, ⟨hW, hLo⟩, hke, hlw, hot⟩ := id h
  have hW : rW 19 M V := hW
  have hLo : rLo 19 M V := hLo
  have hke : ∀ k, k < 480 → M 26 k = V 201 k := hke
  have hw : pK 10 19 = true := by decide +kernel
  -- the class
  obtain ⟨l, M1, h217, v2, M2, h138, _, M3, h190, _, M4', h218, hv, hM4⟩ := h30
  have hl := D_217_k h217
  obtain ⟨_, el, eM1⟩ := h217
  rw [ix_of hk] at el
  rw [eM1] at h138
  obtain ⟨a1, a2, a3, a4, a5⟩ := D_138_v hw hl hV hW ⟨d0, by omega⟩ (by rw [el]; exact cl) hp h138
  generalize hS : stV o L p1 p2 p3 V = St at a1 a2 a3 a4
  have sR : ∀ b, b ≠ 188 → b ≠ 191 → b ≠ 194 → (b < 196 ∨ 200 < b) → St b = V b := fun b q1 q2 q3 q4 => by rw [← hS]; exact stR q1 q2 q3 q4
  have s8 : ∀ j, (j ≠ 1 ∧ (j < 17 ∨ 57 < j)) → St 188 j = V 188 j := fun j q => by rw [← hS]; exact st8 q
  have s54 : f_239 (St 188 54) = (St 188 54 &&& kI 1) + (St 188 54 >>> (kI 1 &&& 31)) := by rw [← hS]; exact st54
  have f138 := F_138 hw hl h138
  have f190 := F_190 hw hl h190
  have lo1 : rLo 19 M2 (dyV St) := by
    refine rLo_c hLo (f138 19 3 (by decide) rfl (by simp only [l_138, pOut_cons, pOut_nil, true_or, and_true]; omega)) ?_
    rw [dyR (by decide), sR 192 (by decide) (by decide) (by decide) (by decide)]
  have cl2 : cLk M2 l o L := frC_law hw hl a5 (by rw [el]; exact cl)
  obtain ⟨b1, b2, b3, b3'⟩ := D_190_v hw hl a1 a2 lo1 cl2 h190
  obtain ⟨d, hdd⟩ : ∃ d : Nat, (V 188 3).toInt = d := ⟨(V 188 3).toInt.toNat, by omega⟩
  have st3 : St 188 3 = V 188 3 := s8 3 (by decide)
  have dy3 : (dyV St 188 3).toInt = ((d + 1 : Nat) : Int) := by
    unfold dyV
    rw [aPut_same, st3]
    exact n_add1 hdd (by omega)
  have r54 : dyV St 188 54 = St 188 54 := dy8 (by decide)
  obtain ⟨e1, e2⟩ := D_218_v a1 b1 (by rw [b3' 11 (by decide), a4, r54]) dy3 (by omega) h218
  have eM : M4 = M4' := hM4
  subst eM
  -- the reference
  have rlV : rLk V k o L := rl
  obtain ⟨x1, M10, M11, u1, u2, y1, y2, y3⟩ := D_101_v hs hV ⟨d0, by omega⟩ rl h101
  rw [hS] at x1 y1
  have rVS : rV St := rV_c a1 (dy8 (by decide)).symm (dyR (by decide)).symm (dyR (by decide)).symm (dyR (by decide)).symm (dyR (by decide)).symm
  have rlS : rLk St k o L := rLk_v rl (fun b q1 q2 => sR b (by omega) (by omega) (by omega) (by omega)) (s8 4 (by decide))
  have hnS : ∃ m, rNb St m := rVS.1
  obtain ⟨m, hm⟩ := hnS
  have emn : m = n := by
    have q1 := hm.2.1
    have q2 := hn.2.1
    rw [s8 2 (by decide)] at q1
    omega
  rw [emn] at hm
  have z1 := D_99_v y1 rVS rlS hm y2
  have z2 := D_100_v z1 (rV_lo rVS) (d := d) (by rw [loN_c (by decide), st3]; exact hdd) y3
  rw [if_pos (by omega)] at z2
  -- rows of N
  have n8 : ∀ j, j ≠ 0 → j ≠ 51 → N 188 j = dyV St 188 j := fun j q1 q2 => sx_8 x1 q1 q2
  have nR : ∀ a, a < 230 → pScrA a = false → a ≠ 188 → a ≠ 192 → a ≠ 201 → N a = St a := fun a q1 q2 q3 q4 q5 => by rw [sx_row x1 q1 q2 q3 q4 q5, dyR q3]
  have n201 : N 201 = keR (loN o L St n) d := by
    have q := sc_row z2 (a := 201) (by decide) rfl (by decide)
    rw [apR (by decide), aRow_same'] at q
    exact q
  have n192 : N 192 = loN o L St n 192 := by
    have q := sc_row z2 (a := 192) (by decide) rfl (by decide)
    rw [apR (by decide), aRow_cell (by decide)] at q
    exact q
  have ag := agV_sx x1
  have lB : ∀ i, loB o L (dyV St) i = loB o L St i := fun i => loB_c (dyR (by decide)) (dyR (by decide)) (dyR (by decide)) (dyR (by decide)) (dyR (by decide)) (dyR (by decide)) (fun j q1 q2 => dy8 (by omega))
  have lo2 : ∀ i, i < 24 → N 192 i = loN o L (dyV St) 24 192 i := fun i hi => by
    rw [n192, loN_24 hm i hi, loN_v, loN_v, lB i, dyR (show (192 : Nat) ≠ 188 by decide)]
  have c19 : ∀ j, M4 19 j = M3 19 j := fun j => by rw [e2 19 (by decide)]
  have hW4 : rW 19 M4 N := rW_cg (rW_eq b1 fun j hj => e2 _ (by omega)) ag
  have rl4 : rLo 19 M4 N := by
    obtain ⟨q1, q2⟩ := b2
    refine ⟨by rw [c19]; exact q1, fun i hi => ?_⟩
    rw [c19, lo2 i hi]
    exact q2 i hi
  have cM : ∀ b, 24 ≤ b → b < 74 → b ≠ 26 → b ≠ l + 6 → M4 b = M b := fun b q1 q2 q3 q4 => by
    rw [e2 b q3, b3 b (by omega) (by omega) q4, a5 b (fun j hj => by omega) (by omega) q4]
  have c18 : M4 18 = M 18 := by rw [e2 18 (by decide), b3 18 (by decide) (by decide) (by omega), a5 18 (fun j hj => by omega) (by decide) (by omega)]
  have c26 : M3 26 = M 26 := by rw [b3 26 (by decide) (by decide) (by omega), a5 26 (fun j hj => by omega) (by decide) (by omega)]
  have vN : ∀ a, a < 230 → pScrA a = false → a ≠ 188 → a ≠ 191 → a ≠ 192 → a ≠ 194 → (a < 196 ∨ 201 < a) → N a = V a := fun a q1 q2 q3 q4 q5 q6 q7 => by rw [nR a q1 q2 q3 q5 (by omega), sR a q3 q4 q6 (by omega)]
  have v8 : ∀ j, j = 2 ∨ j = 4 ∨ j = 71 → N 188 j = V 188 j := fun j q => by rw [n8 j (by omega) (by omega), dy8 (by omega), s8 j (by omega)]
  refine ⟨⟨⟨rV_cg a1 ag, ⟨n, ?_, fun i hi => ?_⟩, ?_, ?_⟩, ⟨hW4, rl4⟩, fun q hq => ?_, fun q hq => ?_, ?_⟩, ?_⟩
  · refine ⟨hn.1, by rw [v8 2 (by omega)]; exact hn.2.1, fun i q1 q2 => ?_⟩
    rw [nR 191 (by decide) rfl (by decide) (by decide) (by decide)]
    exact hm.2.2 i q1 q2
  · rw [n192, loN_v, sR 192 (by decide) (by decide) (by decide) (by decide), vN 189 (by decide) rfl (by decide) (by decide) (by decide) (by decide) (by decide)]
    by_cases c : i < n ∧ loB o L St i = true
    · rw [if_pos c]
      exact ⟨Or.inl rfl, fun q => absurd c.1 (by omega)⟩
    · rw [if_neg c]
      exact h192 i hi
  · rw [n8 3 (by decide) (by decide), dy3]; omega
  · rw [n8 3 (by decide) (by decide), dy3]; omega
  · show M4 26 q = N 201 q
    rw [e1 q hq, n201, c26]
    unfold keR
    have kp : kpV (dyV St) = kpV (loN o L St n) := (kpV_c (dyR (by decide)) (dyR (by decide)) (dyR (by decide)) (dy8 (by decide)) (dy8 (by decide)) (dy8 (by decide))).trans
      (kpV_c (loN_c (by decide)) (loN_c (by decide)) (loN_c (by decide)) (by rw [loN_c (by decide)]) (by rw [loN_c (by decide)]) (by rw [loN_c (by decide)])).symm
    rw [kp]
    by_cases c : 8 * d ≤ q ∧ q < 8 * d + 8
    · rw [if_pos ⟨by omega, c⟩, if_pos c]
    · rw [if_neg (fun r => c r.2), if_neg c, loN_c (by decide), sR 201 (by decide) (by decide) (by decide) (by decide)]
      exact hke q hq
  · obtain ⟨o', L', c, r, x⟩ := hlw q hq
    refine ⟨o', L', clLaw_eq c fun b q1 q2 => cM b (by omega) (by omega) (by omega) (by omega), ?_, x⟩
    rw [vN 204 (by decide) rfl (by decide) (by decide) (by decide) (by decide) (by decide), vN 205 (by decide) rfl (by decide) (by decide) (by decide) (by decide) (by decide), vN 206 (by decide) rfl (by decide) (by decide) (by decide) (by decide) (by decide), vN 207 (by decide) rfl (by decide) (by decide) (by decide) (by decide) (by decide), vN 208 (by decide) rfl (by decide) (by decide) (by decide) (by decide) (by decide), vN 209 (by decide) rfl (by decide) (by decide) (by decide) (by decide) (by decide), vN 210 (by decide) rfl (by decide) (by decide) (by decide) (by decide) (by decide), vN 211 (by decide) rfl (by decide) (by decide) (by decide) (by decide) (by decide)]
    exact r
  · exact rOt_c hot (by rw [c18]) (by rw [c18]) (cM 28 (by decide) (by decide) (by decide) (by omega)) (cM 29 (by decide) (by decide) (by decide) (by omega)) (v8 4 (by omega)) (v8 71 (by omega)) (vN 226 (by decide) rfl (by decide) (by decide) (by decide) (by decide) (by decide)) (vN 227 (by decide) rfl (by decide) (by decide) (by decide) (by decide) (by decide)) (vN 193 (by decide) rfl (by decide) (by decide) (by decide) (by decide) (by decide))
  · unfold f_102
    rw [hv, a3, n8 54 (by decide) (by decide), r54]
    exact s54
/-! the days of a plan, on both sides -/
abbrev Dy := Int32 × Int32 × Int32
def agS (M N : pMem) : Prop := ∀ a j, a < 230 → pScr a j = false → ¬ (a = 188 ∧ 60 ≤ j ∧ j ≤ 66) → N a j = M a j
theorem agS_t {M N K : pMem} (h : agS M N) (g : agS N K) : agS M K := fun a j h1 h2 h3 => (g a j h1 h2 h3).trans (h a j h1 h2 h3)
theorem agS_sc {M N : pMem} (h : sc M N) : agS M N := fun a j h1 h2 _ => h a j h1 h2
theorem agS_T {M N : pMem} (h : agS M N) : agT M N := agT_of fun a j hp => by
  have q : ¬ (a = 188 ∧ 60 ≤ j ∧ j ≤ 66) := by unfold plT at hp; omega
  rcases plT_in hp with e | ⟨e, e2⟩
  · obtain ⟨c1, c2, c3⟩ := plRows_sc a e
    exact h a j c1 (pScr_of c2 c3 j) q
  · subst e
    exact h 188 j (by decide) (pl188_sc j e2) q
/-- what is counted of a day -/
def cnA (M1 X : pMem) : Prop := agS M1 X ∧ X 188 60 = M1 188 60 + kI 1 ∧ X 188 61 = M1 188 61 + f_102 M1 ∧ X 188 62 = M1 188 62 + M1 188 55 ∧ X 188 63 = M1 188 63 + M1 188 57 ∧ X 188 65 = M1 188 65 + M1 188 56 ∧
  X 188 64 = (if M1 188 64 = kI (-1) ∧ ¬ M1 188 54 = 0 then M1 188 60 + kI 1 else M1 188 64)
def cnO (M1 X : pMem) : Prop := (M1 226 (ix (M1 188 60 + kI 1 - kI 1)) = 0 ∧ X 188 66 = M1 188 66) ∨
  (¬ M1 226 (ix (M1 188 60 + kI 1 - kI 1)) = 0 ∧ ∃ Y v Z, agS M1 Y ∧ D_55 Y v Z ∧ X 188 66 = M1 188 66 + f_44 (v - M1 227 (ix (M1 188 60 + kI 1 - kI 1))))
def stD (M1 X : pMem) : Prop := cnA M1 X ∧ cnO M1 X
theorem leaf_0 {M1 X : pMem} (h : cnA M1 X) (h66 : X 188 66 = M1 188 66) (h226 : X 226 (ix (X 188 60 - kI 1)) = 0) : stD M1 X := by
  refine ⟨h, Or.inl ⟨?_, h66⟩⟩
  rw [h.2.1, h.1 226 _ (by decide) rfl (by omega)] at h226
  exact h226
theorem leaf_1 {M1 X Y Z : pMem} {v : Int32} (h : cnA M1 X) (h66 : X 188 66 = M1 188 66) (h226 : ¬ X 226 (ix (X 188 60 - kI 1)) = 0) (h55 : D_55 X v Y) (eZ : Z = aPut Y 188 66 (X 188 66 + f_44 (v - Y 227 (ix (Y 188 60 - kI 1))))) : stD M1 Z := by
  have f : ∀ a j, a < 230 → pScr a j = false → Y a j = X a j := fun a j h1 h2 => F_55 h55 a j h1 h2 (by simp only [l_55, pOut_nil])
  have z : ∀ j, j ≠ 66 → j ≠ 0 → j ≠ 51 → Z 188 j = X 188 j := fun j q q0 q1 => by
    rw [eZ, aPut_at q]
    refine f 188 j (by decide) ?_
    unfold pScr
    rw [show Nat.beq j 0 = false from Bool.eq_false_iff.mpr fun q => q0 (Nat.eq_of_beq_eq_true q), show Nat.beq j 51 = false from Bool.eq_false_iff.mpr fun q => q1 (Nat.eq_of_beq_eq_true q)]
    rfl
  obtain ⟨a1, a2, a3, a4, a5, a6, a7⟩ := h
  have ag : agS X Z := fun a j h1 h2 h3 => by
    rw [eZ]
    by_cases e : a = 188
    · subst e
      rw [aPut_at (fun q => h3 ⟨rfl, by omega⟩)]
      exact f 188 j h1 h2
    · rw [aPut_cell e]
      exact f a j h1 h2
  refine ⟨⟨agS_t a1 ag, by rw [z 60 (by decide) (by decide) (by decide)]; exact a2, by rw [z 61 (by decide) (by decide) (by decide)]; exact a3, by rw [z 62 (by decide) (by decide) (by decide)]; exact a4, by rw [z 63 (by decide) (by decide) (by decide)]; exact a5, by rw [z 65 (by decide) (by decide) (by decide)]; exact a6, by rw [z 64 (by decide) (by decide) (by decide)]; exact a7⟩, Or.inr ⟨?_, X, v, Y, a1, h55, ?_⟩⟩
  · rw [a2, a1 226 _ (by decide) rfl (by omega)] at h226
    exact h226
  · rw [eZ, aPut_same, h66, f 188 60 (by decide) rfl, a2, f 227 _ (by decide) rfl, a1 227 _ (by decide) rfl (by omega)]
/-- the reference's days, one after another -/
def rDays : List Dy → pMem → pMem → Prop
  | [], M, N => N = M
  | d :: r, M, N => (M 188 3 = kI 60 ∧ N = M) ∨ (¬ M 188 3 = kI 60 ∧ ∃ u M1 M2, D_101 d.1 d.2.1 d.2.2 M u M1 ∧ stD M1 M2 ∧ rDays r M2 N)
/-- days of lines: who is named by a line of its own belongs to the next day, if that counts -/
def dyL (p : Int32) (s : Int32) : List (Int32 × Int32) → List Dy
  | [] => []
  | w :: r => if w.1 = kI 28 then dyL p (if p = 0 then s else w.2) r else (w.1 - kI 24, w.2, s) :: dyL p (kI (-1)) r
theorem dyL_fold {p : Int32} (hp : ¬ p = 0) : ∀ {l : List (Int32 × Int32)} {a : List Dy} {s : Int32}, (l.foldl plDay (a, s)).1 = a ++ dyL p s l := by
  intro l
  induction l with
  | nil => intro a s; exact (List.append_nil a).symm
  | cons w r ih =>
    intro a s
    rw [List.foldl_cons]
    by_cases c : w.1 = kI 28
    · have e1 : plDay (a, s) w = (a, w.2) := by unfold plDay; rw [if_pos c]
      have e2 : dyL p s (w :: r) = dyL p w.2 r := by
        show (if w.1 = kI 28 then dyL p (if p = 0 then s else w.2) r else _) = _
        rw [if_pos c, if_neg hp]
      rw [e1, e2, ih]
    · have e1 : plDay (a, s) w = (a ++ [(w.1 - kI 24, w.2, s)], kI (-1)) := by unfold plDay; rw [if_neg c]
      have e2 : dyL p s (w :: r) = (w.1 - kI 24, w.2, s) :: dyL p (kI (-1)) r := by
        show (if w.1 = kI 28 then _ else (w.1 - kI 24, w.2, s) :: dyL p (kI (-1)) r) = _
        rw [if_neg c]
      rw [e1, e2, ih, List.append_assoc]
      rfl
theorem dyL_0 : ∀ {l : List (Int32 × Int32)} {a : List Dy} {s : Int32}, (l.foldl plDay (a, s)).1.map (fun d => (d.1, d.2.1, kI (-1))) = a.map (fun d => (d.1, d.2.1, kI (-1))) ++ dyL 0 (kI (-1)) l := by
  intro l
  induction l with
  | nil => intro a s; exact (List.append_nil _).symm
  | cons w r ih =>
    intro a s
    rw [List.foldl_cons]
    by_cases c : w.1 = kI 28
    · have e1 : plDay (a, s) w = (a, w.2) := by unfold plDay; rw [if_pos c]
      have e2 : dyL 0 (kI (-1)) (w :: r) = dyL 0 (kI (-1)) r := by
        show (if w.1 = kI 28 then dyL 0 (if (0 : Int32) = 0 then kI (-1) else w.2) r else _) = _
        rw [if_pos c, if_pos rfl]
      rw [e1, e2, ih]
    · have e1 : plDay (a, s) w = (a ++ [(w.1 - kI 24, w.2, s)], kI (-1)) := by unfold plDay; rw [if_neg c]
      have e2 : dyL 0 (kI (-1)) (w :: r) = (w.1 - kI 24, w.2, kI (-1)) :: dyL 0 (kI (-1)) r := by
        show (if w.1 = kI 28 then _ else (w.1 - kI 24, w.2, kI (-1)) :: dyL 0 (kI (-1)) r) = _
        rw [if_neg c]
      rw [e1, e2, ih, List.map_append, List.append_assoc]
      rfl
def dQ (p2 : Int32) (k : Nat) (l : List (Int32 × Int32)) (x3 x4 : Int32) (M N : pMem) : Prop := ∀ i : Nat, x4.toInt = ((24 * k + i : Nat) : Int) → i ≤ l.length → (M 213 k).toInt = l.length → rlOk (M 214) (M 215) (24 * k) l → rDays (dyL p2 x3 (l.drop i)) M N
theorem cn6 {M1 M2 M3 M4 M5 M6 : pMem} (e2 : M2 = aPut M1 188 60 (M1 188 60 + kI 1)) (e3 : M3 = aPut M2 188 61 (M2 188 61 + f_102 M2)) (e4 : M4 = aPut M3 188 62 (M3 188 62 + M3 188 55)) (e5 : M5 = aPut M4 188 63 (M4 188 63 + M4 188 57)) (e6 : M6 = aPut M5 188 65 (M5 188 65 + M5 188 56)) :
    (∀ a j, ¬ (a = 188 ∧ 60 ≤ j ∧ j ≤ 65 ∧ j ≠ 64) → M6 a j = M1 a j) ∧ M6 188 60 = M1 188 60 + kI 1 ∧ M6 188 61 = M1 188 61 + f_102 M1 ∧ M6 188 62 = M1 188 62 + M1 188 55 ∧ M6 188 63 = M1 188 63 + M1 188 57 ∧ M6 188 65 = M1 188 65 + M1 188 56 := by
  have f2 : f_102 M2 = f_102 M1 := by
    unfold f_102
    rw [e2, aPut_at (by decide)]
  refine ⟨fun a j q => ?_, ?_, ?_, ?_, ?_, ?_⟩
  · by_cases ea : a = 188
    · subst ea
      rw [e6, aPut_at (by omega), e5, aPut_at (by omega), e4, aPut_at (by omega), e3, aPut_at (by omega), e2, aPut_at (by omega)]
    · rw [e6, aPut_cell ea, e5, aPut_cell ea, e4, aPut_cell ea, e3, aPut_cell ea, e2, aPut_cell ea]
  · rw [e6, aPut_at (by decide), e5, aPut_at (by decide), e4, aPut_at (by decide), e3, aPut_at (by decide), e2, aPut_same]
  · rw [e6, aPut_at (by decide), e5, aPut_at (by decide), e4, aPut_at (by decide), e3, aPut_same, f2, e2, aPut_at (by decide)]
  · rw [e6, aPut_at (by decide), e5, aPut_at (by decide), e4, aPut_same, e3, aPut_at (by decide), aPut_at (by decide), e2, aPut_at (by decide), aPut_at (by decide)]
  · rw [e6, aPut_at (by decide), e5, aPut_same, e4, aPut_at (by decide), aPut_at (by decide), e3, aPut_at (by decide), aPut_at (by decide), e2, aPut_at (by decide), aPut_at (by decide)]
  · rw [e6, aPut_same, e5, aPut_at (by decide), aPut_at (by decide), e4, aPut_at (by decide), aPut_at (by decide), e3, aPut_at (by decide), aPut_at (by decide), e2, aPut_at (by decide), aPut_at (by decide)]
theorem L_105_d {k : Nat} {p1 p2 x3 x4 : Int32} {M0 : pMem} {l : List (Int32 × Int32)} (hk : p1.toInt = k) (hk4 : k < 5) (hl : l.length ≤ 24) {v : Unit} {N : pMem} (h : L_105_1 p1 p2 x3 x4 M0 v N) : dQ p2 k l x3 x4 M0 N := by
  refine h (fun x3 x4 M v N => dQ p2 k l x3 x4 M N) ?_
  intro x3 x4 M v N hs i hx hi hm ho
  obtain ⟨_, hs⟩ := hs
  have e24 : (kI 24 * p1 + M 213 (ix p1)).toInt = ((24 * k + l.length : Nat) : Int) := by
    have q : (kI 24 * p1).toInt = 24 * k := by rw [i_mul (by rw [kI_toInt (by decide) (by decide)]; omega) (by rw [kI_toInt (by decide) (by decide)]; omega), kI_toInt (by decide) (by decide), hk]
    rw [ix_of hk, i_add (by rw [q, hm]; omega) (by rw [q, hm]; omega), q, hm]
    omega
  rcases hs with ⟨g, _, hN⟩ | ⟨g, c4, hs⟩
  · rw [i_le, e24, hx] at g
    rw [drop_nil (by omega)]
    exact hN
  · rw [i_le, e24, hx] at g
    have hi2 : i < l.length := by omega
    obtain ⟨⟨r, r1, r2, r3, r4⟩, r5⟩ := ho i l[i] (List.getElem?_eq_getElem hi2)
    have ex : ix x4 = 24 * k + i := ix_of hx
    rw [ex] at hs
    rw [r4, r5] at hs
    have nx : (x4 + kI 1).toInt = ((24 * k + (i + 1) : Nat) : Int) := by rw [i_add1 (by omega), hx]; omega
    have k10 : kI r = kI 10 ↔ r = 10 := by
      rw [yk (by decide) (by decide), kI_toInt (by omega) (by omega)]
      omega
    have w28 : l[i].1 = kI 28 ↔ r = 10 := by
      rw [r3, yk (by decide) (by decide), kI_toInt (by omega) (by omega)]
      omega
    rw [drop_at hi2]
    rcases hs with ⟨g2, hs⟩ | ⟨g2, hs⟩
    · -- a day
      have n28 : ¬ l[i].1 = kI 28 := fun q => g2 (k10.mpr (w28.mp q))
      have ekd : kI r - kI 6 = l[i].1 - kI 24 := by
        rw [r3, i_eq, i_sub (by rw [kI_toInt (by omega) (by omega), kI_toInt (by decide) (by decide)]; omega) (by rw [kI_toInt (by omega) (by omega), kI_toInt (by decide) (by decide)]; omega),
          i_sub (by rw [kI_toInt (by omega) (by omega), kI_toInt (by decide) (by decide)]; omega) (by rw [kI_toInt (by omega) (by omega), kI_toInt (by decide) (by decide)]; omega),
          kI_toInt (n := (r : Int)) (by omega) (by omega), kI_toInt (n := ((r + 18 : Nat) : Int)) (by omega) (by omega), kI_toInt (n := 6) (by decide) (by decide), kI_toInt (n := 24) (by decide) (by decide)]
        omega
      have ed : dyL p2 x3 (l[i] :: l.drop (i + 1)) = (l[i].1 - kI 24, l[i].2, x3) :: dyL p2 (kI (-1)) (l.drop (i + 1)) := by
        show (if l[i].1 = kI 28 then _ else (l[i].1 - kI 24, l[i].2, x3) :: dyL p2 (kI (-1)) (l.drop (i + 1))) = _
        rw [if_neg n28]
      rw [ed]
      rcases hs with ⟨g3, hs⟩ | ⟨g3, _, hN⟩
      · obtain ⟨_, _, u, M1, h101, M2, e2, M3, e3, M4, e4, M5, e5, M6, e6, hs⟩ := hs
        rw [ekd] at h101
        refine Or.inr ⟨g3, u, M1, ?_⟩
        have f := F_101 h101
        have m1 : ∀ a j, (a = 213 ∨ a = 214 ∨ a = 215) → M1 a j = M a j := fun a j ha => f a j (by omega) (by rcases ha with rfl | rfl | rfl <;> rfl) (by simp only [l_101, pOut_cons, pOut_nil, true_or, and_true]; omega)
        obtain ⟨c0, c60, c61, c62, c63, c65⟩ := cn6 e2 e3 e4 e5 e6
        have ag6 : agS M1 M6 := fun a j _ _ h3 => c0 a j (by omega)
        have m64 : M6 188 64 = M1 188 64 := c0 188 64 (by omega)
        have m54 : M6 188 54 = M1 188 54 := c0 188 54 (by omega)
        have m66 : M6 188 66 = M1 188 66 := c0 188 66 (by omega)
        have fin : ∀ X : pMem, stD M1 X → dQ p2 k l (kI (-1)) (x4 + kI 1) X N → ∃ M2, D_101 (l[i].1 - kI 24) l[i].2 x3 M u M1 ∧ stD M1 M2 ∧ rDays (dyL p2 (kI (-1)) (l.drop (i + 1))) M2 N := by
          intro X hX hq
          have r : ∀ a j, (a = 213 ∨ a = 214 ∨ a = 215) → X a j = M a j := fun a j ha => by
            rw [hX.1.1 a j (by omega) (by rcases ha with rfl | rfl | rfl <;> rfl) (by omega)]
            exact m1 a j ha
          refine ⟨X, h101, hX, hq (i + 1) nx (by omega) (by rw [r 213 k (by omega)]; exact hm) ?_⟩
          rw [show X 214 = M 214 from funext fun j => r 214 j (by omega), show X 215 = M 215 from funext fun j => r 215 j (by omega)]
          exact ho
        have o6 : (¬ (M1 188 64 = kI (-1) ∧ ¬ M1 188 54 = 0)) → cnA M1 M6 := fun q => ⟨ag6, c60, c61, c62, c63, c65, by rw [if_neg q]; exact m64⟩
        rcases hs with ⟨g4, _, hs⟩ | ⟨g4, hs⟩
        · have a6 := o6 (fun q => g4 (m64.trans q.1))
          rcases hs with ⟨g5, hs⟩ | ⟨g5, v2, M7, h55, _, M8, e8, hs⟩
          · exact fin M6 (leaf_0 a6 m66 g5) hs
          · exact fin M8 (leaf_1 a6 m66 g5 h55 e8) hs
        · have g4 := Classical.not_not.mp g4
          rw [m64] at g4
          rcases hs with ⟨g5, _, hs⟩ | ⟨g5, M7, e7, _, hs⟩
          · have a6 := o6 (fun q => q.2 (m54.symm.trans g5))
            rcases hs with ⟨g6, hs⟩ | ⟨g6, v2, M7, h55, _, M8, e8, hs⟩
            · exact fin M6 (leaf_0 a6 m66 g6) hs
            · exact fin M8 (leaf_1 a6 m66 g6 h55 e8) hs
          · have z : ∀ j, j ≠ 64 → M7 188 j = M6 188 j := fun j hj => by rw [e7, aPut_at hj]
            have a7 : cnA M1 M7 := by
              refine ⟨fun a j h1 h2 h3 => ?_, by rw [z 60 (by decide)]; exact c60, by rw [z 61 (by decide)]; exact c61, by rw [z 62 (by decide)]; exact c62, by rw [z 63 (by decide)]; exact c63, by rw [z 65 (by decide)]; exact c65, ?_⟩
              · rw [← ag6 a j h1 h2 h3, e7]
                by_cases e : a = 188
                · subst e
                  exact aPut_at (by omega)
                · exact aPut_cell e
              · rw [if_pos ⟨g4, fun q => g5 (m54.trans q)⟩, e7, aPut_same, c60]
            have n66 : M7 188 66 = M1 188 66 := (z 66 (by decide)).trans m66
            rcases hs with ⟨g6, hs⟩ | ⟨g6, v2, M8, h55, _, M9, e9, hs⟩
            · exact fin M7 (leaf_0 a7 n66 g6) hs
            · exact fin M9 (leaf_1 a7 n66 g6 h55 e9) hs
      · exact Or.inl ⟨Classical.not_not.mp g3, hN⟩
    · -- men on the sly
      have e28 := w28.mpr (k10.mp (Classical.not_not.mp g2))
      have ed : dyL p2 x3 (l[i] :: l.drop (i + 1)) = dyL p2 (if p2 = 0 then x3 else l[i].2) (l.drop (i + 1)) := by
        show (if l[i].1 = kI 28 then dyL p2 (if p2 = 0 then x3 else l[i].2) (l.drop (i + 1)) else _) = _
        rw [if_pos e28]
      rw [ed]
      rcases hs with ⟨g3, hs⟩ | ⟨g3, _, hs⟩
      · rw [if_pos g3]
        exact hs (i + 1) nx (by omega) hm ho
      · rw [if_neg g3]
        exact hs (i + 1) nx (by omega) hm ho
/-- the seven counts, to begin with -/
def cn0 (M : pMem) : Prop := M 188 60 = kI 0 ∧ M 188 61 = kI 0 ∧ M 188 62 = kI 0 ∧ M 188 63 = kI 0 ∧ M 188 64 = kI (-1) ∧ M 188 65 = kI 0 ∧ M 188 66 = kI 0
theorem D_105_d {k : Nat} {p1 p2 : Int32} {M : pMem} {l : List (Int32 × Int32)} (hk : p1.toInt = k) (hk4 : k < 5) (hl : l.length ≤ 24) (hm : (M 213 k).toInt = l.length) (ho : rlOk (M 214) (M 215) (24 * k) l) {v : Unit} {N : pMem} (h : D_105 p1 p2 M v N) :
    ∃ M7, cn0 M7 ∧ (∀ a j, ¬ (a = 188 ∧ 60 ≤ j ∧ j ≤ 66) → M7 a j = M a j) ∧ rDays (dyL p2 (kI (-1)) l) M7 N := by
  obtain ⟨M1, e1, M2, e2, M3, e3, M4, e4, M5, e5, M6, e6, M7, e7, h⟩ := h
  have q7 : ∀ a j, ¬ (a = 188 ∧ 60 ≤ j ∧ j ≤ 66) → M7 a j = M a j := fun a j q => by
    by_cases ea : a = 188
    · subst ea
      rw [e7, aPut_at (by omega), e6, aPut_at (by omega), e5, aPut_at (by omega), e4, aPut_at (by omega), e3, aPut_at (by omega), e2, aPut_at (by omega), e1, aPut_at (by omega)]
    · rw [e7, aPut_cell ea, e6, aPut_cell ea, e5, aPut_cell ea, e4, aPut_cell ea, e3, aPut_cell ea, e2, aPut_cell ea, e1, aPut_cell ea]
  refine ⟨M7, ⟨?_, ?_, ?_, ?_, ?_, ?_, ?_⟩, q7, ?_⟩
  · rw [e7, aPut_at (by decide), e6, aPut_at (by decide), e5, aPut_at (by decide), e4, aPut_at (by decide), e3, aPut_at (by decide), e2, aPut_at (by decide), e1, aPut_same]
  · rw [e7, aPut_at (by decide), e6, aPut_at (by decide), e5, aPut_at (by decide), e4, aPut_at (by decide), e3, aPut_at (by decide), e2, aPut_same]
  · rw [e7, aPut_at (by decide), e6, aPut_at (by decide), e5, aPut_at (by decide), e4, aPut_at (by decide), e3, aPut_same]
  · rw [e7, aPut_at (by decide), e6, aPut_at (by decide), e5, aPut_at (by decide), e4, aPut_same]
  · rw [e7, aPut_at (by decide), e6, aPut_at (by decide), e5, aPut_same]
  · rw [e7, aPut_at (by decide), e6, aPut_same]
  · rw [e7, aPut_same]
  · have x0 : (kI 24 * p1).toInt = ((24 * k + 0 : Nat) : Int) := by
      rw [i_mul (by rw [kI_toInt (by decide) (by decide)]; omega) (by rw [kI_toInt (by decide) (by decide)]; omega), kI_toInt (by decide) (by decide), hk]
      omega
    have r := L_105_d hk hk4 hl h 0 x0 (Nat.zero_le _) (by rw [q7 213 k (by omega)]; exact hm) (by
      rw [show M7 214 = M 214 from funext fun j => q7 214 j (by omega), show M7 215 = M 215 from funext fun j => q7 215 j (by omega)]
      exact ho)
    rw [List.drop_zero] at r
    exact r
/-- the class's days -/
def cDays : List Dy → pMem → pMem → Prop
  | [], M, N => N = M
  | d :: r, M, N => (kI 60 ≤ M 19 4 ∧ N = M) ∨ (¬ kI 60 ≤ M 19 4 ∧ ∃ v M1, D_30 d.1 d.2.1 d.2.2 M v M1 ∧ cDays r M1 N)
theorem D_11_d {k : Nat} {p1 : Int32} {M : pMem} {D : List Dy} (hk : p1.toInt = k) (hk4 : k < 4) (hD : pdOk M (37 + 11 * k) D) {v : Int32} {N : pMem} (h : D_11 p1 M v N) : cDays D M N := by
  have h := tIf_p (f_33_iff.mpr (by omega)) h
  obtain ⟨_, h⟩ := h
  rw [ix_of hk] at h
  have r := (h (fun y x3 x4 M v N => y = 37 + 11 * k → ∀ i : Nat, x4.toInt = i → i ≤ D.length → pdOk M y D → cDays (D.drop i) M N) ?_) rfl 0 rfl (Nat.zero_le _) hD
  · rw [List.drop_zero] at r
    exact r
  · intro y x3 x4 M v N hs hy i hx4 hi hD
    subst hy
    have hl : (M (37 + 11 * k) 0).toInt = D.length := hD.1
    rcases hs with ⟨g1, hv, hN⟩ | ⟨g1, hs⟩
    · rw [i_le, hl, hx4] at g1
      rw [drop_nil (by omega)]
      exact hN
    · rw [i_le, hl, hx4] at g1
      have hi2 : i < D.length := by omega
      rw [drop_at hi2]
      rcases hs with ⟨g2, hv, hN⟩ | ⟨g2, c4, _, _, v1, M1, h30, hs⟩
      · exact Or.inl ⟨g2, hN⟩
      · have i24 := ix_in c4
        rw [ix_of hx4] at h30 i24
        obtain ⟨e1, e2, e3⟩ := hD.2 i D[i] (List.getElem?_eq_getElem hi2)
        rw [e1, e2, e3] at h30
        have f := F_30 h30
        have pr : ∀ o j, o < 4 → M1 (37 + 11 * k + o) j = M (37 + 11 * k + o) j := fun o j ho => f _ _ (by omega) (pl_scr hk4 ho) (by simp only [l_30, pOut_cons, pOut_nil, true_or, and_true]; omega)
        have d1 : pdOk M1 (37 + 11 * k) D := pdOk_eq hD (pr 0 0 (by omega)) (fun i => ⟨pr 1 i (by omega), pr 2 i (by omega), pr 3 i (by omega)⟩)
        exact Or.inr ⟨g2, v1, M1, h30, hs rfl (i + 1) (by rw [i_add1 (by omega)]; omega) (by omega) d1⟩
/-- who belongs to a day is of a camp, or nobody -/
theorem D_101_bo {p1 p2 p3 : Int32} {M : pMem} {v : Unit} {N : pMem} (h : D_101 p1 p2 p3 M v N) : p3 = kI (-1) ∨ bo p3 := by
  obtain ⟨_, _, _, _, _, _, _, _, _, _, h⟩ := h
  rcases h with ⟨g, _⟩ | ⟨_, g, _⟩
  · exact Or.inl g
  · obtain ⟨q1, q2⟩ := ix_in g
    have e : p3.toInt = 0 ∨ p3.toInt = 1 := by omega
    rcases e with e | e
    · exact Or.inr (Or.inl (kI_inj e))
    · exact Or.inr (Or.inr (kI_inj e))
theorem days_T : ∀ {D : List Dy} {M V Mn N : pMem}, rT 18 M V → cDays D M Mn → rDays D V N → rT 18 Mn N := by
  intro D
  induction D with
  | nil =>
    intro M V Mn N h hc hr
    have e1 : Mn = M := hc
    have e2 : N = V := hr
    rw [e1, e2]
    exact h
  | cons d r ih =>
    intro M V Mn N h hc hr
    have e4 : M 19 4 = V 188 3 := h.2.1.1.2.2.2.2.1.1
    have d60 := h.1.2.2
    rcases hc with ⟨g, e1⟩ | ⟨g, v, M1, h30, hc⟩
    · rcases hr with ⟨_, e2⟩ | ⟨g2, _⟩
      · rw [e1, e2]; exact h
      · rw [i_le, kI_toInt (by decide) (by decide), e4] at g
        exact absurd (show V 188 3 = kI 60 from kI_inj (by omega)) g2
    · rw [i_le, kI_toInt (by decide) (by decide), e4] at g
      rcases hr with ⟨g2, _⟩ | ⟨_, u, N1, N2, h101, hst, hr⟩
      · rw [g2, kI_toInt (by decide) (by decide)] at g
        omega
      · have t1 := (day_T h (by omega) (D_101_bo h101) h30 sc_r h101).1
        have cr : cpC 18 18 M1 M1 := cpC_of fun _ _ _ _ _ => rfl
        exact ih (rT_mv t1 cr (agS_T hst.1.1)) hc hr
/-! a text: a law told, on both sides -/
theorem pl_fr {L : List (Nat × Nat)} {M N : pMem} (f : pFr L M N) (k : kV L = true) {a j : Nat} (h : plT a j) : N a j = M a j := by
  obtain ⟨k1, k2⟩ := zAnd k
  rcases plT_in h with q | ⟨e, q⟩
  · obtain ⟨c1, c2, c3⟩ := plRows_sc a q
    exact f a j c1 (pScr_of c2 c3 j) (pNo_out (List.all_eq_true.mp k1 a q) j)
  · subst e
    exact f 188 j (by decide) (pl188_sc j q) (List.all_eq_true.mp k2 j q)
theorem pl_sc {a j : Nat} (h : plT a j) : a < 230 ∧ pScr a j = false := by
  rcases plT_in h with q | ⟨e, q⟩
  · obtain ⟨c1, c2, c3⟩ := plRows_sc a q
    exact ⟨c1, pScr_of c2 c3 j⟩
  · subst e
    exact ⟨by decide, pl188_sc j q⟩
def lwP (k a j : Nat) : Prop := ((a = 204 ∨ a = 209) ∧ j = k) ∨ (205 ≤ a ∧ a ≤ 208 ∧ 16 * k ≤ j ∧ j < 16 * k + 16) ∨ ((a = 210 ∨ a = 211) ∧ 500 * k ≤ j ∧ j < 500 * k + 500)
theorem pl_77 {M N : pMem} {v : Int32} (h77 : D_77 M v N) (h38 : M 188 38 = kI 0) {a j : Nat} (h : plT a j) : N a j = M a j := by
  obtain ⟨_, k1, k2⟩ := D_77_i h77 (by rw [h38]; decide)
  obtain ⟨s1, s2⟩ := pl_sc h
  by_cases c1 : 205 ≤ a ∧ a ≤ 208
  · exact k1 a j (by omega) (by unfold plT at h; omega)
  · by_cases c2 : a = 210 ∨ a = 211
    · exact k2 a j c2 (by unfold plT at h; omega)
    · exact F_77 h77 a j s1 s2 (by unfold plT at h; simp only [l_77, pOut_cons, pOut_nil, true_or, and_true]; omega)
theorem pl_no {a j : Nat} (h : plT a j) : ¬ (a = 188 ∧ (j = 0 ∨ (24 ≤ j ∧ j ≤ 45))) ∧ a ≠ 212 ∧ a ≠ 213 ∧ a ≠ 214 ∧ a ≠ 215 := by
  unfold plT at h
  omega
theorem p8_at {M : pMem} {a j i : Nat} {x : Int32} (h : ¬ (a = 188 ∧ (j = 0 ∨ (24 ≤ j ∧ j ≤ 45)))) (hi : i = 0 ∨ (24 ≤ i ∧ i ≤ 45)) : aPut M 188 i x a j = M a j := by
  by_cases e : a = 188
  · subst e
    exact aPut_at (fun q => h ⟨rfl, by omega⟩)
  · exact aPut_cell e
/-- up to the reading -/
theorem pl_pre {M M1 M2 M3 M4 M5 M6 M7 : pMem} {u : Unit} (e1 : M1 = aPut M 188 0 (kI 0)) (e2 : M2 = aPut M1 188 44 (kI 0)) (e3 : M3 = aPut M2 188 45 (kI (-1))) (e4 : M4 = aPut M3 188 25 (kI 0)) (e5 : M5 = aPut M4 188 38 (kI 0)) (e6 : M6 = aPut M5 188 39 (kI 0)) (h65 : D_65 M6 u M7) {a j : Nat} (h : plT a j) : M7 a j = M a j := by
  have q := (pl_no h).1
  rw [pl_fr (F_65 h65) (by decide +kernel) h, e6, p8_at q (by omega), e5, p8_at q (by omega), e4, p8_at q (by omega), e3, p8_at q (by omega), e2, p8_at q (by omega), e1, p8_at q (by omega)]
/-- no law told -/
theorem D_81_o {M N : pMem} {p1 p2 v : Int32} (c : ¬ (p1 = kI 0 ∧ 0 ≤ p2.toInt ∧ p2.toInt < 4)) (h : D_81 p1 p2 M v N) {a j : Nat} (hp : plT a j) : N a j = M a j := by
  have q := (pl_no hp).1
  have behind : ∀ {x3 s0 : Int32} {X : pMem}, (¬ p1 = 0 ∨ s0 = kI (-1)) → X a j = M a j → L_81_9 p1 p2 x3 s0 X v N → N a j = M a j := by
    intro x3 s0 X hz hX hL
    obtain ⟨Ma, ea, hs⟩ := L_81_w hL
    have ra : Ma a j = M a j := by rw [ea, p8_at q (by omega)]; exact hX
    have tk : ∀ {Y : pMem}, Y a j = M a j → ¬ s0 = kI (-1) → (tIf (¬ p1 = 0) (tCall (D_80 p2 s0 Y) fun _ M2 => tRet s0 M2) (tCall (D_78 p2 s0 Y) fun _ M2 => tRet s0 M2)) v N → N a j = M a j := by
      intro Y hY hne hs
      obtain ⟨_, M2, h80, _, hN⟩ := tIf_p (hz.resolve_right hne) hs
      rw [hN, pl_fr (F_80 h80) (by decide +kernel) hp]
      exact hY
    rcases hs with ⟨_, hs⟩ | ⟨_, hs⟩
    · rcases hs with ⟨g, hs⟩ | ⟨_, _, hN⟩
      · exact tk ra g hs
      · rw [hN]; exact ra
    · rcases hs with ⟨g, hs⟩ | ⟨_, Mb, eb, Mc, ec, hs⟩
      · rcases hs with ⟨_, hs⟩ | ⟨_, _, hN⟩
        · exact tk ra g hs
        · rw [hN]; exact ra
      · have rc : Mc a j = M a j := by rw [ec, p8_at q (by omega), eb, p8_at q (by omega)]; exact ra
        rcases hs with ⟨g, hs⟩ | ⟨_, _, hN⟩
        · exact tk rc g hs
        · rw [hN]; exact rc
  obtain ⟨M1, e1, M2, e2, M3, e3, h⟩ := h
  rcases h with ⟨_, M4, e4, M5, e5, M6, e6, u, M7, h65, h⟩ | ⟨g1, h⟩
  · exact behind (Or.inr rfl) (pl_pre e1 e2 e3 e4 e5 e6 h65 hp) h
  · rcases h with ⟨_, M4, e4, M5, e5, M6, e6, u, M7, h65, h⟩ | ⟨g2, M4, e4, M5, e5, M6, e6, u, M7, h65, h⟩
    · exact behind (Or.inr rfl) (pl_pre e1 e2 e3 e4 e5 e6 h65 hp) h
    · have g2 := f_42_iff.mp g2
      rw [i_le, i_le, kI_toInt (by decide) (by decide), kI_toInt (by decide) (by decide)] at g2
      have p0 : ¬ p1 = 0 := fun e => c ⟨e, by omega, by omega⟩
      obtain ⟨v2, M8, h79, h⟩ := tIf_p p0 h
      refine behind (Or.inl p0) ?_ h
      rw [pl_fr (F_79 h79) (by decide +kernel) hp]
      exact pl_pre e1 e2 e3 e4 e5 e6 h65 hp
/-- a law told: taken, or none of what is told changed -/
theorem D_81_l {M : pMem} {B : Nat → Int32} {n k : Nat} {p1 p2 : Int32} (hn : n ≤ 500) (hp : xPre M B n) (hB : ∀ i, i < n → 0 ≤ (B i).toInt) (h1 : p1 = kI 0) (hk : p2.toInt = k) (hk4 : k < 4) {v : Int32} {N : pMem} (h : D_81 p1 p2 M v N) :
    ∃ r, laR (yT B n) (yV B n) 16 0 [] r ∧ (r.1 = 0 → rfLaw (N 204 k) (N 205) (N 206) (N 207) (N 208) (16 * k) (N 209 k) (N 210) (N 211) (500 * k) r.2.2.1 r.2.2.2 ∧ (rcO r.2.2.1).length ≤ 500 ∧ wfLw r.2.2.1 r.2.2.2 ∧ ∀ a j, plT a j → ¬ lwP k a j → N a j = M a j) ∧
      (r.1 ≠ 0 → ∀ a j, plT a j → N a j = M a j) := by
  obtain ⟨M1, e1, M2, e2, M3, e3, h⟩ := h
  have h := tIf_n (f_42_iff.mpr (by rw [h1]; decide)) h
  have h := tIf_n (f_42_iff.mpr (by rw [i_le, i_le, hk, kI_toInt (by decide) (by decide), kI_toInt (by decide) (by decide)]; omega)) h
  obtain ⟨M4, e4, M5, e5, M6, e6, _, M7, h65, h⟩ := h
  have pre7 : ∀ {a j : Nat}, plT a j → M7 a j = M a j := fun hp => pl_pre e1 e2 e3 e4 e5 e6 h65 hp
  have h := tIf_n (show ¬ ¬ p1 = 0 from nn h1) h
  obtain ⟨v2, M8, h77, h⟩ := h
  have p6 : xPre M6 B n := by
    rw [e6, e5, e4, e3, e2, e1]
    exact xPre_put (xPre_put (xPre_put (xPre_put (xPre_put (xPre_put hp (by decide)) (by decide)) (by decide)) (by decide)) (by decide)) (by decide)
  have f7 := F_65 h65
  have r7 : rR M7 B n 0 := by
    have q := D_65_w hn hB h65 p6 0 (by rw [e6, aPut_at (by decide), e5, aPut_at (by decide), e4, aPut_same]; rfl) (Nat.zero_le _)
    refine ⟨?_, hn, hB, q⟩
    obtain ⟨q1, q2, q3⟩ := p6
    refine ⟨by rw [f7 188 24 (by decide) rfl rfl]; exact q1, ?_, fun j hj => ?_⟩
    · rw [← q2]
      funext i
      exact f7 202 i (by decide) rfl rfl
    · rw [f7 203 j (by decide) rfl rfl]
      exact q3 j hj
  have m38 : M7 188 38 = kI 0 := by rw [f7 188 38 (by decide) rfl rfl, e6, aPut_at (by decide), e5, aPut_same]
  have m39 : M7 188 39 = kI 0 := by rw [f7 188 39 (by decide) rfl rfl, e6, aPut_same]
  obtain ⟨r, r1, r2, r3⟩ := D_77_w r7 m38 m39 h77
  have pre8 : ∀ {a j : Nat}, plT a j → M8 a j = M a j := fun hp => (pl_77 h77 m38 hp).trans (pre7 hp)
  refine ⟨r, r1, ?_⟩
  obtain ⟨Ma, ea, hs⟩ := L_81_w h
  have prea : ∀ {a j : Nat}, plT a j → Ma a j = M a j := fun hp => by rw [ea, p8_at (pl_no hp).1 (by omega)]; exact pre8 hp
  have hs := tIf_n (show ¬ kI 1 = 0 by decide) hs
  by_cases c : r.1 = 0
  · obtain ⟨a1, b1, b2⟩ := r2 c
    obtain ⟨_, wf, l16⟩ := laR_ty (fun k hk => yV_rg hk) r1 c
    have hne : ¬ v2 = kI (-1) := by
      rw [yk (by decide) (by decide), a1]
      omega
    have hs := tIf_p hne hs
    have hs := tIf_p hne hs
    have hs := tIf_n (show ¬ ¬ p1 = 0 from nn h1) hs
    obtain ⟨_, Mb, h78, hv, hN⟩ := hs
    obtain ⟨⟨i0, i5⟩, _⟩ := D_77_i h77 (by rw [m38]; decide)
    have c38 : (Ma 188 38).toInt = (rcO r.2.2.1).length := by rw [ea, aPut_at (by decide)]; exact b1.1
    have l500 : (rcO r.2.2.1).length ≤ 500 := by
      have := b1.1
      omega
    obtain ⟨w1, w2, w3, w4, w5, w6, w7⟩ := D_78_w hk hk4 a1 l16 c38 l500 h78
    subst hN
    have ma : ∀ b i, b ≠ 188 → Ma b i = M8 b i := fun b i q => by rw [ea, aPut_cell q]
    refine ⟨fun _ => ⟨⟨w1, w2, fun i x hi => ?_, fun i x hi => ?_⟩, l500, wf, fun a j hpl hnl => ?_⟩, fun e => absurd c e⟩
    · have hl := (List.getElem?_eq_some_iff.mp hi).1
      rw [(w5 i hl).1, (w5 i hl).2, ma 210 _ (by decide), ma 211 _ (by decide)]
      exact b1.2 i x hi
    · have hl := (List.getElem?_eq_some_iff.mp hi).1
      obtain ⟨d1, d2, d3, d4⟩ := w4 i hl
      rw [d1, d2, d3, d4, ma 205 _ (by decide), ma 206 _ (by decide), ma 207 _ (by decide), ma 208 _ (by decide)]
      exact b2 i x hi
    · rw [← prea hpl]
      unfold lwP at hnl
      by_cases q1 : a = 204 ∨ a = 209
      · have w := w3 j (fun e => hnl (Or.inl ⟨q1, e⟩))
        rcases q1 with rfl | rfl
        · exact w.1
        · exact w.2
      · by_cases q2 : 205 ≤ a ∧ a ≤ 208
        · obtain ⟨d1, d2, d3, d4⟩ := w6 j (by omega)
          have e : a = 205 ∨ a = 206 ∨ a = 207 ∨ a = 208 := by omega
          rcases e with rfl | rfl | rfl | rfl
          · exact d1
          · exact d2
          · exact d3
          · exact d4
        · by_cases q3 : a = 210 ∨ a = 211
          · have w := w7 j (by omega)
            rcases q3 with rfl | rfl
            · exact w.1
            · exact w.2
          · obtain ⟨s1, s2⟩ := pl_sc hpl
            exact F_78 h78 a j s1 s2 (by simp only [l_78, pOut_cons, pOut_nil, true_or, and_true]; omega)
  · obtain ⟨a1, a2, a3⟩ := r3 c
    have hs := tIf_n (nn a1) hs
    obtain ⟨Mb, eb, Mc, ec, hs⟩ := hs
    have hs := tIf_n (nn a1) hs
    obtain ⟨hv, hN⟩ := hs
    refine ⟨fun e => absurd e c, fun _ a j hpl => ?_⟩
    have q := (pl_no hpl).1
    rw [hN, ec, p8_at q (by omega), eb, p8_at q (by omega)]
    exact prea hpl
theorem rLw_q {l : Nat} {M N V U : pMem} {k : Nat} (h : rLw l M V k) (c : ∀ b, l ≤ b → b ≤ l + 5 → ∀ j, N b j = M b j) (a0 : U 204 k = V 204 k ∧ U 209 k = V 209 k) (a2 : ∀ i, i < 16 → U 205 (16 * k + i) = V 205 (16 * k + i) ∧ U 206 (16 * k + i) = V 206 (16 * k + i) ∧ U 207 (16 * k + i) = V 207 (16 * k + i) ∧ U 208 (16 * k + i) = V 208 (16 * k + i)) (a3 : ∀ i, i < 500 → U 210 (500 * k + i) = V 210 (500 * k + i) ∧ U 211 (500 * k + i) = V 211 (500 * k + i)) : rLw l N U k := by
  obtain ⟨o, L, cl, ⟨g1, g2, g3, g4⟩, h7, h8⟩ := h
  have l16 := cl.2.1
  refine ⟨o, L, clLaw_eq cl fun b h1 h2 => funext fun j => c b h1 h2 j, ⟨by rw [a0.1]; exact g1, by rw [a0.2]; exact g2, fun i x hi => ?_, fun i x hi => ?_⟩, h7, h8⟩
  · have hl := (List.getElem?_eq_some_iff.mp hi).1
    rw [(a3 i (by omega)).1, (a3 i (by omega)).2]
    exact g3 i x hi
  · have hl := (List.getElem?_eq_some_iff.mp hi).1
    obtain ⟨d1, d2, d3, d4⟩ := a2 i (by omega)
    rw [d1, d2, d3, d4]
    exact g4 i x hi
/-- a law comes in the place of the k-th -/
theorem rT_law {M V N U : pMem} (h : rT 18 M V) {k : Nat} (hk : k < 4) {o : List Cd} {L : List Ln} (hc : clLaw N (30 + 11 * k) o L) (hr : rfLaw (U 204 k) (U 205) (U 206) (U 207) (U 208) (16 * k) (U 209 k) (U 210) (U 211) (500 * k) o L) (hl : (rcO o).length ≤ 500) (hw : wfLw o L)
    (c : ∀ a j, 18 ≤ a → a < 74 → (∀ q, q < 4 → a ≠ 36 + 11 * q) → ¬ (30 + 11 * k ≤ a ∧ a ≤ 35 + 11 * k) → N a j = M a j) (d : ∀ a j, plT a j → ¬ lwP k a j → U a j = V a j) : rT 18 N U := by
  obtain ⟨⟨h1, h2, h3⟩, ⟨h5, h6⟩, h7, h8, ⟨g1, g1'⟩, ⟨g2, g2'⟩, g3, g4⟩ := h
  have e : ∀ a j, plT a j → (a < 204 ∨ 211 < a) → U a j = V a j := fun a j q1 q2 => d a j q1 (by unfold lwP; omega)
  have e8 : ∀ j, (j = 1 ∨ j = 2 ∨ j = 3 ∨ j = 4 ∨ j = 17 ∨ j = 18 ∨ j = 19 ∨ j = 20 ∨ j = 21 ∨ j = 71) → U 188 j = V 188 j := fun j hj => e 188 j (Or.inl ⟨rfl, hj⟩) (by omega)
  have er : ∀ a j, (a < 204 ∨ 211 < a) → a ≠ 188 → plT a j → U a j = V a j := fun a j q1 _ q2 => e a j q2 q1
  have a0 : agV V U := by
    refine ⟨⟨e8 1 (by omega), e8 2 (by omega), e8 3 (by omega), e8 17 (by omega), e8 18 (by omega), e8 19 (by omega), e8 20 (by omega), e8 21 (by omega)⟩, fun i hi => ⟨?_, ?_, ?_⟩, fun k hk => ⟨?_, ?_⟩, fun l hl => ⟨?_, ?_, ?_, ?_, ?_⟩⟩
    all_goals (refine e _ _ ?_ (by omega); unfold plT; omega)
  have cc : ∀ a j, 18 ≤ a → a < 30 → N a j = M a j := fun a j q1 q2 => c a j q1 (by omega) (fun q hq => by omega) (by omega)
  have wm : rW 19 N V := rW_mv (w := 19) h5 (fun j _ => cc _ _ (by omega) (by omega)) (fun i _ => ⟨cc _ _ (by omega) (by omega), cc _ _ (by omega) (by omega)⟩) (fun i _ => cc _ _ (by omega) (by omega)) (fun i _ => cc _ _ (by omega) (by omega))
  refine ⟨⟨rV_cg h1 a0, rVl_cg h2 a0 fun i hi => e 192 i (by unfold plT; omega) (by omega), by rw [e8 3 (by omega)]; exact h3⟩, ⟨rW_cg wm a0, rLo_mv h6 (cc 19 3 (by omega) (by omega)) fun i hi => e 192 i (by unfold plT; omega) (by omega)⟩, fun q hq => ?_, fun q hq => ?_, ⟨?_, by rw [e8 4 (by omega)]; exact g1'⟩, ⟨?_, by rw [e8 71 (by omega)]; exact g2'⟩, fun i hi => ?_, fun i hi => ?_⟩
  · show N 26 q = U 201 q
    rw [cc 26 q (by omega) (by omega), e 201 q (by unfold plT; omega) (by omega)]
    exact h7 q hq
  · by_cases ek : q = k
    · subst ek
      exact ⟨o, L, hc, hr, hl, hw⟩
    · refine rLw_q (h8 q hq) (fun b q1 q2 j => c b j (by omega) (by omega) (fun x hx => by omega) (by omega)) ⟨d 204 q (by unfold plT; omega) (by unfold lwP; omega), d 209 q (by unfold plT; omega) (by unfold lwP; omega)⟩ (fun i hi => ⟨d 205 _ (by unfold plT; omega) (by unfold lwP; omega), d 206 _ (by unfold plT; omega) (by unfold lwP; omega), d 207 _ (by unfold plT; omega) (by unfold lwP; omega), d 208 _ (by unfold plT; omega) (by unfold lwP; omega)⟩)
        (fun i hi => ⟨d 210 _ (by unfold plT; omega) (by unfold lwP; omega), d 211 _ (by unfold plT; omega) (by unfold lwP; omega)⟩)
  · rw [cc 18 7 (by omega) (by omega), e8 4 (by omega)]; exact g1
  · rw [cc 18 8 (by omega) (by omega), e8 71 (by omega)]; exact g2
  · rw [cc _ _ (by omega) (by omega), e 226 i (by unfold plT; omega) (by omega), e 227 i (by unfold plT; omega) (by omega)]
    exact g3 i hi
  · rw [cc _ _ (by omega) (by omega), e 193 i (by unfold plT; omega) (by omega)]
    exact g4 i hi
theorem op_text_T {p1 p2 v u : Int32} {M M1 M2 : pMem} (hA : rA M) (h : rT 18 M M) (h1 : D_7 p1 p2 M v M1) (h2 : D_81 p1 p2 M1 u M2) : rT 18 M2 M2 := by
  obtain ⟨⟨t1, t2, t3, t4, t5, t6⟩, _⟩ := hA
  obtain ⟨n, hnn⟩ : ∃ n : Nat, (M 1 0).toInt = n := ⟨(M 1 0).toInt.toNat, by omega⟩
  have n5 : n ≤ 500 := by omega
  have f1 := D_7_f n5 hnn h1
  have f2 := F_81 h2
  have c2 : ∀ a j, 18 ≤ a → a < 74 → (∀ q, q < 4 → a ≠ 36 + 11 * q) → M2 a j = M1 a j := fun a j q1 q2 q3 => by
    obtain ⟨s1, s2⟩ := scR (s := 18) (Or.inl rfl) q1 (by omega) (fun k hk => by have := q3 k hk; omega) j
    exact f2 a j (by omega) s2 (by simp only [l_81, pOut_cons, pOut_nil, true_or, and_true]; omega)
  have o1 : ∀ a j, a < 230 → pScr a j = false → 74 ≤ a → M1 a j = M a j := fun a j q1 q2 q3 => f1 a j q1 q2 (by omega) (fun _ q => Or.inr (by omega)) (fun _ q => by omega)
  have v1 : ∀ a j, plT a j → M1 a j = M a j := fun a j hp => by
    obtain ⟨s1, s2⟩ := pl_sc hp
    exact o1 a j s1 s2 (by have := (pl_hi hp).1; omega)
  have c1 : ∀ a j, 18 ≤ a → a < 74 → (∀ q, q < 4 → a ≠ 36 + 11 * q) → (p1 = kI 0 → ix p2 < 4 → v = kI (-1) ∨ ¬ (30 + 11 * ix p2 ≤ a ∧ a ≤ 35 + 11 * ix p2)) → (∀ q, q < 4 → ¬ (37 + 11 * q ≤ a ∧ a ≤ 40 + 11 * q)) → M1 a j = M a j := fun a j q1 q2 q3 q4 q5 => by
    obtain ⟨s1, s2⟩ := scR (s := 18) (Or.inl rfl) q1 (by omega) (fun k hk => by have := q3 k hk; omega) j
    exact f1 a j (by omega) s2 q1 q4 (fun _ q => q5 _ q)
  -- nothing of all this told anew
  have stay : (p1 = kI 0 → ix p2 < 4 → v = kI (-1)) → (∀ a j, plT a j → M2 a j = M1 a j) → rT 18 M2 M2 := fun q1 q2 => by
    refine rT_mv h ?_ (agT_of fun a j hp => (q2 a j hp).trans (v1 a j hp))
    have cx : ∀ a j, 18 ≤ a → a < 74 → (∀ q, q < 4 → a ≠ 36 + 11 * q) → (∀ q, q < 4 → ¬ (37 + 11 * q ≤ a ∧ a ≤ 40 + 11 * q)) → M2 a j = M a j := fun a j z1 z2 z3 z4 => (c2 a j z1 z2 z3).trans (c1 a j z1 z2 z3 (fun e1 e2 => Or.inl (q1 e1 e2)) z4)
    refine ⟨fun j _ => ?_, fun i _ => ⟨?_, ?_⟩, fun i _ => ?_, fun i _ => ?_, fun k hk => ⟨?_, fun i _ => ⟨?_, ?_, ?_, ?_⟩, fun i _ => ?_⟩, fun i _ => ?_, fun i _ => ⟨?_, ?_⟩, ?_, ?_⟩
    all_goals (refine cx _ _ (by omega) (by omega) (fun q hq => by omega) (fun q hq => by omega))
  by_cases c : p1 = kI 0 ∧ 0 ≤ p2.toInt ∧ p2.toInt < 4
  · obtain ⟨p0, g1, g2⟩ := c
    obtain ⟨k, hkk⟩ : ∃ k : Nat, p2.toInt = k := ⟨p2.toInt.toNat, by omega⟩
    have hk4 : k < 4 := by omega
    have pre : xPre M1 (M 202) n := ⟨by rw [o1 188 24 (by decide) rfl (by omega), ← t1]; exact hnn, funext fun i => o1 202 i (by decide) rfl (by omega), fun j hj => by rw [o1 203 j (by decide) rfl (by omega)]; exact t6 j hj⟩
    have cg : ∀ i, i < n → M 2 i = M 202 i := fun i hi => t2 i (by omega)
    obtain ⟨r, w1, w2, w3⟩ := D_7_law n5 hnn p0 hkk hk4 h1
    obtain ⟨r', r1, r2, r3⟩ := D_81_l n5 pre (fun i hi => t5 i (by omega)) p0 hkk hk4 h2
    rw [yT_cg cg, yV_cg cg] at w1
    obtain rfl := laR_det w1 r1
    by_cases e0 : r.1 = 0
    · obtain ⟨a1, a2, a3, a4⟩ := w2 e0
      obtain ⟨b1, b2, b3, b4⟩ := r2 e0
      have a4' : clLaw M2 (30 + 11 * k) r.2.2.1 r.2.2.2 := clLaw_eq a4 fun b q1 q2 => funext fun j => c2 b j (by omega) (by omega) (fun q hq => by omega)
      refine rT_law h hk4 a4' b1 b2 b3 (fun a j q1 q2 q3 q4 => ?_) fun a j q1 q2 => (b4 a j q1 q2).trans (v1 a j q1)
      by_cases pl : ∃ q, q < 4 ∧ 37 + 11 * q ≤ a ∧ a ≤ 40 + 11 * q
      · -- a plan's place: kept, as it is no plan that was told
        obtain ⟨s1, s2⟩ := scR (s := 18) (Or.inl rfl) q1 (by omega) (fun k hk => by have := q3 k hk; omega) j
        rw [c2 a j q1 q2 q3]
        exact f1 a j (by omega) s2 q1 (fun _ _ => Or.inr (by rw [ix_of hkk]; exact q4)) (fun e => by rw [p0] at e; exact absurd e k01)
      · exact (c2 a j q1 q2 q3).trans (c1 a j q1 q2 q3 (fun _ _ => Or.inr (by rw [ix_of hkk]; exact q4)) (fun q hq hh => pl ⟨q, hq, hh⟩))
    · obtain ⟨a1, _, _⟩ := w3 e0
      exact stay (fun _ _ => a1) (r3 e0)
  · refine stay (fun e1 e2 => ?_) fun a j hp => D_81_o c h2 hp
    -- no such law: the class says so too
    have cn : ¬ ((p1 = kI 0 ∨ p1 = kI 1) ∧ 0 ≤ p2.toInt ∧ p2.toInt < 4) := fun q => c ⟨e1, q.2⟩
    exact (D_7_no n5 hnn cn h1).1
theorem op_text_F {p1 p2 v u : Int32} {M M1 M2 : pMem} (h : rF M) (h1 : D_7 p1 p2 M v M1) (h2 : D_81 p1 p2 M1 u M2) : rF M2 := by
  refine ⟨op_text h.1 h1 h2, op_text_T h.1 h.2.1 h1 h2, rI_fr (F_81 h2) (by decide +kernel) ?_⟩
  obtain ⟨n, hnn⟩ : ∃ n : Nat, (M 1 0).toInt = n := ⟨(M 1 0).toInt.toNat, by have := h.1.1; obtain ⟨t1, t2, t3, t4, t5, t6⟩ := this; omega⟩
  have n5 : n ≤ 500 := by have := h.1.1; obtain ⟨t1, t2, t3, t4, t5, t6⟩ := this; omega
  have f1 := D_7_f n5 hnn h1
  have o1 : ∀ a j, a < 230 → pScr a j = false → 74 ≤ a → M1 a j = M a j := fun a j q1 q2 q3 => f1 a j q1 q2 (by omega) (fun _ q => Or.inr (by omega)) (fun _ q => by omega)
  refine rI_keep h.2.2 (F_7 h1 0 8 (by decide) rfl (by simp only [l_7, pOut_cons, pOut_nil, true_or, and_true]; omega)) (funext fun j => o1 229 j (by decide) rfl (by decide)) fun a j q1 q2 q3 => ?_
  obtain ⟨s1, s2⟩ := scR (s := 74) (Or.inr rfl) q1 (by omega) (fun k hk => by have := q3 k hk; omega) j
  exact o1 a j (by omega) s2 q1
/-! a day, the days of a plan: all of it kept, and what day answers -/
theorem cp_r {t : Nat} {M : pMem} : cpC t t M M := cpC_of fun _ _ _ _ _ => rfl
theorem op_day_F {p1 p2 p3 v u : Int32} {M M1 M2 : pMem} (h : rF M) (h1 : D_10 p1 p2 p3 M v M1) (h2 : D_104 p1 p2 p3 M1 u M2) : v = u ∧ rF M2 := by
  have hA := op_day h.1 h1 h2
  obtain ⟨hr, hT, hI⟩ := h
  have f1 := F_10 h1
  have f2 := F_104 h2
  have hI2 := rI_fr f2 (by decide +kernel) (rI_fr f1 (by decide +kernel) hI)
  -- the class's run leaves the reference's places
  have t1 : rT 18 M M1 := rT_mv hT cp_r (kV_s f1 (by decide +kernel))
  obtain ⟨_, ⟨_, n2, _, _, n5⟩, _⟩ := hr
  have m3 : M1 188 3 = M 188 3 := f1 188 3 (by decide) rfl (by simp only [l_10, pOut_cons, pOut_nil, true_or, and_true]; omega)
  obtain ⟨Ma, ea, h2⟩ := D_104_c h2 (by rw [m3, ← n2]; exact n5.2)
  rw [m3, ← n2] at h2
  have back : rT 18 M1 M2 → rT 18 M2 M2 := fun t => rT_mv t (cpC_of (kC_s (Or.inl rfl) f2 (by decide +kernel))) agT_r
  rcases D_10_c h1 with ⟨d1, h30⟩ | ⟨d1, hv, hM⟩
  · rcases h2 with ⟨_, ⟨u', h101⟩, hu⟩ | ⟨d2, _⟩
    · have hs : sc M1 Ma := by
        rw [ea]
        exact sc_s sc_r rfl
      obtain ⟨a1, a2⟩ := day_T t1 (by rw [m3, ← n2]; exact d1.2.2.2.2) (D_101_bo h101) h30 hs h101
      exact ⟨by rw [a2, hu], hA, back a1, hI2⟩
    · exact absurd d1 d2
  · rcases h2 with ⟨d2, _⟩ | ⟨_, hu, hN⟩
    · exact absurd d2 d1
    · refine ⟨by rw [hv, hu], hA, ?_, hI2⟩
      rw [hN, ea, hM]
      exact rT_0 hT
theorem op_plan_F {p1 v u : Int32} {M M1 M2 : pMem} (h : rF M) (h1 : D_11 p1 M v M1) (h2 : D_106 p1 M1 u M2) : rF M2 := by
  have hA := (op_plan h.1 h1 h2).2
  obtain ⟨hr, hT, hI⟩ := h
  have f1 := F_11 h1
  have f2 := F_106 h2
  have hI2 := rI_fr f2 (by decide +kernel) (rI_fr f1 (by decide +kernel) hI)
  have ag := kV_s f1 (by decide +kernel)
  refine ⟨hA, ?_, hI2⟩
  obtain ⟨_, _, _, _, p, _⟩ := hr
  obtain ⟨Ma, ea, h2⟩ := h2
  have a : ∀ b j, ¬ (b = 188 ∧ j = 0) → Ma b j = M1 b j := fun b j hj => by rw [ea]; exact p0_at hj
  by_cases g : 0 ≤ p1.toInt ∧ p1.toInt < 4
  · obtain ⟨q, hq⟩ : ∃ q : Nat, p1.toInt = q := ⟨p1.toInt.toNat, by omega⟩
    have hq4 : q < 4 := by omega
    obtain ⟨_, M3, h105, hu, hN⟩ := tIf_p (f_42_iff.mpr ⟨by rw [i_le, kI0]; exact g.1, by rw [i_le, kI_toInt (by decide) (by decide)]; omega⟩) h2
    obtain ⟨l, l1, l2, l3, l4⟩ := p q hq4
    have hc := D_11_d hq hq4 l4 h1
    rw [dyL_fold (p := kI 1) (by decide), List.nil_append] at hc
    have rr : ∀ b j, (b = 213 ∨ b = 214 ∨ b = 215) → Ma b j = M b j := fun b j hb => by
      rw [a b j (by omega), f1 b j (by omega) (by rcases hb with rfl | rfl | rfl <;> rfl) (by simp only [l_11, pOut_cons, pOut_nil, true_or, and_true]; omega)]
    obtain ⟨M7, _, e7, hd⟩ := D_105_d (l := l) hq (by omega) l1 (by rw [rr 213 q (by omega)]; exact l2) (by
      rw [show Ma 214 = M 214 from funext fun j => rr 214 j (by omega), show Ma 215 = M 215 from funext fun j => rr 215 j (by omega)]
      exact l3) h105
    have t7 : rT 18 M M7 := rT_mv (rT_mv hT cp_r ag) cp_r (agT_of fun b j hp => by
      rw [e7 b j (by unfold plT at hp; omega), a b j (pl_hi hp).2.2.2])
    have t3 := days_T t7 hc hd
    rw [hN] at f2 ⊢
    exact rT_mv t3 (cpC_of (kC_s (Or.inl rfl) f2 (by decide +kernel))) agT_r
  · have n1 : ¬ ¬ f_33 p1 = 0 := fun q => g (f_33_iff.mp q)
    obtain ⟨_, hM⟩ := tIf_n n1 h1
    obtain ⟨_, hN⟩ := tIf_n (fun q => g (by
      have q := f_42_iff.mp q
      rw [i_le, i_le, kI0, kI_toInt (by decide) (by decide)] at q
      omega)) h2
    rw [hN, ea, hM]
    exact rT_0 hT
/-! nothing told yet, on both sides -/
theorem rT_start {M : pMem} (f0 : ∀ j, j < 9 → M 19 j = 0) (f9 : M 19 9 = kI (-1) ∧ M 19 10 = kI (-1)) (a24 : ∀ i, i < 24 → M 20 i = 0 ∧ M 21 i = 0 ∧ M 29 i = 0 ∧ M 28 i = kI (-100)) (a576 : ∀ i, i < 576 → M 22 i = 0) (a18 : ∀ i, i < 18 → M 23 i = 0) (a480 : ∀ i, i < 480 → M 26 i = 0)
    (l4 : ∀ k, k < 4 → M (30 + 11 * k) 0 = 0) (t7 : M 18 7 = 0 ∧ M 18 8 = 0) (v8 : ∀ j, (j = 1 ∨ j = 2 ∨ j = 3 ∨ j = 4 ∨ j = 17 ∨ j = 18 ∨ j = 19 ∨ j = 71) → M 188 j = 0) (v20 : M 188 20 = kI (-1) ∧ M 188 21 = kI (-1))
    (r24 : ∀ i, i < 24 → M 189 i = 0 ∧ M 190 i = 0 ∧ M 191 i = 0 ∧ M 192 i = 0 ∧ M 193 i = 0 ∧ M 226 i = 0) (r576 : ∀ i, i < 576 → M 194 i = 0 ∧ M 195 i = 0) (r2 : ∀ i, i < 2 → M 196 i = 0 ∧ M 197 i = 0 ∧ M 198 i = 0 ∧ M 199 i = 0 ∧ M 200 i = 0) (r480 : ∀ i, i < 480 → M 201 i = 0) (r4 : ∀ i, i < 4 → M 204 i = 0 ∧ M 209 i = 0) : rT 18 M M := by
  have b0 : ∀ i, bt (0 : Int32) i = false := fun i => bt_0
  have n1 : decide ((0 : Int32) = kI 1) = false := by decide
  have nb0 : ∀ {x : Int32}, x = 0 → nb x := fun e i _ => by rw [e]; exact b0 i
  have rn : rNb M 0 := ⟨by decide, by rw [v8 2 (by omega)]; rfl, fun i _ hi => (r24 i hi).2.2.1⟩
  refine ⟨⟨⟨⟨0, rn⟩, fun i hi => ⟨Or.inl (r24 i hi).1, Or.inl (r24 i hi).2.2.1⟩, fun k hk => Or.inl (r576 k hk).2, fun l hl => by rw [(r2 l hl).1]; decide⟩, ⟨0, rn, fun i hi => ⟨Or.inl (r24 i hi).2.2.2.1, fun _ => ⟨(r24 i hi).2.2.2.1, (r24 i hi).1⟩⟩⟩, by rw [v8 3 (by omega)]; decide, by rw [v8 3 (by omega)]; decide⟩,
    ⟨?_, nb0 (f0 3 (by decide)), fun i hi => ?_⟩, fun k hk => ?_, fun k hk => ?_, ?_⟩
  · show rW 19 M M
    refine ⟨by rw [f0 0 (by decide), v8 2 (by omega)], ⟨nb0 (f0 1 (by decide)), nb0 (f0 2 (by decide))⟩, fun i hi => ⟨?_, ?_, ?_⟩, fun i j hi hj => ⟨?_, ?_⟩, ?_, fun l hl => ⟨?_, ?_, ?_, ?_, ?_⟩⟩
    · rw [f0 1 (by decide), b0, (r24 i hi).1, n1]
    · rw [f0 2 (by decide), b0, (r24 i hi).2.2.1, n1]
    · show M 20 i = M 190 i
      rw [(a24 i hi).1, (r24 i hi).2.1]
    · show bt (M 21 i) j = _
      rw [(a24 i hi).2.1, b0, (r576 _ (by omega)).2, n1]
    · show M 22 (24 * i + j) = _
      rw [a576 _ (by omega), (r576 _ (by omega)).1]
    · rw [f0 4 (by decide), f0 5 (by decide), f0 6 (by decide), f0 7 (by decide), f0 8 (by decide), f9.1, f9.2, v8 3 (by omega), v8 1 (by omega), v8 17 (by omega), v8 18 (by omega), v8 19 (by omega), v20.1, v20.2]
      exact ⟨rfl, rfl, rfl, rfl, rfl, rfl, rfl⟩
    · show M 23 (6 + l) = _
      rw [a18 _ (by omega), (r2 l hl).1]
    · show M 23 (8 + l) = _
      rw [a18 _ (by omega), (r2 l hl).2.1]
    · show M 23 (10 + l) = _
      rw [a18 _ (by omega), (r2 l hl).2.2.1]
    · show M 23 (12 + l) = _
      rw [a18 _ (by omega), (r2 l hl).2.2.2.1]
    · show M 23 (16 + l) = _
      rw [a18 _ (by omega), (r2 l hl).2.2.2.2]
  · show bt (M 19 3) i = _
    rw [f0 3 (by decide), b0, (r24 i hi).2.2.2.1, n1]
  · show M 26 k = M 201 k
    rw [a480 k hk, r480 k hk]
  · refine ⟨[], [], ⟨?_, by decide, by decide, fun i x hi => (by cases hi), fun i x hi => (by cases hi)⟩, ⟨?_, ?_, fun i x hi => (by cases hi), fun i x hi => (by cases hi)⟩, by decide, ?_⟩
    · show (M (30 + 11 * k) 0).toInt = _
      rw [l4 k hk]; rfl
    · rw [(r4 k hk).1]; rfl
    · rw [(r4 k hk).2]; rfl
    · intro x hx
      cases hx
  · refine ⟨⟨by rw [t7.1, v8 4 (by omega)], by rw [v8 4 (by omega)]; decide, by rw [v8 4 (by omega)]; decide⟩, ⟨by rw [t7.2, v8 71 (by omega)], by rw [v8 71 (by omega)]; decide, by rw [v8 71 (by omega)]; decide⟩, fun i hi => ⟨Or.inl (r24 i hi).2.2.2.2.2, ?_, fun q => absurd (r24 i hi).2.2.2.2.2 q⟩, fun i hi => ⟨?_, by rw [(r24 i hi).2.2.2.2.1]; decide, by rw [(r24 i hi).2.2.2.2.1]; decide⟩⟩
    · show M 28 i = _
      rw [if_pos (r24 i hi).2.2.2.2.2]
      exact (a24 i hi).2.2.2
    · show M 29 i = M 193 i
      rw [(a24 i hi).2.2.1, (r24 i hi).2.2.2.2.1]
/-! what is kept, beans: both sides say the same -/
theorem op_kept_v {p1 p2 v u : Int32} {M M1 M2 : pMem} (h : rF M) (h1 : D_14 p1 p2 M v M1) (h2 : D_123 p1 p2 M1 u M2) : v = u := by
  obtain ⟨_, ⟨⟨_, _, d0, d60⟩, ⟨hW, _⟩, hke, _⟩, _⟩ := h
  have e4 : M 19 4 = M 188 3 := hW.2.2.2.2.1.1
  have hke : ∀ k, k < 480 → M 26 k = M 201 k := hke
  obtain ⟨Ma, ea, h2⟩ := h2
  have m1 : M1 = M := by
    rcases h1 with ⟨_, _, e⟩ | ⟨_, h1⟩
    · exact e
    · rcases h1 with ⟨_, _, e⟩ | ⟨_, h1⟩
      · exact e
      · rcases h1 with ⟨_, _, e⟩ | ⟨_, h1⟩
        · exact e
        · rcases h1 with ⟨_, _, e⟩ | ⟨_, h1⟩
          · exact e
          · rcases h1 with ⟨_, _, e⟩ | ⟨_, _, _, e⟩
            · exact e
            · exact e
  rw [m1] at ea
  have a3 : Ma 188 3 = M 188 3 := by rw [ea, aPut_at (by decide)]
  have r : ∀ k, Ma 201 k = M 201 k := fun k => by rw [ea, aPut_cell (by decide)]
  have q1 : ¬ f_42 p1 (kI 1) (Ma 188 3) = 0 ↔ 1 ≤ p1.toInt ∧ p1.toInt ≤ (M 188 3).toInt := by rw [f_42_iff, i_le, i_le, kI1, a3]
  have q2 : ¬ f_42 p2 (kI 0) (kI 7) = 0 ↔ 0 ≤ p2.toInt ∧ p2.toInt ≤ 7 := by rw [f_42_iff, i_le, i_le, kI0, kI_toInt (by decide) (by decide)]
  by_cases c1 : 1 ≤ p1.toInt ∧ p1.toInt ≤ (M 188 3).toInt
  · have h1 := tIf_n (by rw [i_lt, kI1]; omega) h1
    have h1 := tIf_n (by rw [i_lt, e4]; omega) h1
    have h1 := tIf_n (by rw [i_lt, kI_toInt (by decide) (by decide)]; omega) h1
    have h2 := tIf_n (q1.mpr c1) h2
    by_cases c2 : 0 ≤ p2.toInt ∧ p2.toInt ≤ 7
    · have h1 := tIf_n (by rw [i_lt, i_0]; omega) h1
      have h1 := tIf_n (by rw [i_le, kI_toInt (by decide) (by decide)]; omega) h1
      have h2 := tIf_n (q2.mpr c2) h2
      obtain ⟨g1, hv, _⟩ := h1
      obtain ⟨g2, hu, _⟩ := h2
      have s : (p1 - kI 1).toInt = p1.toInt - 1 := by rw [i_sub (by rw [kI1]; omega) (by rw [kI1]; omega), kI1]
      have ia : ix ((p1 - kI 1) * kI 8 + p2) = (8 * (p1.toInt - 1) + p2.toInt).toNat := by
        show ((p1 - kI 1) * kI 8 + p2).toInt.toNat = _
        have m : ((p1 - kI 1) * kI 8).toInt = 8 * (p1.toInt - 1) := by rw [i_mul (by rw [s, kI_toInt (by decide) (by decide)]; omega) (by rw [s, kI_toInt (by decide) (by decide)]; omega), s, kI_toInt (by decide) (by decide)]; omega
        rw [i_add (by rw [m]; omega) (by rw [m]; omega), m]
      have ib : ix (kI 8 * (p1 - kI 1) + p2) = (8 * (p1.toInt - 1) + p2.toInt).toNat := by
        show (kI 8 * (p1 - kI 1) + p2).toInt.toNat = _
        have m : (kI 8 * (p1 - kI 1)).toInt = 8 * (p1.toInt - 1) := by rw [i_mul (by rw [s, kI_toInt (by decide) (by decide)]; omega) (by rw [s, kI_toInt (by decide) (by decide)]; omega), s, kI_toInt (by decide) (by decide)]
        rw [i_add (by rw [m]; omega) (by rw [m]; omega), m]
      rw [hv, hu, ia, ib, r]
      exact hke _ (by omega)
    · have hu := (tIf_p (Classical.byContradiction fun q => c2 (q2.mp q)) h2).1
      rw [hu]
      rcases h1 with ⟨_, hv, _⟩ | ⟨g1, h1⟩
      · exact hv
      · exact (tIf_p (by rw [i_lt, i_0] at g1; rw [i_le, kI_toInt (by decide) (by decide)]; omega) h1).1
  · have hu := (tIf_p (Classical.byContradiction fun q => c1 (q1.mp q)) h2).1
    rw [hu]
    rcases h1 with ⟨_, hv, _⟩ | ⟨g1, h1⟩
    · exact hv
    · rw [i_lt, kI1] at g1
      exact (tIf_p (by rw [i_lt, e4]; omega) h1).1
/-! look, beans: both sides say the same -/
theorem crS_cg {A B C D : Nat → Bool} {g f : Nat → Nat → Int32} (hA : ∀ i, i < 24 → A i = C i) (hB : ∀ i, i < 24 → B i = D i) (hg : ∀ i j, i < 24 → j < 24 → g i j = f i j) : crS A B g = crS C D f := by
  have e1 : s2 (cS A B) g 24 = s2 (cS C D) f 24 := s2_cg (fun i j hi hj => by unfold cS; rw [hA i hi, hB j hj]) (fun i j hi hj _ => hg i j hi hj)
  have e2 : s2 (cS B A) g 24 = s2 (cS D C) f 24 := s2_cg (fun i j hi hj => by unfold cS; rw [hB i hi, hA j hj]) (fun i j hi hj _ => hg i j hi hj)
  unfold crS
  rw [e1, e2, cN_cg hA, cN_cg hB]
theorem th_cnt {w : Nat} {M V : pMem} (hV : rV V) (h : rW w M V) : f_239 (M w 2) = kI (cN (thV V) 24 : Nat) := by
  rw [f239_24 h.2.1.2, cN_cg (q := thV V) fun i hi => by rw [(h.2.2.1 i hi).2.1, ← thV_y hV hi]]
theorem L_136_v {p1 x2 x3 : Int32} {V N : pMem} {n : Nat} (hn : (V 188 2).toInt = n) (hb : ∀ i, i < 24 → bo (V 192 i)) (hz : ∀ i, n ≤ i → i < 24 → V 192 i = 0) (n24 : n ≤ 24) {v : Int32} (h : L_136_17 p1 x2 x3 V v N) (h3 : x3.toInt = 0) (h2 : x2 = kI 0) : v = kI (cN (fun i => decide (V 192 i = kI 1)) 24 : Nat) := by
  have r := h (fun x2 x3 M v _ => ∀ i : Nat, x3.toInt = i → i ≤ n → M = V → x2 = kI (cN (fun i => decide (V 192 i = kI 1)) i : Nat) → v = kI (cN (fun i => decide (V 192 i = kI 1)) 24 : Nat)) ?_
  · exact r 0 h3 (Nat.zero_le _) rfl h2
  · intro x2 x3 M v N hs i hi hin hM hx
    rw [hM] at hs
    rcases hs with ⟨g, hv, _⟩ | ⟨g, _, hs⟩
    · rw [i_le, hn, hi] at g
      have e : i = n := by omega
      rw [hv, hx, e, cN_ext (n := n) (m := 24) n24 fun k h1 h2 => by rw [hz k h1 h2]; decide]
    · rw [i_le, hn, hi] at g
      rw [ix_of hi] at hs
      refine hs (i + 1) (n_add1 hi (by omega)) (by omega) rfl ?_
      rw [hx]
      show _ = kI ((cN (fun i => decide (V 192 i = kI 1)) i + (if (decide (V 192 i = kI 1)) = true then 1 else 0) : Nat) : Int)
      rw [kI_n1]
      rcases hb i (by omega) with q | q
      · rw [q]; rfl
      · rw [q]; rfl
theorem op_look_v {p1 v u : Int32} {M M1 M2 : pMem} (h : rF M) (h1 : D_29 p1 M v M1) (h2 : D_136 p1 M1 u M2) : v = u := by
  obtain ⟨_, ⟨⟨hV, hVl, _⟩, ⟨hW, hLo⟩, _, _, ⟨o1, _⟩, ⟨o2, _⟩, _⟩, _⟩ := h
  have hW : rW 19 M M := hW
  have hLo : rLo 19 M M := hLo
  obtain ⟨Ma, ea, h2⟩ := h2
  obtain ⟨m0, p0⟩ := mem_w hV hW (p := kI 0) (Or.inl rfl)
  obtain ⟨m1, p1'⟩ := mem_w hV hW (p := kI 1) (Or.inr rfl)
  have mm : M1 = M ∧ (p1 = kI 3 → v = crS (inL M (kI 0)) (inL M (kI 1)) (lkV M)) := by
    by_cases c3 : p1 = kI 3
    · have h1 := tIf_n (show ¬ p1 = kI 0 by rw [c3]; decide) h1
      have h1 := tIf_n (show ¬ p1 = kI 1 by rw [c3]; decide) h1
      have h1 := tIf_n (show ¬ p1 = kI 2 by rw [c3]; decide) h1
      obtain ⟨v1, X, h230, hv, hM⟩ := tIf_p c3 h1
      obtain ⟨a1, a2⟩ := D_230_w p0 p1' h230
      exact ⟨by rw [hM, a2], fun _ => by rw [hv, a1, crS_cg m0 m1 fun i j hi hj => lkW_V hW hi hj]⟩
    · refine ⟨?_, fun e => absurd e c3⟩
      rcases h1 with ⟨_, _, e⟩ | ⟨_, h1⟩
      · exact e
      · rcases h1 with ⟨_, _, e⟩ | ⟨_, h1⟩
        · exact e
        · rcases h1 with ⟨_, _, e⟩ | ⟨_, h1⟩
          · exact e
          · have h1 := tIf_n c3 h1
            rcases h1 with ⟨_, _, e⟩ | ⟨_, h1⟩
            · exact e
            · rcases h1 with ⟨_, _, e⟩ | ⟨_, h1⟩
              · exact e
              · rcases h1 with ⟨_, _, e⟩ | ⟨_, h1⟩
                · exact e
                · rcases h1 with ⟨_, _, e⟩ | ⟨_, _, e⟩
                  · exact e
                  · exact e
  rw [mm.1] at ea
  have hs : sc M Ma := by
    rw [ea]
    exact sc_s sc_r rfl
  have a8 : ∀ j, j ≠ 0 → Ma 188 j = M 188 j := fun j hj => by rw [ea, aPut_at hj]
  have aR : ∀ b, b ≠ 188 → Ma b = M b := fun b hb => by rw [ea]; exact apR hb
  obtain ⟨n, hn⟩ := hV.1
  have hna := rNb_sc hs hn
  by_cases c0 : p1 = kI 0
  · rw [(tIf_p c0 h1).1, (tIf_n (nn c0) h2).1, a8 2 (by decide)]
    exact hW.1
  have h1 := tIf_n c0 h1
  have h2 := tIf_p (show ¬ p1 = 0 from c0) h2
  by_cases c1 : p1 = kI 1
  · obtain ⟨v1, X, d1, v2, Y, d2, hu, _⟩ := tIf_n (nn c1) h2
    obtain ⟨b1, b2⟩ := D_53_w hna (fun i hi => by rw [aR 191 (by decide)]; exact (hV.2.1 i hi).2) d1
    rw [b2] at d2
    obtain ⟨b3, b4⟩ := D_53_w hna (fun i hi => by rw [aR 191 (by decide)]; exact (hV.2.1 i hi).2) d2
    rw [(tIf_p c1 h1).1, hu, b1, b3, th_cnt hV hW, inL_sc hs, cN_lots hV, kI_n1]
  have h1 := tIf_n c1 h1
  have h2 := tIf_p c1 h2
  by_cases c2 : p1 = kI 2
  · rw [(tIf_p c2 h1).1, (tIf_n (nn c2) h2).1, a8 3 (by decide)]
    exact hW.2.2.2.2.1.1
  have h1 := tIf_n c2 h1
  have h2 := tIf_p c2 h2
  by_cases c3 : p1 = kI 3
  · obtain ⟨v1, X, d1, hu, _⟩ := tIf_n (nn c3) h2
    obtain ⟨b1, _⟩ := D_55_w hna (fun i hi => by rw [aR 189 (by decide)]; exact (hV.2.1 i hi).1) d1
    rw [mm.2 c3, hu, b1, inL_sc hs, lkV_sc hs]
  have h1 := tIf_n c3 h1
  have h2 := tIf_p c3 h2
  by_cases c4 : p1 = kI 4
  · rw [(tIf_p c4 h1).1, (tIf_n (nn c4) h2).1, a8 4 (by decide)]
    exact o1
  have h1 := tIf_n c4 h1
  have h2 := tIf_p c4 h2
  by_cases c5 : p1 = kI 5
  · obtain ⟨_, _, hu, _⟩ := tIf_n (nn c5) h2
    have e0 : M 23 8 = M 197 0 := (hW.2.2.2.2.2 0 (by decide)).2.1
    have e1 : M 23 9 = M 197 1 := (hW.2.2.2.2.2 1 (by decide)).2.1
    rw [(tIf_p c5 h1).1, hu, aR 197 (by decide)]
    show M 23 (ix (kI 4 * kI 2)) + M 23 (ix (kI 4 * kI 2 + kI 1)) = M 197 (ix (kI 0)) + M 197 (ix (kI 1))
    rw [show ix (kI 4 * kI 2) = 8 by decide +kernel, show ix (kI 4 * kI 2 + kI 1) = 9 by decide +kernel, show ix (kI 0) = 0 by decide +kernel, show ix (kI 1) = 1 by decide +kernel, e0, e1]
  have h1 := tIf_n c5 h1
  have h2 := tIf_p c5 h2
  by_cases c6 : p1 = kI 6
  · have h2 := tIf_p (show ¬ p1 = kI 7 by rw [c6]; decide) h2
    have h2 := tIf_p c6 h2
    obtain ⟨m, ⟨hm1, hm2, _⟩, hm4⟩ := hVl
    have e := L_136_v (by rw [a8 2 (by decide)]; exact hm2) (fun i hi => by rw [aR 192 (by decide)]; exact (hm4 i hi).1) (fun i q hi => by rw [aR 192 (by decide)]; exact ((hm4 i hi).2 q).1) hm1 h2 rfl rfl
    rw [(tIf_p c6 h1).1, e, f239_24 hLo.1, aR 192 (by decide), cN_cg hLo.2]
  have h1 := tIf_n c6 h1
  by_cases c7 : p1 = kI 7
  · rw [(tIf_p c7 h1).1, (tIf_n (nn c7) h2).1, a8 71 (by decide)]
    exact o2
  · rw [(tIf_n c7 h1).1]
    have h2 := tIf_p c7 h2
    rw [(tIf_n c6 h2).1]
/-- added wholly, held between 0 and 9999 -/
theorem adB_3 {x y : Int32} : ((0 ≤ lg_cmp (Int32.toInt64 x + Int32.toInt64 y) (Int64.ofNat 0) ∧ lg_cmp (Int32.toInt64 x + Int32.toInt64 y) (Int64.ofInt 9999) ≤ 0) → Int64.toInt32 (Int32.toInt64 x + Int32.toInt64 y) = f_39 (Int32.toInt64 x + Int32.toInt64 y) (kI 0) (kI 9999)) ∧
    (0 ≤ lg_cmp (Int32.toInt64 x + Int32.toInt64 y) (Int64.ofNat 0) → ¬ lg_cmp (Int32.toInt64 x + Int32.toInt64 y) (Int64.ofInt 9999) ≤ 0 → kI 9999 = f_39 (Int32.toInt64 x + Int32.toInt64 y) (kI 0) (kI 9999)) ∧
    (¬ 0 ≤ lg_cmp (Int32.toInt64 x + Int32.toInt64 y) (Int64.ofNat 0) → kI 0 = f_39 (Int32.toInt64 x + Int32.toInt64 y) (kI 0) (kI 9999)) := by
  unfold f_39
  generalize Int32.toInt64 x + Int32.toInt64 y = z
  have a50 : (Int64.ofInt 9999).toInt = 9999 := by decide
  have m50 : (Int64.ofNat 0).toInt = 0 := by decide
  have b50 : Int32.toInt64 (kI 9999) = Int64.ofInt 9999 := by decide
  have c50 : Int32.toInt64 (kI 0) = Int64.ofNat 0 := by decide
  have d1 : Int64.toInt32 (Int64.ofInt 9999) = kI 9999 := by decide
  have d2 : Int64.toInt32 (Int64.ofNat 0) = kI 0 := by decide
  have le0 : lg_cmp z (Int64.ofInt 9999) ≤ 0 ↔ z.toInt ≤ 9999 := by
    have q := lg_1 (a := z) (b := Int64.ofInt 9999)
    rw [a50, i_lt, i_0] at q
    rw [i_le, i_0]
    omega
  have ge0 : 0 ≤ lg_cmp z (Int64.ofNat 0) ↔ 0 ≤ z.toInt := by
    have q := lg_0 (a := z) (b := Int64.ofNat 0)
    rw [m50] at q
    exact q
  rw [b50, c50, le0, ge0]
  have l1 : z < Int64.ofInt 9999 ↔ z.toInt < 9999 := by rw [Int64.lt_iff_toInt_lt, a50]
  have l2 : z < Int64.ofNat 0 ↔ z.toInt < 0 := by rw [Int64.lt_iff_toInt_lt, m50]
  unfold pMxL pMnL
  by_cases g : z < Int64.ofInt 9999
  · rw [if_pos g]
    by_cases g2 : z < Int64.ofNat 0
    · rw [if_pos g2, d2]
      have h2 := l2.mp g2
      exact ⟨fun q => absurd q.1 (by omega), fun q => absurd q (by omega), fun _ => rfl⟩
    · rw [if_neg g2]
      have h1 := l1.mp g
      have h2 : ¬ z.toInt < 0 := fun q => g2 (l2.mpr q)
      exact ⟨fun _ => rfl, fun _ q => absurd q (by omega), fun q => absurd q (by omega)⟩
  · rw [if_neg g, if_neg (show ¬ Int64.ofInt 9999 < Int64.ofNat 0 by decide), d1]
    have h1 : ¬ z.toInt < 9999 := fun q => g (l1.mpr q)
    refine ⟨fun q => ?_, fun _ _ => rfl, fun q => absurd q (by omega)⟩
    have e : z = Int64.ofInt 9999 := Int64.toInt_inj.mp (by rw [a50]; omega)
    rw [e, d1]
theorem D_124_v {p1 p2 p3 : Int32} {k : Nat} {o : List Cd} {L : List Ln} {M : pMem} (hc : rLk M k o L) {i j : Nat} (hi : p1.toInt = i) (hj : p2.toInt = j) {v : Int32} {N : pMem} (h : D_124 p1 p2 p3 M v N) : v = f_39 (Int32.toInt64 p3 + Int32.toInt64 (tl (FcV M i j) o (kI 18) L)) (kI 0) (kI 9999) := by
  obtain ⟨v1, X, h87, h⟩ := h
  obtain ⟨_, _, e, _, _⟩ := D_87_v (w := 18) (by rw [kI_toInt (by decide) (by decide)]; rfl) (by decide) hc hi hj h87
  have e : v1 = tl (FcV M i j) o (kI 18) L := e
  rw [← e]
  obtain ⟨q1, q2, q3⟩ := adB_3 (x := p3) (y := v1)
  rcases h with ⟨g, h⟩ | ⟨g, hv, _⟩
  · rcases h with ⟨g2, hv, _⟩ | ⟨g2, hv, _⟩
    · rw [hv]; exact q1 ⟨g, g2⟩
    · rw [hv]; exact q2 g g2
  · rw [hv]; exact q3 g
theorem D_191_v {l : Nat} (hl : pK 2 l = true) {M V : pMem} (hV : rV V) (h : rW 19 M V) {o : List Cd} {L : List Ln} (hc : cLk M l o L) {p3 p4 p5 : Int32} {i j : Nat} (hi : p3.toInt = i) (hj : p4.toInt = j) (hi24 : i < 24) (hj24 : j < 24) {v : Int32} {N : pMem} (hD : D_191 19 l p3 p4 p5 M v N) : v = f_39 (Int32.toInt64 p5 + Int32.toInt64 (tl (FcV V i j) o (kI 18) L)) (kI 0) (kI 9999) ∧ ∀ b, b ≠ 135 → b ≠ l + 6 → N b = M b := by
  obtain ⟨_, M1, h166, v2, M2, h157, hv, hN⟩ := hD
  obtain ⟨a1, a2⟩ := D_166s_w (by decide +kernel) hV h hi hj hi24 hj24 h166
  have c := lCell hl
  obtain ⟨b1, b2⟩ := D_157_v hl (by decide) (cLk_c hc fun b q1 q2 => a2 b (by omega)) a1 h157
  have e : v2 = tl (FcV V i j) o (kI 18) L := b1
  exact ⟨by rw [hv, e], fun b q1 q2 => by rw [hN, b2 b q2, a2 b q1]⟩
theorem f125_i {x : Int32} {M : pMem} : ¬ f_125 x M = 0 ↔ ¬ f_45 x M = 0 ∧ M 191 (ix x) = kI 1 := by
  unfold f_125
  by_cases a : f_45 x M = 0
  · rw [if_pos a]
    exact ⟨fun q => absurd rfl q, fun q => absurd a q.1⟩
  · rw [if_neg a]
    by_cases b : M 191 (ix x) = kI 1
    · rw [if_neg (nn b)]
      exact ⟨fun _ => ⟨a, b⟩, fun _ => by decide⟩
    · rw [if_pos b]
      exact ⟨fun q => absurd rfl q, fun q => absurd q.2 b⟩
theorem op_beans_v {p1 p2 p3 v u : Int32} {M M1 M2 : pMem} (h : rF M) (h1 : D_15 p1 p2 p3 M v M1) (h2 : D_126 p1 p2 p3 M1 u M2) : v = u := by
  obtain ⟨hA, hT, _⟩ := h
  obtain ⟨k, o, L, hk, hk4, cl, rl⟩ := force_T hT
  obtain ⟨⟨hV, _⟩, ⟨hW, _⟩, _⟩ := hT
  have hW : rW 19 M M := hW
  have f1 := F_15 h1
  obtain ⟨Ma, ea, h2⟩ := h2
  have m8 : ∀ j, j ≠ 0 → j ≠ 51 → Ma 188 j = M 188 j := fun j q1 q2 => by
    rw [ea, aPut_at q1]
    refine f1 188 j (by decide) ?_ (by simp only [l_15, pOut_nil])
    unfold pScr
    rw [show Nat.beq j 0 = false from Bool.eq_false_iff.mpr fun q => q1 (Nat.eq_of_beq_eq_true q), show Nat.beq j 51 = false from Bool.eq_false_iff.mpr fun q => q2 (Nat.eq_of_beq_eq_true q)]
    rfl
  have mR : ∀ a, a < 230 → pScrA a = false → a ≠ 188 → Ma a = M a := fun a q1 q2 q3 => funext fun j => by
    rw [ea, aPut_cell q3]
    exact f1 a j q1 (pScr_of q2 q3 j) (by simp only [l_15, pOut_nil])
  have e45 : ∀ x, f_45 x Ma = f_222 19 x M := fun x => f_45_at (by rw [m8 2 (by decide) (by decide)]; exact hW.1.symm) x
  have e191 : Ma 191 = M 191 := mR 191 (by decide) rfl (by decide)
  have q125 : ∀ x, ¬ f_125 x Ma = 0 ↔ ¬ f_222 19 x M = 0 ∧ ¬ f_37 (M 19 2) x = 0 := fun x => by
    rw [f125_i, e45, e191]
    constructor
    · rintro ⟨q1, q2⟩
      obtain ⟨i, hi, hi24⟩ := boyN hA q1
      refine ⟨q1, (f37_th hV hW hi hi24).2.mpr ?_⟩
      rw [ix_of hi] at q2
      rw [thV_y hV hi24, q2]
      rfl
    · rintro ⟨q1, q2⟩
      obtain ⟨i, hi, hi24⟩ := boyN hA q1
      refine ⟨q1, ?_⟩
      have t := (f37_th hV hW hi hi24).2.mp q2
      rw [thV_y hV hi24] at t
      rw [ix_of hi]
      exact of_decide_eq_true t
  have q36 : ¬ f_36 p3 = 0 ↔ ¬ f_42 p3 (kI 0) (kI 999) = 0 := Iff.rfl
  by_cases a1 : f_222 19 p1 M = 0
  · have z : f_223 19 p1 p2 M = 0 := by unfold f_223; rw [if_pos a1]; rfl
    rw [(tIf_p z h1).1, (tIf_p (Classical.byContradiction fun q => ((q125 p1).mp q).1 a1) h2).1]
  by_cases b1 : f_37 (M 19 2) p1 = 0
  · rw [(tIf_p (Classical.byContradiction fun q => ((q125 p1).mp q).2 b1) h2).1]
    rcases h1 with ⟨_, hv, _⟩ | ⟨_, h1⟩
    · exact hv
    · exact (tIf_p b1 h1).1
  have h2 := tIf_n ((q125 p1).mpr ⟨a1, b1⟩) h2
  by_cases a2 : f_222 19 p2 M = 0
  · have z : f_223 19 p1 p2 M = 0 := by unfold f_223; rw [if_neg a1, if_pos a2]; rfl
    rw [(tIf_p z h1).1, (tIf_p (Classical.byContradiction fun q => ((q125 p2).mp q).1 a2) h2).1]
  by_cases b2 : f_37 (M 19 2) p2 = 0
  · rw [(tIf_p (Classical.byContradiction fun q => ((q125 p2).mp q).2 b2) h2).1]
    rcases h1 with ⟨_, hv, _⟩ | ⟨_, h1⟩
    · exact hv
    · exact (tIf_p b2 (tIf_n b1 h1)).1
  have h2 := tIf_n ((q125 p2).mpr ⟨a2, b2⟩) h2
  by_cases a3 : p1 = p2
  · have z : f_223 19 p1 p2 M = 0 := by unfold f_223; rw [if_neg a1, if_neg a2, if_pos a3]; rfl
    rw [(tIf_p z h1).1, (tIf_p a3 h2).1]
  have h2 := tIf_n a3 h2
  have z : ¬ f_223 19 p1 p2 M = 0 := by unfold f_223; rw [if_neg a1, if_neg a2, if_neg a3]; decide
  have h1 := tIf_n b2 (tIf_n b1 (tIf_n z h1))
  by_cases c : f_36 p3 = 0
  · rw [(tIf_n (nn c) h1).1, (tIf_p (show f_42 p3 (kI 0) (kI 999) = 0 from c) h2).1]
  · obtain ⟨l, X, h217, v2, Y, h191, hv, _⟩ := tIf_p c h1
    obtain ⟨v3, Z, h124, hu, _⟩ := tIf_n (show ¬ f_42 p3 (kI 0) (kI 999) = 0 from c) h2
    obtain ⟨i, hi, hi24⟩ := boyN hA a1
    obtain ⟨j, hj, hj24⟩ := boyN hA a2
    have hl := D_217_k h217
    obtain ⟨_, el, eX⟩ := h217
    rw [ix_of hk] at el
    rw [eX] at h191
    have rla : rLk Ma k o L := rLk_v rl (fun b q1 q2 => mR b (by omega) (by
      have e : b = 204 ∨ b = 205 ∨ b = 206 ∨ b = 207 ∨ b = 208 ∨ b = 209 ∨ b = 210 ∨ b = 211 := by omega
      rcases e with rfl | rfl | rfl | rfl | rfl | rfl | rfl | rfl <;> rfl) (by omega)) (m8 4 (by decide) (by decide))
    have fc : FcV Ma = FcV M := FcV_c (mR 189 (by decide) rfl (by decide)) (mR 190 (by decide) rfl (by decide)) (mR 194 (by decide) rfl (by decide)) (mR 195 (by decide) rfl (by decide)) fun j q1 q2 => m8 j (by omega) (by omega)
    rw [hv, (D_191_v hl hV hW (by rw [el]; exact cl) hi hj hi24 hj24 h191).1, hu, D_124_v rla hi hj h124, fc]
/-! lot: both sides say the same -/
noncomputable def acT (o : List Cd) (L : List Ln) (V : pMem) (p : Int32) (i : Nat) : Int32 := if inL V p i = true then acr o L V i else 0
theorem acT_y {o : List Cd} {L : List Ln} {V : pMem} {p : Int32} {i : Nat} (h : inL V p i = true) : acT o L V p i = acr o L V i := if_pos h
theorem acT_n {o : List Cd} {L : List Ln} {V : pMem} {p : Int32} {i : Nat} (h : inL V p i = false) : acT o L V p i = 0 := if_neg (by rw [h]; decide)
theorem D_188_v {l : Nat} (hl : pK 2 l = true) {M V : pMem} (hV : rV V) (h : rW 19 M V) {o : List Cd} {L : List Ln} (hc : cLk M l o L) {p3 : Int32} (hp : bo p3) {v : Int32} {N : pMem} (hD : D_188 19 l p3 M v N) : v = sm (acT o L V p3) 24 := by
  have hw : pK 10 19 = true := by decide +kernel
  have cl := lCell hl
  have nl : ∀ j, j < 5 → 19 + j ≠ l + 6 := fun j hj e => lwCell hl hw 6 (by decide) j hj e.symm
  have r := hD (fun x4 x5 M' v _ => ∀ i : Nat, x5.toInt = i → i ≤ 24 → (∀ a, (a < 132 ∨ 137 < a) → a ≠ l + 6 → M' a = M a) → x4 = sm (acT o L V p3) i → v = sm (acT o L V p3) 24) ?_
  · exact r 0 rfl (Nat.zero_le _) (fun _ _ _ => rfl) rfl
  · intro x4 x5 M' v N hs i hi hi24 hM hx
    have hW : rW 19 M' V := rW_eq h fun j hj => hM _ (by omega) (nl j hj)
    have hcl : cLk M' l o L := cLk_c hc fun b q1 q2 => hM b (by omega) (by omega)
    rcases hs with ⟨g, hv, _⟩ | ⟨g, hs⟩
    · rw [i_le, hi, kI_toInt (by decide) (by decide)] at g
      have e : i = 24 := by omega
      rw [hv, hx, e]
    · rw [i_le, hi, kI_toInt (by decide) (by decide)] at g
      have i24 : i < 24 := by omega
      obtain ⟨m1, m2⟩ := mem_w hV hW hp
      have nx : (x5 + kI 1).toInt = ((i + 1 : Nat) : Int) := n_add1 hi (by omega)
      rcases hs with ⟨g2, hs⟩ | ⟨g2, _, M1, h185, v2, M2, h187, hs⟩
      · have b := (f37_n hi (by omega)).mp g2
        rw [m1 i i24] at b
        refine hs (i + 1) nx (by omega) hM ?_
        rw [sm_s, acT_n b, ← hx]
        exact (Int32.add_zero x4).symm
      · have b := (f37_y hi (by omega)).mp g2
        rw [m1 i i24] at b
        obtain ⟨f1, f2, f3⟩ := D_185_v hw hl hV hW hcl hi i24 h185
        have hW1 : rW 19 M1 V := rW_eq hW fun j hj => f3 _ (by omega) (nl j hj)
        obtain ⟨e1, e2⟩ := D_187_v hV hW1 f2 hi i24 h187
        refine hs (i + 1) nx (by omega) (fun a q1 q2 => by rw [e2, f3 a q1 q2]; exact hM a q1 q2) ?_
        rw [sm_s, acT_y b, ← hx, e1]
        unfold acr
        rw [acF_cg f1]
theorem L_122_v {k : Nat} {o : List Cd} {L : List Ln} {M V : pMem} (hs0 : sc V M) (hV : rV V) (hc : rLk V k o L) {n : Nat} (hn : rNb V n) {p1 p2 x3 x4 v : Int32} {N : pMem} (h : L_122_21 p1 p2 x3 x4 M v N) (h4 : x4.toInt = 0) (h3 : x3 = 0) : v = sm (acT o L V p1) 24 := by
  obtain ⟨n24, hn2, hn3⟩ := id hn
  have r := h (fun x3 x4 M' v _ => ∀ i : Nat, x4.toInt = i → i ≤ n → sc V M' → x3 = sm (acT o L V p1) i → v = sm (acT o L V p1) 24) ?_
  · exact r 0 h4 (Nat.zero_le _) hs0 h3
  · intro x3 x4 M' v N hs i hi hin hM hx
    obtain ⟨s189, _, s191, _, _, s8⟩ := sc_rows hM
    have e2 : M' 188 2 = V 188 2 := s8 2 (by decide) (by decide)
    rcases hs with ⟨g, hv, _⟩ | ⟨g, _, hs⟩
    · rw [i_le, e2, hn2, hi] at g
      have e : i = n := by omega
      rw [hv, hx, e, sm_ext n24 fun j q1 q2 => acT_n (inL_0 hn q1 q2)]
    · rw [i_le, e2, hn2, hi] at g
      have i24 : i < 24 := by omega
      rw [ix_of hi, s191, s189] at hs
      have nx : (x4 + kI 1).toInt = ((i + 1 : Nat) : Int) := n_add1 hi (by omega)
      have skip : ∀ {P : Int32 → Int32 → pMem → pT Int32}, inL V p1 i = false → x3 = sm (acT o L V p1) (i + 1) := fun b => by
        rw [sm_s, acT_n b, ← hx]
        exact (Int32.add_zero x3).symm
      rcases hs with ⟨g2, hs⟩ | ⟨g2, _, hs⟩
      · refine hs (i + 1) nx (by omega) hM (skip (P := fun _ _ _ _ _ => True) ?_)
        unfold inL
        rw [thV_y hV i24, decide_eq_false g2, Bool.false_and]
      · have g2 := Classical.not_not.mp g2
        rcases hs with ⟨g3, hs⟩ | ⟨g3, v1, M1, h97, hs⟩
        · refine hs (i + 1) nx (by omega) hM (skip (P := fun _ _ _ _ _ => True) ?_)
          unfold inL
          rw [decide_eq_false g3, Bool.and_false]
        · have g3 := Classical.not_not.mp g3
          obtain ⟨a1, a2⟩ := D_97_v hM hV hc hn hi (by omega) h97
          refine hs (i + 1) nx (by omega) (sc_t hM (sc_96 a2)) ?_
          have b : inL V p1 i = true := by
            unfold inL
            rw [thV_y hV i24, decide_eq_true g2, decide_eq_true g3]
            rfl
          rw [sm_s, acT_y b, ← hx, a1]
theorem op_lot_v {p1 p2 v u : Int32} {M M1 M2 : pMem} (h : rF M) (h1 : D_13 p1 p2 M v M1) (h2 : D_122 p1 p2 M1 u M2) : v = u := by
  obtain ⟨hA, hT, _⟩ := h
  obtain ⟨k, o, L, hk, hk4, cl, rl⟩ := force_T hT
  obtain ⟨⟨hV, _⟩, ⟨hW, _⟩, _⟩ := hT
  have hW : rW 19 M M := hW
  have f1 := F_13 h1
  obtain ⟨Ma, ea, h2⟩ := h2
  by_cases c : f_32 p1 = 0
  · rw [(tIf_n (nn c) h1).1, (tIf_n (show ¬ ¬ f_46 p1 = 0 from nn c) h2).1]
  have h1 := tIf_p c h1
  have h2 := tIf_p (show ¬ f_46 p1 = 0 from c) h2
  have hp : bo p1 := by
    rcases f_32_iff.mp c with q | q
    · exact Or.inl (kI_inj q)
    · exact Or.inr (kI_inj q)
  obtain ⟨m, hm, hm2⟩ : ∃ m : Nat, p1.toInt = m ∧ m < 2 := by
    rcases f_32_iff.mp c with q | q
    · exact ⟨0, q, by decide⟩
    · exact ⟨1, q, by decide⟩
  have m8 : ∀ j, j ≠ 0 → j ≠ 51 → Ma 188 j = M 188 j := fun j q1 q2 => by
    rw [ea, aPut_at q1]
    refine f1 188 j (by decide) ?_ (by simp only [l_13, pOut_nil])
    unfold pScr
    rw [show Nat.beq j 0 = false from Bool.eq_false_iff.mpr fun q => q1 (Nat.eq_of_beq_eq_true q), show Nat.beq j 51 = false from Bool.eq_false_iff.mpr fun q => q2 (Nat.eq_of_beq_eq_true q)]
    rfl
  have mR : ∀ a, a < 230 → pScrA a = false → a ≠ 188 → Ma a = M a := fun a q1 q2 q3 => funext fun j => by
    rw [ea, aPut_cell q3]
    exact f1 a j q1 (pScr_of q2 q3 j) (by simp only [l_13, pOut_nil])
  obtain ⟨n, hn⟩ := hV.1
  have hna : rNb Ma n := ⟨hn.1, by rw [m8 2 (by decide) (by decide)]; exact hn.2.1, by rw [mR 191 (by decide) rfl (by decide)]; exact hn.2.2⟩
  have il : inL Ma = inL M := funext fun q => inL_c (mR 191 (by decide) rfl (by decide)) (mR 189 (by decide) rfl (by decide))
  have lk : lkV Ma = lkV M := lkV_c (mR 194 (by decide) rfl (by decide))
  obtain ⟨z1, z2⟩ := mem_w hV hW hp
  obtain ⟨y1, y2⟩ := mem_w hV hW (bo_o hp)
  have row : ∀ {q : Int32} {t : Nat}, q.toInt = (t : Nat) → t < 9 → ix (q * kI 2 + p1) = 2 * t + m := fun hq ht => ix_of (by
    rw [i_add (by rw [i_mul (by rw [hq, kI_toInt (by decide) (by decide)]; omega) (by rw [hq, kI_toInt (by decide) (by decide)]; omega), hq, kI_toInt (by decide) (by decide)]; omega) (by rw [i_mul (by rw [hq, kI_toInt (by decide) (by decide)]; omega) (by rw [hq, kI_toInt (by decide) (by decide)]; omega), hq, kI_toInt (by decide) (by decide)]; omega), i_mul (by rw [hq, kI_toInt (by decide) (by decide)]; omega) (by rw [hq, kI_toInt (by decide) (by decide)]; omega), hq, kI_toInt (by decide) (by decide), hm]
    omega)
  obtain ⟨w196, w197, w198, w199, w200⟩ := hW.2.2.2.2.2 m hm2
  have tb : ∀ {q : Int32} {t : Nat}, q.toInt = (t : Nat) → t < 9 → M 23 (ix (q * kI 2 + p1)) = M (19 + 4) (2 * t + m) := fun hq ht => by rw [row hq ht]
  by_cases c0 : p2 = kI 0
  · obtain ⟨v1, X, h53, hu, _⟩ := tIf_n (nn c0) h2
    obtain ⟨b1, _⟩ := D_53_w hna (fun i hi => by rw [mR 191 (by decide) rfl (by decide)]; exact (hV.2.1 i hi).2) h53
    rw [(tIf_p c0 h1).1, hu, b1, il]
    show f_239 (f_226 19 p1 M) = _
    rw [f239_24 z2, cN_cg z1]
  have h1 := tIf_n c0 h1
  have h2 := tIf_p (show ¬ p2 = 0 from c0) h2
  by_cases c1 : p2 = kI 1
  · obtain ⟨v1, X, h228, hv, _⟩ := tIf_p c1 h1
    obtain ⟨v2, Y, h231, hv2, _⟩ := h228
    obtain ⟨b1, _⟩ := D_231_w z2 z2 h231
    obtain ⟨v3, Z, h54, hu, _⟩ := tIf_n (nn c1) h2
    obtain ⟨d1, _⟩ := D_54_w hna h54
    rw [hv, hv2, b1, mn_w hW z1 z1, hu, d1, il, lk]
  have h1 := tIf_n c1 h1
  have h2 := tIf_p c1 h2
  by_cases c2 : p2 = kI 2
  · obtain ⟨v1, X, h229, hv, _⟩ := tIf_p c2 h1
    obtain ⟨v2, Y, h231, hv2, _⟩ := h229
    obtain ⟨b1, _⟩ := D_231_w z2 y2 h231
    obtain ⟨v3, Z, h54, hu, _⟩ := tIf_n (nn c2) h2
    obtain ⟨d1, _⟩ := D_54_w hna h54
    rw [hv, hv2, b1, mn_w hW z1 y1, hu, d1, il, lk]
  have h1 := tIf_n c2 h1
  have h2 := tIf_p c2 h2
  by_cases c3 : p2 = kI 3
  · obtain ⟨_, hv, _⟩ := tIf_p c3 h1
    obtain ⟨_, hu, _⟩ := tIf_n (nn c3) h2
    rw [hv, tb (q := p2) (t := 3) (by rw [c3]; rfl) (by decide), hu, ix_of hm, mR 196 (by decide) rfl (by decide)]
    exact w196
  have h1 := tIf_n c3 h1
  have h2 := tIf_p c3 h2
  by_cases c4 : p2 = kI 4
  · obtain ⟨_, hv, _⟩ := tIf_p c4 h1
    obtain ⟨_, hu, _⟩ := tIf_n (nn c4) h2
    rw [hv, tb (q := p2) (t := 4) (by rw [c4]; rfl) (by decide), hu, ix_of hm, mR 197 (by decide) rfl (by decide)]
    exact w197
  have h1 := tIf_n c4 h1
  have h2 := tIf_p c4 h2
  by_cases c5 : p2 = kI 5
  · obtain ⟨_, hv, _⟩ := tIf_p c5 h1
    obtain ⟨_, hu, _⟩ := tIf_n (nn c5) h2
    rw [hv, tb (q := p2) (t := 5) (by rw [c5]; rfl) (by decide), hu, ix_of hm, mR 198 (by decide) rfl (by decide)]
    exact w198
  have h1 := tIf_n c5 h1
  have h2 := tIf_p c5 h2
  by_cases c6 : p2 = kI 6
  · obtain ⟨_, hv, _⟩ := tIf_p c6 h1
    obtain ⟨_, hu, _⟩ := tIf_n (nn c6) h2
    rw [hv, tb (q := p2) (t := 6) (by rw [c6]; rfl) (by decide), hu, ix_of hm, mR 199 (by decide) rfl (by decide)]
    exact w199
  have h1 := tIf_n c6 h1
  have h2 := tIf_p c6 h2
  by_cases c8 : p2 = kI 8
  · have h1 := tIf_n (show ¬ p2 = kI 7 by rw [c8]; decide) h1
    obtain ⟨_, hv, _⟩ := tIf_p c8 h1
    obtain ⟨_, hu, _⟩ := tIf_n (nn c8) h2
    rw [hv, tb (q := p2) (t := 8) (by rw [c8]; rfl) (by decide), hu, ix_of hm, mR 200 (by decide) rfl (by decide)]
    exact w200
  have h2 := tIf_p c8 h2
  by_cases c7 : p2 = kI 7
  · obtain ⟨l, X, h217, v2, Y, h188, hv, _⟩ := tIf_p c7 h1
    have h2 := tIf_p c7 h2
    have hl := D_217_k h217
    obtain ⟨_, el, eX⟩ := h217
    rw [ix_of hk] at el
    rw [eX] at h188
    have hVa : rV Ma := rV_c hV (m8 2 (by decide) (by decide)) (mR 189 (by decide) rfl (by decide)) (mR 191 (by decide) rfl (by decide)) (mR 195 (by decide) rfl (by decide)) (mR 196 (by decide) rfl (by decide))
    have rla : rLk Ma k o L := rLk_v rl (fun b q1 q2 => mR b (by omega) (by
      have e : b = 204 ∨ b = 205 ∨ b = 206 ∨ b = 207 ∨ b = 208 ∨ b = 209 ∨ b = 210 ∨ b = 211 := by omega
      rcases e with rfl | rfl | rfl | rfl | rfl | rfl | rfl | rfl <;> rfl) (by omega)) (m8 4 (by decide) (by decide))
    have ac : ∀ i, acT o L Ma p1 i = acT o L M p1 i := fun i => by
      unfold acT
      rw [il, acr_cg (V := M) (U := Ma) (thV_c (mR 191 (by decide) rfl (by decide))) (by rw [FcV_c (mR 189 (by decide) rfl (by decide)) (mR 190 (by decide) rfl (by decide)) (mR 194 (by decide) rfl (by decide)) (mR 195 (by decide) rfl (by decide)) fun j q1 q2 => m8 j (by omega) (by omega)]) lk (mR 189 (by decide) rfl (by decide))]
    rw [hv, D_188_v hl hV hW (by rw [el]; exact cl) hp h188, L_122_v sc_r hVa rla hna h2 rfl rfl]
    exact (sm_cg fun i _ => ac i).symm
  · have h1 := tIf_n c8 (tIf_n c7 h1)
    rw [h1.1, (tIf_n c7 h2).1]
