/-! the class's day, step by step -/
/-- what a step of the class leaves -/
def frC (w l : Nat) (M N : pMem) : Prop := ∀ b, (∀ j, j < 5 → b ≠ w + j) → b ≠ 132 → b ≠ l + 6 → N b = M b
theorem frC_r {w l : Nat} {M : pMem} : frC w l M M := fun _ _ _ _ => rfl
theorem frC_t {w l : Nat} {M N K : pMem} (h : frC w l M N) (g : frC w l N K) : frC w l M K := fun b h1 h2 h3 => (g b h1 h2 h3).trans (h b h1 h2 h3)
theorem frC_132 {w l : Nat} {M N : pMem} (h : ∀ b, b ≠ 132 → N b = M b) : frC w l M N := fun b _ h2 _ => h b h2
theorem frC_6 {w l : Nat} {M N : pMem} (h : ∀ b, b ≠ l + 6 → N b = M b) : frC w l M N := fun b _ _ h3 => h b h3
theorem frC_p {w l : Nat} {M : pMem} {a j : Nat} {x : Int32} (h : ∃ k, k < 5 ∧ a = w + k) : frC w l M (aPut M a j x) := fun b h1 _ _ => by
  obtain ⟨k, k1, k2⟩ := h
  funext i
  exact aPut_cell (by rw [k2]; exact h1 k k1)
theorem frC_law {w l : Nat} (hw : pK 10 w = true) (hl : pK 2 l = true) {M N : pMem} (f : frC w l M N) {o : List Cd} {L : List Ln} (h : cLk M l o L) : cLk N l o L := by
  have c := lCell hl
  refine cLk_c h fun b h1 h2 => f b (fun j hj e => ?_) (by omega) (by omega)
  exact lwCell hl hw (b - l) (by omega) j hj (by omega)
theorem rW_6 {w l : Nat} (hw : pK 10 w = true) (hl : pK 2 l = true) {M N V : pMem} (h : rW w M V) (f : ∀ b, b ≠ l + 6 → N b = M b) : rW w N V := rW_eq h fun j hj => f _ (fun e => lwCell hl hw 6 (by decide) j hj e.symm)
theorem rW_132 {w : Nat} (hw : pK 10 w = true) {M N V : pMem} (h : rW w M V) (f : ∀ b, b ≠ 132 → N b = M b) : rW w N V := rW_eq h fun j hj => f _ (by have := wCell hw j hj; omega)
theorem D_235_v {w : Nat} {p1 p2 p3 : Int32} {a l : Nat} (h1 : p1.toInt = a) (h2 : p2.toInt = l) (ha : a < 9) (hl : l < 2) {M v N} (h : D_235 w p1 p2 p3 M v N) : N = aPut M (w + 4) (2 * a + l) (M (w + 4) (2 * a + l) + p3) := by
  obtain ⟨_, _, M1, e1, _, hN⟩ := h
  have e2 : (kI 2).toInt = 2 := rfl
  have e : (p1 * kI 2).toInt = 2 * a := by rw [i_mul (by rw [h1, e2]; omega) (by rw [h1, e2]; omega), h1, e2]; omega
  rw [ix_of (n := 2 * a + l) (by rw [i_add (by rw [e, h2]; omega) (by rw [e, h2]; omega), e, h2]; omega)] at e1
  rw [hN, e1]
/-! begin -/
theorem bg0_v {k p wr : Int32} {V : pMem} : (∀ b, b ≠ 188 → bg0 k p wr V b = V b) ∧ ∀ j, bg0 k p wr V 188 j = if j = 21 then wr else if j = 20 then kI (-1) else if j = 19 then V 188 3 else if j = 18 then p else if j = 17 then k else V 188 j := by
  unfold bg0
  refine ⟨fun b hb => ?_, fun j => ?_⟩
  · funext j
    rw [aPut_cell hb, aPut_cell hb, aPut_cell hb, aPut_cell hb, aPut_cell hb]
  · rw [aPut_row, aPut_row, aPut_row, aPut_row, aPut_row]
theorem bgV_v {k p wr : Int32} {V : pMem} : (∀ b, b ≠ 188 → b ≠ 200 → bgV k p wr V b = V b) ∧ (∀ j, bgV k p wr V 188 j = bg0 k p wr V 188 j) ∧ ∀ i, bgV k p wr V 200 i = if wr = kI (-1) then V 200 i else if i = ix wr then V 200 (ix wr) + kI 1 else V 200 i := by
  unfold bgV
  by_cases h : wr = kI (-1)
  · rw [if_pos h]
    exact ⟨fun b h1 _ => bg0_v.1 b h1, fun j => rfl, fun i => by rw [if_pos h, bg0_v.1 200 (by decide)]⟩
  · rw [if_neg h]
    refine ⟨fun b h1 h2 => ?_, fun j => aPut_cell (by decide), fun i => ?_⟩
    · funext j
      rw [aPut_cell h2, bg0_v.1 b h1]
    · rw [if_neg h, aPut_row, bg0_v.1 200 (by decide)]
theorem rV_188 {V U : pMem} (h : rV V) (r : ∀ b, 189 ≤ b → b ≤ 196 → U b = V b) (e : U 188 2 = V 188 2) : rV U := by
  obtain ⟨⟨n, n1, n2, n3⟩, h2, h3, h4⟩ := h
  exact ⟨⟨n, n1, by rw [e]; exact n2, by rw [r 191 (by decide) (by decide)]; exact n3⟩, by rw [r 189 (by decide) (by decide), r 191 (by decide) (by decide)]; exact h2, by rw [r 195 (by decide) (by decide)]; exact h3, by rw [r 196 (by decide) (by decide)]; exact h4⟩
theorem rV_bg {k p wr : Int32} {V : pMem} (h : rV V) : rV (bgV k p wr V) := by
  refine rV_188 h (fun b h1 h2 => bgV_v.1 b (by omega) (by omega)) ?_
  rw [bgV_v.2.1, bg0_v.2]
  rfl
theorem D_139_v {w l : Nat} (hw : pK 10 w = true) {M V : pMem} (h : rW w M V) {p2 p3 p4 : Int32} (hp : p4 = kI (-1) ∨ bo p4) {v N} (hD : D_139 w p2 p3 p4 M v N) : rW w N (bgV p2 p3 p4 V) ∧ N w 11 = kI 0 ∧ frC w l M N := by
  obtain ⟨M1, e1, M2, e2, M3, e3, M4, e4, M5, e5, M6, e6, hD⟩ := hD
  have r6 : ∀ j, M6 w j = if j = 11 then kI 0 else if j = 10 then p4 else if j = 9 then kI (-1) else if j = 8 then M w 4 else if j = 7 then p3 else if j = 6 then p2 else M w j := fun j => by
    have a2 : M2 w 4 = M w 4 := by rw [e2, aPut_at (by decide), e1, aPut_at (by decide)]
    rw [e6, aPut_row, e5, aPut_row, e4, aPut_row, e3, aPut_row, a2, e2, aPut_row, e1, aPut_row]
  have c6 : ∀ b, b ≠ w → M6 b = M b := fun b hb => by
    funext j
    rw [e6, aPut_cell hb, e5, aPut_cell hb, e4, aPut_cell hb, e3, aPut_cell hb, e2, aPut_cell hb, e1, aPut_cell hb]
  have f6 : frC w l M M6 := fun b h1 _ _ => c6 b (h1 0 (by decide))
  obtain ⟨h1, h2, h3, h4, ⟨t4, t5, t6, t7, t8, t9, t10⟩, h6⟩ := h
  obtain ⟨b1, b2, b3⟩ := bgV_v (k := p2) (p := p3) (wr := p4) (V := V)
  -- whatever the tallies
  have go : ∀ {N : pMem}, (∀ b, b ≠ w + 4 → N b = M6 b) → (∀ l, l < 2 → N (w + 4) (6 + l) = V 196 l ∧ N (w + 4) (8 + l) = V 197 l ∧ N (w + 4) (10 + l) = V 198 l ∧ N (w + 4) (12 + l) = V 199 l ∧ N (w + 4) (16 + l) = bgV p2 p3 p4 V 200 l) → rW w N (bgV p2 p3 p4 V) ∧ N w 11 = kI 0 ∧ frC w l M N := by
    intro N hN hT
    have n0 : ∀ j, N w j = M6 w j := fun j => by rw [hN w (by omega)]
    refine ⟨⟨?_, ?_, fun i hi => ?_, fun i j hi hj => ?_, ?_, fun l hl => ?_⟩, ?_, frC_t f6 fun b h1 _ _ => hN b (h1 4 (by decide))⟩
    · rw [n0, r6, b2, bg0_v.2]
      exact h1
    · rw [n0, n0, r6, r6]
      exact h2
    · rw [n0, n0, r6, r6, hN (w + 1) (by omega), c6 (w + 1) (by omega), b1 189 (by decide) (by decide), b1 190 (by decide) (by decide), b1 191 (by decide) (by decide)]
      exact h3 i hi
    · rw [hN (w + 2) (by omega), c6 (w + 2) (by omega), hN (w + 3) (by omega), c6 (w + 3) (by omega), b1 194 (by decide) (by decide), b1 195 (by decide) (by decide)]
      exact h4 i j hi hj
    · rw [n0, n0, n0, n0, n0, n0, n0, r6, r6, r6, r6, r6, r6, r6, b2, b2, b2, b2, b2, b2, b2, bg0_v.2, bg0_v.2, bg0_v.2, bg0_v.2, bg0_v.2, bg0_v.2, bg0_v.2]
      exact ⟨t4, t5, rfl, rfl, t4, rfl, rfl⟩
    · rw [b1 196 (by decide) (by decide), b1 197 (by decide) (by decide), b1 198 (by decide) (by decide), b1 199 (by decide) (by decide)]
      exact hT l hl
    · rw [n0, r6]
      rfl
  rcases hD with ⟨g, _, hN⟩ | ⟨g, _, M7, h235, _, hN⟩
  · rw [hN]
    have e : p4 = kI (-1) := by
      rcases hp with e | e | e
      · exact e
      · rw [e] at g
        exact absurd g (by decide)
      · rw [e] at g
        exact absurd g (by decide)
    refine go (fun _ _ => rfl) fun l hl => ?_
    rw [c6 (w + 4) (by omega), b3, if_pos e]
    exact h6 l hl
  · have hb : bo p4 := hp.resolve_left fun e => by
      rw [e] at g
      exact absurd g (by decide)
    have ne : ¬ p4 = kI (-1) := by rcases hb with rfl | rfl <;> decide
    obtain ⟨m, m2, em⟩ : ∃ m : Nat, m < 2 ∧ p4.toInt = m := by
      rcases hb with rfl | rfl
      · exact ⟨0, by decide, rfl⟩
      · exact ⟨1, by decide, rfl⟩
    have e7 := D_235_v (a := 8) (l := m) rfl em (by decide) m2 h235
    rw [c6 (w + 4) (by omega)] at e7
    rw [hN]
    refine go (fun b hb => by rw [e7]; funext j; exact aPut_cell hb) fun l hl => ?_
    obtain ⟨z1, z2, z3, z4, z5⟩ := h6 l hl
    have row : ∀ i, M7 (w + 4) i = if i = 16 + m then M (w + 4) (16 + m) + kI 1 else M (w + 4) i := fun i => by
      rw [e7, aPut_row, c6 (w + 4) (by omega)]
    rw [row, row, row, row, row, if_neg (by omega), if_neg (by omega), if_neg (by omega), if_neg (by omega), b3, if_neg ne, ix_of em]
    refine ⟨z1, z2, z3, z4, ?_⟩
    by_cases q : l = m
    · rw [if_pos (by omega), if_pos q, ← q, z5]
    · rw [if_neg (by omega), if_neg q]
      exact z5
/-! against -/
theorem drwV_v {V : pMem} : (∀ b, b ≠ 188 → drwV V b = V b) ∧ ∀ j, drwV V 188 j = if j = 1 then xDraw (V 188 1) else V 188 j := by
  unfold drwV
  exact ⟨fun b hb => by funext j; exact aPut_cell hb, fun j => aPut_row⟩
theorem rV_drw {V : pMem} (h : rV V) : rV (drwV V) := rV_188 h (fun b h1 _ => drwV_v.1 b (by omega)) (by rw [drwV_v.2]; rfl)
theorem rW_drw {w : Nat} {M V : pMem} (h : rW w M V) : rW w (aPut M w 5 (xDraw (M w 5))) (drwV V) := by
  obtain ⟨h1, h2, h3, h4, ⟨t4, t5, t6, t7, t8, t9, t10⟩, h6⟩ := h
  have c : ∀ j, j < 5 → 0 < j → aPut M w 5 (xDraw (M w 5)) (w + j) = M (w + j) := fun j _ hj => by funext i; exact aPut_cell (by omega)
  have r : ∀ j, j ≠ 5 → aPut M w 5 (xDraw (M w 5)) w j = M w j := fun j hj => aPut_at hj
  obtain ⟨d1, d2⟩ := drwV_v (V := V)
  refine ⟨by rw [r 0 (by decide), d2]; exact h1, by rw [r 1 (by decide), r 2 (by decide)]; exact h2, fun i hi => ?_, fun i j hi hj => ?_, ?_, fun l hl => ?_⟩
  · rw [r 1 (by decide), r 2 (by decide), c 1 (by decide) (by decide), d1 189 (by decide), d1 190 (by decide), d1 191 (by decide)]
    exact h3 i hi
  · rw [c 2 (by decide) (by decide), c 3 (by decide) (by decide), d1 194 (by decide), d1 195 (by decide)]
    exact h4 i j hi hj
  · rw [r 4 (by decide), r 6 (by decide), r 7 (by decide), r 8 (by decide), r 9 (by decide), r 10 (by decide), aPut_same, d2, d2, d2, d2, d2, d2, d2, t5]
    exact ⟨t4, rfl, t6, t7, t8, t9, t10⟩
  · rw [c 4 (by decide) (by decide), d1 196 (by decide), d1 197 (by decide), d1 198 (by decide), d1 199 (by decide), d1 200 (by decide)]
    exact h6 l hl
theorem D_233_sc {w : Nat} (hw : pK 10 w = true) {M V : pMem} (hV : rV V) (h : rW w M V) {p : Int32} (hp : bo p) {v N} (hD : D_233 w p M v N) : v = scoV V p ∧ N = aPut M w 5 (xDraw (M w 5)) := by
  obtain ⟨m1, m2⟩ := mem_w hV h hp
  obtain ⟨a1, a2⟩ := D_233_v hw m2 hD
  refine ⟨?_, a2⟩
  have e : stS (bt (f_226 w p M)) (M (w + 1)) 24 = stS (inL V p) (V 190) 24 := stS_cg m1 fun i hi => (h.2.2.1 i hi).2.2
  unfold scoV
  rw [a1, mn_w h m1 m1, h.2.2.2.2.1.2.1, e]
theorem plV_v {V : pMem} : (∀ b, b ≠ 188 → b ≠ 199 → plV V b = V b) ∧ (∀ j, plV V 188 j = if j = 20 then wonV V else if j = 1 then xDraw (xDraw (V 188 1)) else V 188 j) ∧ ∀ i, plV V 199 i = if wonV V = kI (-1) then V 199 i else if i = ix (wonV V) then V 199 (ix (wonV V)) + kI 1 else V 199 i := by
  have z1 : ∀ b, b ≠ 188 → plV0 V b = V b := fun b hb => by
    unfold plV0
    funext j
    rw [aPut_cell hb, drwV_v.1 b hb, drwV_v.1 b hb]
  have z2 : ∀ j, plV0 V 188 j = if j = 20 then wonV V else if j = 1 then xDraw (xDraw (V 188 1)) else V 188 j := fun j => by
    unfold plV0
    rw [aPut_row, drwV_v.2, drwV_v.2, drwV_v.2]
    by_cases e : j = 20
    · rw [if_pos e, if_pos e]
    · rw [if_neg e, if_neg e]
      by_cases e1 : j = 1
      · rw [if_pos e1, if_pos e1]
        rfl
      · rw [if_neg e1, if_neg e1, if_neg e1]
  unfold plV
  by_cases g : wonV V = kI (-1)
  · rw [if_pos g]
    exact ⟨fun b h1 _ => z1 b h1, z2, fun i => by rw [if_pos g, z1 199 (by decide)]⟩
  · rw [if_neg g]
    refine ⟨fun b h1 h2 => ?_, fun j => (aPut_cell (by decide)).trans (z2 j), fun i => ?_⟩
    · funext j
      rw [aPut_cell h2, z1 b h1]
    · rw [if_neg g, aPut_row, z1 199 (by decide)]
theorem rV_pl {V : pMem} (h : rV V) : rV (plV V) := rV_188 h (fun b h1 h2 => plV_v.1 b (by omega) (by omega)) (by rw [plV_v.2.1]; rfl)
theorem won_bo {V : pMem} : wonV V = kI (-1) ∨ bo (wonV V) := by
  unfold wonV
  split
  · exact Or.inl rfl
  · split
    · exact Or.inr (Or.inr rfl)
    · exact Or.inr (Or.inl rfl)
theorem D_140_v {w l : Nat} (hw : pK 10 w = true) {M V : pMem} (hV : rV V) (h : rW w M V) (h20 : V 188 20 = kI (-1)) {v N} (hD : D_140 w M v N) : rW w N (plV V) ∧ N w 11 = M w 11 ∧ frC w l M N := by
  obtain ⟨v1, M1, ha, v2, M2, hb, hD⟩ := hD
  obtain ⟨a1, a2⟩ := D_233_sc hw hV h (Or.inl rfl) ha
  have r1 : rW w M1 (drwV V) := by rw [a2]; exact rW_drw h
  obtain ⟨b1, b2⟩ := D_233_sc hw (rV_drw hV) r1 (Or.inr rfl) hb
  have r2 : rW w M2 (drwV (drwV V)) := by rw [b2]; exact rW_drw r1
  have q11 : M2 w 11 = M w 11 := by rw [b2, aPut_at (by decide), a2, aPut_at (by decide)]
  have f2 : frC w l M M2 := by
    rw [b2, a2]
    exact frC_t (frC_p ⟨0, by decide, rfl⟩) (frC_p ⟨0, by decide, rfl⟩)
  obtain ⟨p1, p2, p3⟩ := plV_v (V := V)
  have p2' : ∀ j, j ≠ 20 → j ≠ 1 → plV V 188 j = V 188 j := fun j a b => by rw [p2, if_neg a, if_neg b]
  have p20 : plV V 188 20 = wonV V := by rw [p2, if_pos rfl]
  have p21 : plV V 188 1 = xDraw (xDraw (V 188 1)) := by rw [p2, if_neg (show ¬ (1 : Nat) = 20 by decide), if_pos rfl]
  have d2 : ∀ j, j ≠ 1 → drwV (drwV V) 188 j = V 188 j := fun j hj => by rw [drwV_v.2, if_neg hj, drwV_v.2, if_neg hj]
  have d1 : ∀ b, b ≠ 188 → drwV (drwV V) b = V b := fun b hb => by rw [drwV_v.1 b hb, drwV_v.1 b hb]
  have ds : drwV (drwV V) 188 1 = xDraw (xDraw (V 188 1)) := by
    rw [drwV_v.2, if_pos rfl, drwV_v.2, if_pos rfl]
  -- the wood behind it, by who won
  have go : ∀ {N : pMem}, (∀ b, b ≠ w → b ≠ w + 4 → N b = M2 b) → (∀ j, j ≠ 9 → N w j = M2 w j) → N w 9 = wonV V → (∀ l, l < 2 → N (w + 4) (6 + l) = V 196 l ∧ N (w + 4) (8 + l) = V 197 l ∧ N (w + 4) (10 + l) = V 198 l ∧ N (w + 4) (12 + l) = plV V 199 l ∧ N (w + 4) (16 + l) = V 200 l) → rW w N (plV V) ∧ N w 11 = M w 11 ∧ frC w l M N := by
    intro N n1 n2 n9 nT
    obtain ⟨h1, h2, h3, h4, ⟨t4, t5, t6, t7, t8, t9, t10⟩, h6⟩ := r2
    refine ⟨⟨?_, ?_, fun i hi => ?_, fun i j hi hj => ?_, ?_, fun l hl => ?_⟩, by rw [n2 11 (by decide)]; exact q11, frC_t f2 fun b h1 _ _ => n1 b (h1 0 (by decide)) (h1 4 (by decide))⟩
    · rw [n2 0 (by decide), h1, d2 2 (by decide), p2' 2 (by decide) (by decide)]
    · rw [n2 1 (by decide), n2 2 (by decide)]
      exact h2
    · rw [n2 1 (by decide), n2 2 (by decide), n1 (w + 1) (by omega) (by omega), p1 189 (by decide) (by decide), p1 190 (by decide) (by decide), p1 191 (by decide) (by decide), ← d1 189 (by decide), ← d1 190 (by decide), ← d1 191 (by decide)]
      exact h3 i hi
    · rw [n1 (w + 2) (by omega) (by omega), n1 (w + 3) (by omega) (by omega), p1 194 (by decide) (by decide), p1 195 (by decide) (by decide), ← d1 194 (by decide), ← d1 195 (by decide)]
      exact h4 i j hi hj
    · rw [n2 4 (by decide), n2 5 (by decide), n2 6 (by decide), n2 7 (by decide), n2 8 (by decide), n2 10 (by decide), n9, t4, t5, t6, t7, t8, t10, d2 3 (by decide), ds, d2 17 (by decide), d2 18 (by decide), d2 19 (by decide), d2 21 (by decide), p2' 3 (by decide) (by decide), p21, p2' 17 (by decide) (by decide), p2' 18 (by decide) (by decide), p2' 19 (by decide) (by decide), p20, p2' 21 (by decide) (by decide)]
      exact ⟨rfl, rfl, rfl, rfl, rfl, rfl, rfl⟩
    · rw [p1 196 (by decide) (by decide), p1 197 (by decide) (by decide), p1 198 (by decide) (by decide), p1 200 (by decide) (by decide)]
      exact nT l hl
  have T2 := r2.2.2.2.2.2
  rw [d1 196 (by decide), d1 197 (by decide), d1 198 (by decide), d1 199 (by decide), d1 200 (by decide)] at T2
  have won : ∀ {m : Nat} {M3 M4 : pMem} {u : Unit}, m < 2 → wonV V = kI (m : Nat) → M3 = aPut M2 w 9 (kI (m : Nat)) → D_235 w (kI 6) (M3 w 9) (kI 1) M3 u M4 → N = M4 → rW w N (plV V) ∧ N w 11 = M w 11 ∧ frC w l M N := by
    intro m M3 M4 u hm hw2 e3 h235 hN
    have q9 : M3 w 9 = kI (m : Nat) := by rw [e3, aPut_same]
    have em : (M3 w 9).toInt = (m : Nat) := by rw [q9, kI_toInt (by omega) (by omega)]
    have e4 := D_235_v (a := 6) (l := m) rfl em (by decide) hm h235
    have c3 : ∀ b, b ≠ w → M3 b = M2 b := fun b hb => by rw [e3]; funext j; exact aPut_cell hb
    rw [c3 (w + 4) (by omega)] at e4
    have ne : ¬ wonV V = kI (-1) := by
      rw [hw2, yk (by decide) (by decide), kI_toInt (by omega) (by omega)]
      omega
    have w4 : ∀ j, M4 w j = M3 w j := fun j => by rw [e4, aPut_cell (by omega)]
    refine go (fun b hb1 hb2 => ?_) (fun j hj => ?_) ?_ fun l hl => ?_
    · rw [hN, e4, ← c3 b hb1]
      funext j
      exact aPut_cell hb2
    · rw [hN, w4, e3, aPut_at hj]
    · rw [hN, w4, q9, hw2]
    · obtain ⟨z1, z2, z3, z4, z5⟩ := T2 l hl
      have row : ∀ i, N (w + 4) i = if i = 12 + m then M2 (w + 4) (12 + m) + kI 1 else M2 (w + 4) i := fun i => by
        rw [hN, e4, aPut_row, c3 (w + 4) (by omega)]
      rw [row, row, row, row, row, if_neg (by omega), if_neg (by omega), if_neg (by omega), if_neg (show ¬ 16 + l = 12 + m by omega), p3, if_neg ne, hw2, ix_of (kI_toInt (by omega) (by omega))]
      refine ⟨z1, z2, z3, ?_, z5⟩
      by_cases q : l = m
      · rw [if_pos (by omega), if_pos q, ← q, z4]
      · rw [if_neg (by omega), if_neg q]
        exact z4
  rcases hD with ⟨g, _, hN⟩ | ⟨g, hD⟩
  · have wv : wonV V = kI (-1) := by
      unfold wonV
      rw [if_pos (by rw [← a1, ← b1]; exact g)]
    refine go (fun b _ _ => by rw [hN]) (fun j _ => by rw [hN]) ?_ fun l hl => ?_
    · rw [hN, r2.2.2.2.2.1.2.2.2.2.2.1, d2 20 (by decide), h20, wv]
    · rw [hN, p3, if_pos wv]
      exact T2 l hl
  · have g' : ¬ scoV V (kI 0) = scoV (drwV V) (kI 1) := by rw [← a1, ← b1]; exact g
    rcases hD with ⟨g2, M3, e3, _, M4, h235, _, hN⟩ | ⟨g2, M3, e3, _, M4, h235, _, hN⟩
    · refine won (m := 1) (by decide) ?_ e3 h235 hN
      unfold wonV
      rw [if_neg g', if_pos (by rw [← a1, ← b1]; exact g2)]
      rfl
    · refine won (m := 0) (by decide) ?_ e3 h235 hN
      unfold wonV
      rw [if_neg g', if_neg (by rw [← a1, ← b1]; exact g2)]
      rfl
