/-! fights, home, names: the class -/
theorem fgV_v {o : List Cd} {L : List Ln} {l : Nat} {V : pMem} : (∀ b, b ≠ 188 → b ≠ 197 → b ≠ 198 → fgV o L l V b = V b) ∧ (∀ j, j ≠ 54 → j ≠ 55 → fgV o L l V 188 j = V 188 j) ∧
    fgV o L l V 188 54 = (if 0 < tl (FlV V (kI (l : Nat))) o (kI 15) L then V 188 54 ||| kI 1 <<< (kI (l : Nat) &&& 31) else V 188 54) ∧
    fgV o L l V 188 55 = (if 0 < tl (FlV V (kI (l : Nat))) o (kI 15) L then V 188 55 + h999 (tl (FlV V (kI (l : Nat))) o (kI 15) L) else V 188 55) ∧
    (∀ i, fgV o L l V 197 i = if 0 < tl (FlV V (kI (l : Nat))) o (kI 15) L ∧ i = l then V 197 l + kI 1 else V 197 i) ∧
    ∀ i, fgV o L l V 198 i = if 0 < tl (FlV V (kI (l : Nat))) o (kI 15) L ∧ i = l then V 198 l + h999 (tl (FlV V (kI (l : Nat))) o (kI 15) L) else V 198 i := by
  unfold fgV
  by_cases g : 0 < tl (FlV V (kI (l : Nat))) o (kI 15) L
  · rw [if_pos g, if_pos g, if_pos g]
    refine ⟨fun b h1 h2 h3 => ?_, fun j h1 h2 => ?_, ?_, ?_, fun i => ?_, fun i => ?_⟩
    · funext j
      rw [aPut_cell h1, aPut_cell h3, aPut_cell h2, aPut_cell h1]
    · rw [aPut_at h2, aPut_cell (by decide), aPut_cell (by decide), aPut_at h1]
    · rw [aPut_at (by decide), aPut_cell (by decide), aPut_cell (by decide), aPut_same]
    · rw [aPut_same]
    · rw [aPut_cell (by decide), aPut_cell (by decide), aPut_row, aPut_cell (by decide)]
      by_cases e : i = l
      · rw [if_pos e, if_pos ⟨g, e⟩]
      · rw [if_neg e, if_neg (fun q => e q.2)]
    · rw [aPut_cell (by decide), aPut_row, aPut_cell (by decide), aPut_cell (by decide)]
      by_cases e : i = l
      · rw [if_pos e, if_pos ⟨g, e⟩]
      · rw [if_neg e, if_neg (fun q => e q.2)]
  · rw [if_neg g, if_neg g, if_neg g]
    exact ⟨fun _ _ _ _ => rfl, fun _ _ _ => rfl, rfl, rfl, fun i => (if_neg (fun q => g q.1)).symm, fun i => (if_neg (fun q => g q.1)).symm⟩
theorem rV_fg {o : List Cd} {L : List Ln} {l : Nat} {V : pMem} (h : rV V) : rV (fgV o L l V) := rV_188 h (fun b h1 h2 => fgV_v.1 b (by omega) (by omega) (by omega)) (fgV_v.2.1 2 (by decide) (by decide))
theorem rV_fg0 {V : pMem} (h : rV V) : rV (fg0 V) := by
  unfold fg0
  exact rV_188 h (fun b h1 h2 => by funext j; rw [aPut_cell (by omega), aPut_cell (by omega)]) (by rw [aPut_at (by decide), aPut_at (by decide)])
theorem aV_fg0 {V : pMem} : agV V (fg0 V) := by
  have c : ∀ b, b ≠ 188 → fg0 V b = V b := fun b hb => by
    funext j
    unfold fg0
    rw [aPut_cell hb, aPut_cell hb]
  have d : ∀ j, j ≠ 54 → j ≠ 55 → fg0 V 188 j = V 188 j := fun j h1 h2 => by
    unfold fg0
    rw [aPut_at h2, aPut_at h1]
  refine ⟨⟨d 1 (by decide) (by decide), d 2 (by decide) (by decide), d 3 (by decide) (by decide), d 17 (by decide) (by decide), d 18 (by decide) (by decide), d 19 (by decide) (by decide), d 20 (by decide) (by decide), d 21 (by decide) (by decide)⟩, fun i _ => ?_, fun k _ => ?_, fun l _ => ?_⟩
  · rw [c 189 (by decide), c 190 (by decide), c 191 (by decide)]
    exact ⟨rfl, rfl, rfl⟩
  · rw [c 194 (by decide), c 195 (by decide)]
    exact ⟨rfl, rfl⟩
  · rw [c 196 (by decide), c 197 (by decide), c 198 (by decide), c 199 (by decide), c 200 (by decide)]
    exact ⟨rfl, rfl, rfl, rfl, rfl⟩
theorem mn999 {x : Int32} : pMnI x (kI 999) = h999 x := by
  unfold pMnI h999
  by_cases h : x ≤ kI 999
  · rw [if_pos h, if_neg]
    rw [i_lt]
    rw [i_le] at h
    omega
  · rw [if_neg h, if_pos]
    rw [i_lt]
    rw [i_le] at h
    omega
theorem lot_of {l : Nat} (hl : l < 2) : bo (kI (l : Nat)) ∧ (kI (l : Nat)).toInt = (l : Nat) := by
  have e : l = 0 ∨ l = 1 := by omega
  rcases e with rfl | rfl
  · exact ⟨Or.inl rfl, rfl⟩
  · exact ⟨Or.inr rfl, rfl⟩
theorem D_143_v {w l : Nat} (hw : pK 10 w = true) (hl : pK 2 l = true) {M V : pMem} (hV : rV V) (h : rW w M V) (h11 : M w 11 = V 188 54) {o : List Cd} {L : List Ln} (hc : cLk M l o L) {m : Nat} (hm : m < 2) {v N} (hD : D_143 w l (kI (m : Nat)) M v N) : rW w N (fgV o L m V) ∧ N w 11 = fgV o L m V 188 54 ∧ frC w l M N := by
  obtain ⟨bm, tm⟩ := lot_of hm
  obtain ⟨_, M1, h167, v2, M2, h157, hD⟩ := hD
  obtain ⟨a1, a2⟩ := D_167c_w hw hV h bm h167
  have r1 := rW_132 hw h a2
  obtain ⟨b1, b2⟩ := D_157_v hl (by decide) (frC_law hw hl (frC_132 a2) hc) a1 h157
  have r2 := rW_6 hw hl r1 b2
  have f2 : frC w l M M2 := frC_t (frC_132 a2) (frC_6 b2)
  have w0 : w ≠ 132 := by have := wCell hw 0 (by decide); omega
  have w6 : w ≠ l + 6 := fun e => lwCell hl hw 6 (by decide) 0 (by decide) e.symm
  have q11 : M2 w 11 = V 188 54 := by rw [b2 w w6, a2 w w0]; exact h11
  have tv : v2 = tl (FlV V (kI (m : Nat))) o (kI 15) L := b1
  obtain ⟨g1, g2, g3, g4, g5, g6⟩ := fgV_v (o := o) (L := L) (l := m) (V := V)
  rcases hD with ⟨g, _, hN⟩ | ⟨g, M3, e3, _, M4, ha, _, M5, hb, _, hN⟩
  · have ng : ¬ 0 < tl (FlV V (kI (m : Nat))) o (kI 15) L := by
      rw [← tv, i_lt, i_0]
      rw [i_le, i_0] at g
      omega
    have e : fgV o L m V = V := by
      unfold fgV
      rw [if_neg ng]
    rw [hN, e]
    exact ⟨r2, q11, f2⟩
  · have pg : 0 < tl (FlV V (kI (m : Nat))) o (kI 15) L := by
      rw [← tv, i_lt, i_0]
      rw [i_le, i_0] at g
      omega
    have c3 : ∀ b, b ≠ w → M3 b = M2 b := fun b hb => by rw [e3]; funext j; exact aPut_cell hb
    have e4 := D_235_v (a := 4) (l := m) rfl tm (by decide) hm ha
    have e5 := D_235_v (a := 5) (l := m) rfl tm (by decide) hm hb
    have c5 : ∀ b, b ≠ w → b ≠ w + 4 → M5 b = M2 b := fun b h1 h2 => by
      rw [← c3 b h1]
      funext j
      rw [e5, aPut_cell h2, e4, aPut_cell h2]
    have w5 : ∀ j, M5 w j = M3 w j := fun j => by rw [e5, aPut_cell (by omega), e4, aPut_cell (by omega)]
    have r5 : ∀ i, M5 (w + 4) i = if i = 10 + m then M2 (w + 4) (10 + m) + h999 v2 else if i = 8 + m then M2 (w + 4) (8 + m) + kI 1 else M2 (w + 4) i := fun i => by
      rw [e5, aPut_row, e4, aPut_row, aPut_row, c3 (w + 4) (by omega), mn999, if_neg (show ¬ 2 * 5 + m = 2 * 4 + m by omega)]
    obtain ⟨h1, h2, h3, h4, ⟨t4, t5, t6, t7, t8, t9, t10⟩, h6⟩ := r2
    have s5 : ∀ j, j ≠ 11 → M5 w j = M2 w j := fun j hj => by rw [w5, e3, aPut_at hj]
    rw [hN]
    refine ⟨⟨?_, ?_, fun i hi => ?_, fun i j hi hj => ?_, ?_, fun i hi => ?_⟩, ?_, frC_t f2 fun b z1 _ _ => c5 b (z1 0 (by decide)) (z1 4 (by decide))⟩
    · rw [s5 0 (by decide), g2 2 (by decide) (by decide)]
      exact h1
    · rw [s5 1 (by decide), s5 2 (by decide)]
      exact h2
    · rw [s5 1 (by decide), s5 2 (by decide), c5 (w + 1) (by omega) (by omega), g1 189 (by decide) (by decide) (by decide), g1 190 (by decide) (by decide) (by decide), g1 191 (by decide) (by decide) (by decide)]
      exact h3 i hi
    · rw [c5 (w + 2) (by omega) (by omega), c5 (w + 3) (by omega) (by omega), g1 194 (by decide) (by decide) (by decide), g1 195 (by decide) (by decide) (by decide)]
      exact h4 i j hi hj
    · rw [s5 4 (by decide), s5 5 (by decide), s5 6 (by decide), s5 7 (by decide), s5 8 (by decide), s5 9 (by decide), s5 10 (by decide), g2 3 (by decide) (by decide), g2 1 (by decide) (by decide), g2 17 (by decide) (by decide), g2 18 (by decide) (by decide), g2 19 (by decide) (by decide), g2 20 (by decide) (by decide), g2 21 (by decide) (by decide)]
      exact ⟨t4, t5, t6, t7, t8, t9, t10⟩
    · obtain ⟨z1, z2, z3, z4, z5⟩ := h6 i hi
      rw [r5, r5, r5, r5, r5, g1 196 (by decide) (by decide) (by decide), g1 199 (by decide) (by decide) (by decide), g1 200 (by decide) (by decide) (by decide), g5, g6,
        if_neg (show ¬ 6 + i = 10 + m by omega), if_neg (show ¬ 6 + i = 8 + m by omega), if_neg (show ¬ 8 + i = 10 + m by omega), if_neg (show ¬ 10 + i = 8 + m by omega), if_neg (show ¬ 12 + i = 10 + m by omega), if_neg (show ¬ 12 + i = 8 + m by omega), if_neg (show ¬ 16 + i = 10 + m by omega), if_neg (show ¬ 16 + i = 8 + m by omega)]
      by_cases q : i = m
      · subst q
        rw [if_pos rfl, if_pos rfl, if_pos ⟨pg, rfl⟩, if_pos ⟨pg, rfl⟩, z2, z3, ← tv]
        exact ⟨z1, rfl, rfl, z4, z5⟩
      · rw [if_neg (show ¬ 8 + i = 8 + m by omega), if_neg (show ¬ 10 + i = 10 + m by omega), if_neg (fun r => q r.2), if_neg (fun r => q r.2)]
        exact ⟨z1, z2, z3, z4, z5⟩
    · rw [w5, e3, aPut_same, q11, g3, if_pos pg]
/-! home -/
theorem hoV_v {o : List Cd} {L : List Ln} {V : pMem} : (∀ b, b ≠ 188 → b ≠ 191 → hoV o L V b = V b) ∧ (∀ j, j ≠ 57 → hoV o L V 188 j = V 188 j) ∧ hoV o L V 188 57 = kI (cN (goV o L V) 24 : Nat) ∧ ∀ i, hoV o L V 191 i = if i < 24 ∧ goV o L V i = true then kI 0 else V 191 i := by
  unfold hoV
  refine ⟨fun b h1 h2 => ?_, fun j hj => ?_, aPut_same, fun i => ?_⟩
  · funext j
    rw [aPut_cell h1, aRow_cell h2]
  · rw [aPut_at hj, aRow_cell (by decide)]
  · rw [aPut_cell (by decide), aRow_same']
theorem rV_ho {o : List Cd} {L : List Ln} {V : pMem} (h : rV V) : rV (hoV o L V) := by
  obtain ⟨v1, v2, v3, v4⟩ := hoV_v (o := o) (L := L) (V := V)
  obtain ⟨⟨n, n1, n2, n3⟩, h2, h3, h4⟩ := h
  refine ⟨⟨n, n1, by rw [v2 2 (by decide)]; exact n2, fun i a b => ?_⟩, fun i hi => ?_, by rw [v1 195 (by decide) (by decide)]; exact h3, by rw [v1 196 (by decide) (by decide)]; exact h4⟩
  · rw [v4, n3 i a b, kIz, ite_self]
  · rw [v1 189 (by decide) (by decide), v4]
    refine ⟨(h2 i hi).1, ?_⟩
    by_cases g : i < 24 ∧ goV o L V i = true
    · rw [if_pos g]
      exact Or.inl rfl
    · rw [if_neg g]
      exact (h2 i hi).2
theorem D_144_v {w l : Nat} (hw : pK 10 w = true) (hl : pK 2 l = true) {M V : pMem} (hV : rV V) (h : rW w M V) {o : List Cd} {L : List Ln} (hc : cLk M l o L) {v N} (hD : D_144 w l M v N) : rW w N (hoV o L V) ∧ N w 11 = M w 11 ∧ frC w l M N := by
  have w0 : w ≠ 132 := by have := wCell hw 0 (by decide); omega
  have w6 : w ≠ l + 6 := fun e => lwCell hl hw 6 (by decide) 0 (by decide) e.symm
  have q := hD (fun x3 x4 M' v N => ∀ i : Nat, x4.toInt = i → i ≤ 24 → (∀ k, bt x3 k = (decide (k < i) && goV o L V k)) → rW w M' V → M' w 11 = M w 11 → frC w l M M' → rW w N (hoV o L V) ∧ N w 11 = M w 11 ∧ frC w l M N) ?_
  · exact q 0 rfl (Nat.zero_le _) (fun k => by rw [bt_0]; rfl) h rfl frC_r
  · intro x3 x4 M' v N hs i hi hi24 hx hr h11 hf
    have g24 : ∀ k, 24 ≤ k → goV o L V k = goV o L V k := fun _ _ => rfl
    rcases hs with ⟨g, M1, e1, _, hN⟩ | ⟨g, hs⟩
    · rw [i_le, hi, kI_toInt (by decide) (by decide)] at g
      have ei : i = 24 := by omega
      subst ei
      have c1 : ∀ b, b ≠ w → M1 b = M' b := fun b hb => by rw [e1]; funext j; exact aPut_cell hb
      have d1 : ∀ j, j ≠ 2 → M1 w j = M' w j := fun j hj => by rw [e1, aPut_at hj]
      have s1 : M1 w 2 = M' w 2 &&& (x3 ^^^ kI (-1)) := by rw [e1, aPut_same]
      obtain ⟨h1, ⟨h2, h2'⟩, h3, h4, h5, h6⟩ := hr
      obtain ⟨v1, v2, v3, v4⟩ := hoV_v (o := o) (L := L) (V := V)
      rw [hN]
      refine ⟨⟨?_, ⟨?_, ?_⟩, fun k hk => ?_, fun a b ha hb => ?_, ?_, fun m hm => ?_⟩, by rw [d1 11 (by decide)]; exact h11, frC_t hf fun b z1 _ _ => c1 b (z1 0 (by decide))⟩
      · rw [d1 0 (by decide), v2 2 (by decide)]
        exact h1
      · rw [d1 1 (by decide)]
        exact h2
      · rw [s1]
        exact nb_and h2'
      · rw [d1 1 (by decide), s1, c1 (w + 1) (by omega), v1 189 (by decide) (by decide), v1 190 (by decide) (by decide), v4, bt_and, bt_not (by omega), hx, decide_eq_true hk]
        refine ⟨(h3 k hk).1, ?_, (h3 k hk).2.2⟩
        rw [(h3 k hk).2.1, Bool.true_and]
        cases e : goV o L V k with
        | true =>
          rw [if_pos ⟨hk, rfl⟩, Bool.not_true, Bool.and_false]
          decide
        | false =>
          rw [if_neg (fun q => by cases q.2), Bool.not_false, Bool.and_true]
      · rw [c1 (w + 2) (by omega), c1 (w + 3) (by omega), v1 194 (by decide) (by decide), v1 195 (by decide) (by decide)]
        exact h4 a b ha hb
      · rw [d1 4 (by decide), d1 5 (by decide), d1 6 (by decide), d1 7 (by decide), d1 8 (by decide), d1 9 (by decide), d1 10 (by decide), v2 3 (by decide), v2 1 (by decide), v2 17 (by decide), v2 18 (by decide), v2 19 (by decide), v2 20 (by decide), v2 21 (by decide)]
        exact h5
      · rw [c1 (w + 4) (by omega), v1 196 (by decide) (by decide), v1 197 (by decide) (by decide), v1 198 (by decide) (by decide), v1 199 (by decide) (by decide), v1 200 (by decide) (by decide)]
        exact h6 m hm
    · rw [i_le, hi, kI_toInt (by decide) (by decide)] at g
      have skip : goV o L V i = false → ∀ k, bt x3 k = (decide (k < i + 1) && goV o L V k) := fun e k => by
        rw [hx]
        by_cases q : k = i
        · rw [q, e, Bool.and_false, Bool.and_false]
        · by_cases r : k < i
          · rw [decide_eq_true r, decide_eq_true (show k < i + 1 by omega)]
          · rw [decide_eq_false r, decide_eq_false (show ¬ k < i + 1 by omega)]
      rcases hs with ⟨g2, hs⟩ | ⟨g2, _, M1, h168, v2, M2, h157, hs⟩
      · have g2 := (f37_th hV hr hi (by omega)).1.mp g2
        exact hs (i + 1) (n_add1 hi (by omega)) (by omega) (skip (by unfold goV; rw [g2]; rfl)) hr h11 hf
      · have g2 := (f37_th hV hr hi (by omega)).2.mp g2
        obtain ⟨a1, a2⟩ := D_168c_w hw hV hr hi (by omega) h168
        obtain ⟨b1, b2⟩ := D_157_v hl (by decide) (frC_law hw hl (frC_t hf (frC_132 a2)) hc) a1 h157
        have r2 := rW_6 hw hl (rW_132 hw hr a2) b2
        have f2 := frC_t hf (frC_t (frC_132 a2) (frC_6 b2))
        have q11 : M2 w 11 = M w 11 := by rw [b2 w w6, a2 w w0]; exact h11
        have tv : v2 = tl (FbV V i) o (kI 16) L := b1
        rcases hs with ⟨g3, hs⟩ | ⟨g3, hs⟩
        · refine hs (i + 1) (n_add1 hi (by omega)) (by omega) ?_ r2 q11 f2
          have e : goV o L V i = false := by
            unfold goV
            rw [decide_eq_false, Bool.and_false]
            rw [← tv, i_lt, i_0]
            rw [i_le, i_0] at g3
            omega
          intro k
          rw [bt_or, bt_0, Bool.or_false]
          exact skip e k
        · refine hs (i + 1) (n_add1 hi (by omega)) (by omega) ?_ r2 q11 f2
          have e : goV o L V i = true := by
            unfold goV
            rw [g2, decide_eq_true]
            · rfl
            · rw [← tv, i_lt, i_0]
              rw [i_le, i_0] at g3
              omega
          intro k
          rw [bt_or, bt_sh hi (by omega), hx]
          by_cases q : k = i
          · rw [q, e, decide_eq_true rfl, decide_eq_true (show i < i + 1 by omega), Bool.or_true]
            rfl
          · rw [decide_eq_false q, Bool.or_false]
            by_cases r : k < i
            · rw [decide_eq_true r, decide_eq_true (show k < i + 1 by omega)]
            · rw [decide_eq_false r, decide_eq_false (show ¬ k < i + 1 by omega)]
/-! names -/
theorem naV_v {o : List Cd} {L : List Ln} {l : Nat} {V : pMem} : (∀ b, b ≠ 188 → b ≠ 196 → naV o L l V b = V b) ∧ (∀ j, j ≠ 56 → naV o L l V 188 j = V 188 j) ∧ (∀ i, naV o L l V 196 i = if (V 196 l = 0 ∧ 0 < tl (FlV V (kI (l : Nat))) o (kI 17) L) ∧ i = l then V 188 3 + kI 1 else V 196 i) ∧ naV o L l V 188 56 = if V 196 l = 0 ∧ 0 < tl (FlV V (kI (l : Nat))) o (kI 17) L then V 188 56 + kI 1 else V 188 56 := by
  unfold naV
  by_cases g : V 196 l = 0 ∧ 0 < tl (FlV V (kI (l : Nat))) o (kI 17) L
  · rw [if_pos g, if_pos g]
    refine ⟨fun b h1 h2 => ?_, fun j hj => ?_, fun i => ?_, aPut_same⟩
    · funext j
      rw [aPut_cell h1, aPut_cell h2]
    · rw [aPut_at hj, aPut_cell (by decide)]
    · rw [aPut_cell (by decide), aPut_row]
      by_cases e : i = l
      · rw [if_pos e, if_pos ⟨g, e⟩]
      · rw [if_neg e, if_neg (fun q => e q.2)]
  · rw [if_neg g, if_neg g]
    exact ⟨fun _ _ _ => rfl, fun _ _ => rfl, fun i => (if_neg (fun q => g q.1)).symm, rfl⟩
theorem rV_na {o : List Cd} {L : List Ln} {l : Nat} {V : pMem} (h : rV V) (hd : 0 ≤ (V 188 3).toInt ∧ (V 188 3).toInt ≤ 100000) : rV (naV o L l V) := by
  obtain ⟨v1, v2, v3, v4⟩ := naV_v (o := o) (L := L) (l := l) (V := V)
  obtain ⟨⟨n, n1, n2, n3⟩, h2, h3, h4⟩ := h
  refine ⟨⟨n, n1, by rw [v2 2 (by decide)]; exact n2, by rw [v1 191 (by decide) (by decide)]; exact n3⟩, by rw [v1 189 (by decide) (by decide), v1 191 (by decide) (by decide)]; exact h2, by rw [v1 195 (by decide) (by decide)]; exact h3, fun i hi => ?_⟩
  rw [v3]
  by_cases g : (V 196 l = 0 ∧ 0 < tl (FlV V (kI (l : Nat))) o (kI 17) L) ∧ i = l
  · rw [if_pos g, i_add1 (by omega)]
    omega
  · rw [if_neg g]
    exact h4 i hi
theorem aV_na0 {V : pMem} : agV V (na0 V) := by
  have c : ∀ b, b ≠ 188 → na0 V b = V b := fun b hb => by
    funext j
    unfold na0
    rw [aPut_cell hb]
  have d : ∀ j, j ≠ 56 → na0 V 188 j = V 188 j := fun j h1 => by
    unfold na0
    rw [aPut_at h1]
  refine ⟨⟨d 1 (by decide), d 2 (by decide), d 3 (by decide), d 17 (by decide), d 18 (by decide), d 19 (by decide), d 20 (by decide), d 21 (by decide)⟩, fun i _ => ?_, fun k _ => ?_, fun l _ => ?_⟩
  · rw [c 189 (by decide), c 190 (by decide), c 191 (by decide)]
    exact ⟨rfl, rfl, rfl⟩
  · rw [c 194 (by decide), c 195 (by decide)]
    exact ⟨rfl, rfl⟩
  · rw [c 196 (by decide), c 197 (by decide), c 198 (by decide), c 199 (by decide), c 200 (by decide)]
    exact ⟨rfl, rfl, rfl, rfl, rfl⟩
theorem D_145_v {w l : Nat} (hw : pK 10 w = true) (hl : pK 2 l = true) {M V : pMem} (hV : rV V) (h : rW w M V) (h19 : V 188 19 = V 188 3) {o : List Cd} {L : List Ln} (hc : cLk M l o L) {m : Nat} (hm : m < 2) {v N} (hD : D_145 w l (kI (m : Nat)) M v N) : rW w N (naV o L m V) ∧ N w 11 = M w 11 ∧ frC w l M N := by
  obtain ⟨bm, tm⟩ := lot_of hm
  obtain ⟨_, M1, h167, hD⟩ := hD
  obtain ⟨a1, a2⟩ := D_167c_w hw hV h bm h167
  have r1 := rW_132 hw h a2
  have w0 : w ≠ 132 := by have := wCell hw 0 (by decide); omega
  have w6 : w ≠ l + 6 := fun e => lwCell hl hw 6 (by decide) 0 (by decide) e.symm
  have ge := hV.2.2.2 m hm
  have n1 : M1 (w + 4) (ix (kI 6 + kI (m : Nat))) = V 196 m := by
    rw [ix_of (n := 6 + m) (by rw [i_add (by rw [tm, kI_toInt (by decide) (by decide)]; omega) (by rw [tm, kI_toInt (by decide) (by decide)]; omega), tm, kI_toInt (by decide) (by decide)]; omega)]
    exact (r1.2.2.2.2.2 m hm).1
  have fz : f_237 w (kI (m : Nat)) M1 = 0 ↔ V 196 m = 0 := by
    unfold f_237
    rw [n1]
    by_cases q : V 196 m ≤ 0
    · rw [if_pos q]
      rw [i_le, i_0] at q
      exact ⟨fun _ => by rw [i_eq, i_0]; omega, fun _ => rfl⟩
    · rw [if_neg q]
      rw [i_le, i_0] at q
      exact ⟨fun r => absurd r (by decide), fun r => by rw [r, i_0] at q; omega⟩
  rcases hD with ⟨g, _, hN⟩ | ⟨g, v2, M2, h157, hD⟩
  · have e : naV o L m V = V := by
      unfold naV
      rw [if_neg (fun q => g (fz.mpr q.1))]
    rw [hN, e]
    exact ⟨r1, by rw [a2 w w0], frC_132 a2⟩
  · have z0 := fz.mp (Classical.not_not.mp g)
    obtain ⟨b1, b2⟩ := D_157_v hl (by decide) (frC_law hw hl (frC_132 a2) hc) a1 h157
    have r2 := rW_6 hw hl r1 b2
    have f2 : frC w l M M2 := frC_t (frC_132 a2) (frC_6 b2)
    have q11 : M2 w 11 = M w 11 := by rw [b2 w w6, a2 w w0]
    have tv : v2 = tl (FlV V (kI (m : Nat))) o (kI 17) L := b1
    rcases hD with ⟨g2, _, hN⟩ | ⟨g2, _, M3, h235, _, hN⟩
    · have e : naV o L m V = V := by
        unfold naV
        rw [if_neg]
        rintro ⟨_, q⟩
        rw [← tv, i_lt, i_0] at q
        rw [i_le, i_0] at g2
        omega
      rw [hN, e]
      exact ⟨r2, q11, f2⟩
    · have pg : V 196 m = 0 ∧ 0 < tl (FlV V (kI (m : Nat))) o (kI 17) L := ⟨z0, by
        rw [← tv, i_lt, i_0]
        rw [i_le, i_0] at g2
        omega⟩
      have e3 := D_235_v (a := 3) (l := m) rfl tm (by decide) hm h235
      obtain ⟨h1, h2, h3, h4, h5, h6⟩ := r2
      obtain ⟨v1, v2', v3, v4⟩ := naV_v (o := o) (L := L) (l := m) (V := V)
      have c3 : ∀ b, b ≠ w + 4 → M3 b = M2 b := fun b hb => by rw [e3]; funext j; exact aPut_cell hb
      have row : ∀ i, M3 (w + 4) i = if i = 6 + m then V 188 3 + kI 1 else M2 (w + 4) i := fun i => by
        rw [e3, aPut_row, show 2 * 3 + m = 6 + m by omega, (h6 m hm).1, z0, h5.2.2.2.2.1, h19, Int32.zero_add]
      rw [hN]
      refine ⟨⟨?_, ?_, fun i hi => ?_, fun i j hi hj => ?_, ?_, fun i hi => ?_⟩, by rw [c3 w (by omega)]; exact q11, frC_t f2 fun b z1 _ _ => c3 b (z1 4 (by decide))⟩
      · rw [c3 w (by omega), v2' 2 (by decide)]
        exact h1
      · rw [c3 w (by omega)]
        exact h2
      · rw [c3 w (by omega), c3 (w + 1) (by omega), v1 189 (by decide) (by decide), v1 190 (by decide) (by decide), v1 191 (by decide) (by decide)]
        exact h3 i hi
      · rw [c3 (w + 2) (by omega), c3 (w + 3) (by omega), v1 194 (by decide) (by decide), v1 195 (by decide) (by decide)]
        exact h4 i j hi hj
      · rw [c3 w (by omega), v2' 3 (by decide), v2' 1 (by decide), v2' 17 (by decide), v2' 18 (by decide), v2' 19 (by decide), v2' 20 (by decide), v2' 21 (by decide)]
        exact h5
      · obtain ⟨z1, z2, z3, z4, z5⟩ := h6 i hi
        rw [row, row, row, row, row, v3, v1 197 (by decide) (by decide), v1 198 (by decide) (by decide), v1 199 (by decide) (by decide), v1 200 (by decide) (by decide), if_neg (show ¬ 8 + i = 6 + m by omega), if_neg (show ¬ 10 + i = 6 + m by omega), if_neg (show ¬ 12 + i = 6 + m by omega), if_neg (show ¬ 16 + i = 6 + m by omega)]
        refine ⟨?_, z2, z3, z4, z5⟩
        by_cases q : i = m
        · rw [if_pos (by omega), if_pos ⟨pg, q⟩]
        · rw [if_neg (by omega), if_neg (fun r => q r.2)]
          exact z1
/-! the whole day -/
theorem rV_lik {o : List Cd} {L : List Ln} {V : pMem} (h : rV V) : rV (likV o L V) := rV_194 h fun b hb => likV_c hb
/-- what the steps leave of the days -/
theorem st3 {o : List Cd} {L : List Ln} {k p wr : Int32} {V : pMem} : stV o L k p wr V 188 3 = V 188 3 ∧ stV o L k p wr V 188 17 = k := by
  have a : ∀ j, j = 3 ∨ j = 17 → stV o L k p wr V 188 j = bgV k p wr V 188 j := fun j hj => by
    unfold stV
    rw [naV_v.2.1 j (by omega), naV_v.2.1 j (by omega)]
    show na0 _ 188 j = _
    unfold na0
    rw [aPut_at (by omega), hoV_v.2.1 j (by omega), fgV_v.2.1 j (by omega) (by omega), fgV_v.2.1 j (by omega) (by omega)]
    unfold fg0
    rw [aPut_at (by omega), aPut_at (by omega), likV_c (by decide)]
    by_cases g : k = kI 1
    · rw [if_pos g, plV_v.2.1, if_neg (by omega), if_neg (by omega)]
    · rw [if_neg g]
  rw [a 3 (Or.inl rfl), a 17 (Or.inr rfl), bgV_v.2.1, bgV_v.2.1, bg0_v.2, bg0_v.2]
  exact ⟨rfl, rfl⟩
theorem D_138_v {w l : Nat} (hw : pK 10 w = true) (hl : pK 2 l = true) {M V : pMem} (hV : rV V) (h : rW w M V) (hd : 0 ≤ (V 188 3).toInt ∧ (V 188 3).toInt ≤ 100000) {o : List Cd} {L : List Ln} (hc : cLk M l o L) {p3 p4 p5 : Int32} (hp : p5 = kI (-1) ∨ bo p5) {v N} (hD : D_138 w l p3 p4 p5 M v N) :
    rV (dyV (stV o L p3 p4 p5 V)) ∧ rW w N (dyV (stV o L p3 p4 p5 V)) ∧ v = f_239 (stV o L p3 p4 p5 V 188 54) ∧ N w 11 = stV o L p3 p4 p5 V 188 54 ∧ frC w l M N := by
  obtain ⟨_, M1, h139, hD⟩ := hD
  obtain ⟨a1, a2, a3⟩ := D_139_v (l := l) hw h hp h139
  have agV' := rV_bg (k := p3) (p := p4) (wr := p5) hV
  have b20 : bgV p3 p4 p5 V 188 20 = kI (-1) := by rw [bgV_v.2.1, bg0_v.2]; rfl
  have b19 : bgV p3 p4 p5 V 188 19 = V 188 3 := by rw [bgV_v.2.1, bg0_v.2]; rfl
  have b3 : bgV p3 p4 p5 V 188 3 = V 188 3 := by rw [bgV_v.2.1, bg0_v.2]; rfl
  -- from the likes on
  have tail : ∀ {M2 W : pMem}, rV W → rW w M2 W → M2 w 11 = kI 0 → frC w l M M2 → W 188 19 = V 188 3 → W 188 3 = V 188 3 → (tCall (D_141 w l M2) fun _ M3 => tCall (D_143 w l (kI 0) M3) fun _ M4 => tCall (D_143 w l (kI 1) M4) fun _ M5 => tCall (D_144 w l M5) fun _ M6 => tCall (D_145 w l (kI 0) M6) fun _ M7 => tCall (D_145 w l (kI 1) M7) fun _ M8 => tPut (aPut M8 w 4 ((M8 w 4) + (kI 1))) fun M9 => tRet (f_239 (M9 w 11)) M9) v N →
      ∀ U, U = naV o L 1 (naV o L 0 (na0 (hoV o L (fgV o L 1 (fgV o L 0 (fg0 (likV o L W))))))) → rV (dyV U) ∧ rW w N (dyV U) ∧ v = f_239 (U 188 54) ∧ N w 11 = U 188 54 ∧ frC w l M N := by
    intro M2 W wV wR w11 wf w19 w3 hD U hU
    obtain ⟨_, M3, h141, _, M4, h143, _, M5, h143b, _, M6, h144, _, M7, h145, _, M8, h145b, M9, e9, hv, hN⟩ := hD
    obtain ⟨c1, c2, c3⟩ := D_141_v hw hl wV wR (frC_law hw hl wf hc) h141
    have cV := rV_lik (o := o) (L := L) wV
    have f3 := frC_t wf c2
    have d0 : M3 w 11 = fg0 (likV o L W) 188 54 := by
      rw [c3, w11]
      unfold fg0
      rw [aPut_at (by decide), aPut_same]
    obtain ⟨d1, d2, d3⟩ := D_143_v hw hl (rV_fg0 cV) (rW_cg c1 aV_fg0) d0 (frC_law hw hl f3 hc) (m := 0) (by decide) h143
    have dV := rV_fg (o := o) (L := L) (l := 0) (rV_fg0 cV)
    have f4 := frC_t f3 d3
    obtain ⟨g1, g2, g3⟩ := D_143_v hw hl dV d1 d2 (frC_law hw hl f4 hc) (m := 1) (by decide) h143b
    have gV := rV_fg (o := o) (L := L) (l := 1) dV
    have f5 := frC_t f4 g3
    obtain ⟨i1, i2, i3⟩ := D_144_v hw hl gV g1 (frC_law hw hl f5 hc) h144
    have iV := rV_ho (o := o) (L := L) gV
    have f6 := frC_t f5 i3
    have nV := rV_cg iV (aV_na0 (V := hoV o L (fgV o L 1 (fgV o L 0 (fg0 (likV o L W))))))
    have k : ∀ j, j = 19 ∨ j = 3 → na0 (hoV o L (fgV o L 1 (fgV o L 0 (fg0 (likV o L W))))) 188 j = W 188 j := fun j hj => by
      unfold na0
      rw [aPut_at (by omega), hoV_v.2.1 j (by omega), fgV_v.2.1 j (by omega) (by omega), fgV_v.2.1 j (by omega) (by omega)]
      unfold fg0
      rw [aPut_at (by omega), aPut_at (by omega), likV_c (by decide)]
    have k19 := (k 19 (Or.inl rfl)).trans w19
    have k3 := (k 3 (Or.inr rfl)).trans w3
    obtain ⟨j1, j2, j3⟩ := D_145_v hw hl nV (rW_cg i1 aV_na0) (k19.trans k3.symm) (frC_law hw hl f6 hc) (m := 0) (by decide) h145
    have jV := rV_na (o := o) (L := L) (l := 0) nV (by rw [k3]; exact hd)
    have f7 := frC_t f6 j3
    have l19 : naV o L 0 (na0 (hoV o L (fgV o L 1 (fgV o L 0 (fg0 (likV o L W)))))) 188 19 = V 188 3 := by rw [naV_v.2.1 19 (by decide)]; exact k19
    have l3 : naV o L 0 (na0 (hoV o L (fgV o L 1 (fgV o L 0 (fg0 (likV o L W)))))) 188 3 = V 188 3 := by rw [naV_v.2.1 3 (by decide)]; exact k3
    obtain ⟨m1, m2, m3⟩ := D_145_v hw hl jV j1 (l19.trans l3.symm) (frC_law hw hl f7 hc) (m := 1) (by decide) h145b
    have mV := rV_na (o := o) (L := L) (l := 1) jV (by rw [l3]; exact hd)
    have f8 := frC_t f7 m3
    rw [← hU] at m1 mV
    have u54 : M8 w 11 = U 188 54 := by
      rw [m2, j2, i2, g2, hU, naV_v.2.1 54 (by decide), naV_v.2.1 54 (by decide)]
      unfold na0
      rw [aPut_at (by decide), hoV_v.2.1 54 (by decide)]
    have q11 : M9 w 11 = U 188 54 := by rw [e9, aPut_at (by decide)]; exact u54
    have dy : ∀ b, b ≠ 188 → dyV U b = U b := fun b hb => by
      funext j
      unfold dyV
      exact aPut_cell hb
    have dy8 : ∀ j, dyV U 188 j = if j = 3 then U 188 3 + kI 1 else U 188 j := fun j => by
      unfold dyV
      exact aPut_row
    rw [hv, hN]
    refine ⟨rV_188 mV (fun b h1 h2 => dy b (by omega)) (by rw [dy8]; rfl), ?_, by rw [q11], q11, frC_t f8 (by rw [e9]; exact frC_p ⟨0, by decide, rfl⟩)⟩
    obtain ⟨z1, z2, z3, z4, ⟨t4, t5, t6, t7, t8, t9, t10⟩, z6⟩ := m1
    have c9 : ∀ b, b ≠ w → M9 b = M8 b := fun b hb => by rw [e9]; funext j; exact aPut_cell hb
    have n9 : ∀ j, j ≠ 4 → M9 w j = M8 w j := fun j hj => by rw [e9, aPut_at hj]
    refine ⟨?_, ?_, fun i hi => ?_, fun i j hi hj => ?_, ?_, fun i hi => ?_⟩
    · rw [n9 0 (by decide), dy8]
      exact z1
    · rw [n9 1 (by decide), n9 2 (by decide)]
      exact z2
    · rw [n9 1 (by decide), n9 2 (by decide), c9 (w + 1) (by omega), dy 189 (by decide), dy 190 (by decide), dy 191 (by decide)]
      exact z3 i hi
    · rw [c9 (w + 2) (by omega), c9 (w + 3) (by omega), dy 194 (by decide), dy 195 (by decide)]
      exact z4 i j hi hj
    · rw [n9 5 (by decide), n9 6 (by decide), n9 7 (by decide), n9 8 (by decide), n9 9 (by decide), n9 10 (by decide), dy8, dy8, dy8, dy8, dy8, dy8, dy8, e9, aPut_same, t4]
      exact ⟨rfl, t5, t6, t7, t8, t9, t10⟩
    · rw [c9 (w + 4) (by omega), dy 196 (by decide), dy 197 (by decide), dy 198 (by decide), dy 199 (by decide), dy 200 (by decide)]
      exact z6 i hi
  rcases hD with ⟨g, hD⟩ | ⟨g, _, M2, h140, hD⟩
  · exact tail agV' a1 a2 a3 b19 b3 hD (stV o L p3 p4 p5 V) (by unfold stV; rw [if_neg g])
  · have g := Classical.not_not.mp g
    obtain ⟨d1, d2, d3⟩ := D_140_v (l := l) hw agV' a1 b20 h140
    have q : ∀ j, j = 19 ∨ j = 3 → plV (bgV p3 p4 p5 V) 188 j = bgV p3 p4 p5 V 188 j := fun j hj => by rw [plV_v.2.1, if_neg (by omega), if_neg (by omega)]
    exact tail (rV_pl agV') d1 (d2.trans a2) (frC_t a3 d3) ((q 19 (Or.inl rfl)).trans b19) ((q 3 (Or.inr rfl)).trans b3) hD (stV o L p3 p4 p5 V) (by unfold stV; rw [if_pos g])
