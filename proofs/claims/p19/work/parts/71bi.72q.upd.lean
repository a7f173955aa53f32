/-! the calls that tell one thing: over what is told, part by part -/
theorem apR {M : pMem} {a b j : Nat} {x : Int32} (h : b ≠ a) : aPut M a j x b = M b := funext fun _ => aPut_cell h
theorem rT_w {M V N U : pMem} (h : rT 18 M V) (hV : rV U ∧ rVl U ∧ 0 ≤ (U 188 3).toInt ∧ (U 188 3).toInt ≤ 60) (hW : rW 19 N U ∧ rLo 19 N U) (c26 : N 26 = M 26) (v201 : U 201 = V 201) (cl : ∀ b, 30 ≤ b → b ≤ 68 → N b = M b) (vl : ∀ b, 204 ≤ b → b ≤ 211 → U b = V b) (ho : rOt 18 N U) : rT 18 N U := by
  obtain ⟨_, _, h7, h8, _⟩ := h
  have h7 : ∀ k, k < 480 → M 26 k = V 201 k := h7
  refine ⟨hV, hW, ?_, fun k hk => ?_, ho⟩
  · show ∀ k, k < 480 → N 26 k = U 201 k
    rw [c26, v201]
    exact h7
  · obtain ⟨o, L, c, r, x⟩ := h8 k hk
    refine ⟨o, L, clLaw_eq c fun b h1 h2 => cl b (by omega) (by omega), ?_, x⟩
    rw [vl 204 (by decide) (by decide), vl 205 (by decide) (by decide), vl 206 (by decide) (by decide), vl 207 (by decide) (by decide), vl 208 (by decide) (by decide), vl 209 (by decide) (by decide), vl 210 (by decide) (by decide), vl 211 (by decide) (by decide)]
    exact r
theorem rOt_c {M V N U : pMem} (h : rOt 18 M V) (e7 : N 18 7 = M 18 7) (e8 : N 18 8 = M 18 8) (e28 : N 28 = M 28) (e29 : N 29 = M 29) (v4 : U 188 4 = V 188 4) (v71 : U 188 71 = V 188 71) (v226 : U 226 = V 226) (v227 : U 227 = V 227) (v193 : U 193 = V 193) : rOt 18 N U := by
  have e10 : N (18 + 10) = M (18 + 10) := e28
  have e11 : N (18 + 11) = M (18 + 11) := e29
  unfold rOt at h ⊢
  rw [e7, e8, e10, e11, v4, v71, v226, v227, v193]
  exact h
theorem rV_c {V U : pMem} (h : rV V) (e2 : U 188 2 = V 188 2) (e189 : U 189 = V 189) (e191 : U 191 = V 191) (e195 : U 195 = V 195) (e196 : U 196 = V 196) : rV U := by
  unfold rV rNb at h ⊢
  rw [e2, e189, e191, e195, e196]
  exact h
theorem rVl_c {V U : pMem} (h : rVl V) (e2 : U 188 2 = V 188 2) (e189 : U 189 = V 189) (e191 : U 191 = V 191) (e192 : U 192 = V 192) : rVl U := by
  unfold rVl rNb at h ⊢
  rw [e2, e189, e191, e192]
  exact h
theorem rLo_c {w : Nat} {M V N U : pMem} (h : rLo w M V) (e3 : N w 3 = M w 3) (e192 : U 192 = V 192) : rLo w N U := by
  unfold rLo at h ⊢
  rw [e3, e192]
  exact h
/-- like -/
theorem rT_like {M V : pMem} (h : rT 18 M V) {i j : Nat} (hi : i < 24) (hj : j < 24) {x : Int32} : rT 18 (aPut M 22 (24 * i + j) x) (aPut V 194 (24 * i + j) x) := by
  obtain ⟨⟨h1, h2, h3⟩, ⟨h5, h6⟩, _, _, h9⟩ := id h
  have h5 : rW 19 M V := h5
  have h6 : rLo 19 M V := h6
  refine rT_w h ⟨rV_c h1 (aPut_cell (by decide)) (apR (by decide)) (apR (by decide)) (apR (by decide)) (apR (by decide)), rVl_c h2 (aPut_cell (by decide)) (apR (by decide)) (apR (by decide)) (apR (by decide)), by rw [aPut_cell (by decide)]; exact h3⟩
    ⟨?_, rLo_c h6 (aPut_cell (by decide)) (apR (by decide))⟩ (apR (by decide)) (apR (by decide)) (fun b _ _ => apR (by omega)) (fun b _ _ => apR (by omega)) (rOt_c h9 (aPut_cell (by decide)) (aPut_cell (by decide)) (apR (by decide)) (apR (by decide)) (aPut_cell (by decide)) (aPut_cell (by decide)) (apR (by decide)) (apR (by decide)) (apR (by decide)))
  obtain ⟨w1, w2, w3, w4, w5, w6⟩ := h5
  refine ⟨by rw [aPut_cell (by decide), aPut_cell (by decide)]; exact w1, by rw [aPut_cell (by decide), aPut_cell (by decide)]; exact w2, fun i hi => ?_, fun i' j' hi' hj' => ?_, ?_, fun l hl => ?_⟩
  · rw [aPut_cell (by decide), aPut_cell (by decide), aPut_cell (by decide), aPut_cell (by decide), aPut_cell (by decide), aPut_cell (by decide)]
    exact w3 i hi
  · obtain ⟨q1, q2⟩ := w4 i' j' hi' hj'
    have q2 : M 22 (24 * i' + j') = V 194 (24 * i' + j') := q2
    refine ⟨by rw [aPut_cell (by decide), aPut_cell (by decide)]; exact q1, ?_⟩
    show aPut M 22 (24 * i + j) x 22 (24 * i' + j') = aPut V 194 (24 * i + j) x 194 (24 * i' + j')
    rw [aPut_row, aPut_row, q2]
  · rw [aPut_cell (by decide), aPut_cell (by decide), aPut_cell (by decide), aPut_cell (by decide), aPut_cell (by decide), aPut_cell (by decide), aPut_cell (by decide), aPut_cell (by decide), aPut_cell (by decide), aPut_cell (by decide), aPut_cell (by decide), aPut_cell (by decide), aPut_cell (by decide), aPut_cell (by decide)]
    exact w5
  · rw [apR (by decide), apR (by decide), apR (by decide), apR (by decide), apR (by decide), apR (by decide)]
    exact w6 l hl
/-- state -/
theorem rT_state {M V : pMem} (h : rT 18 M V) {x : Int32} : rT 18 (aPut M 19 5 x) (aPut V 188 1 x) := by
  obtain ⟨⟨h1, h2, h3⟩, ⟨h5, h6⟩, _, _, h9⟩ := id h
  have h5 : rW 19 M V := h5
  have h6 : rLo 19 M V := h6
  refine rT_w h ⟨rV_c h1 (aPut_at (by decide)) (apR (by decide)) (apR (by decide)) (apR (by decide)) (apR (by decide)), rVl_c h2 (aPut_at (by decide)) (apR (by decide)) (apR (by decide)) (apR (by decide)), by rw [aPut_at (by decide)]; exact h3⟩
    ⟨?_, rLo_c h6 (aPut_at (by decide)) (apR (by decide))⟩ (apR (by decide)) (apR (by decide)) (fun b _ _ => apR (by omega)) (fun b _ _ => apR (by omega)) (rOt_c h9 (aPut_cell (by decide)) (aPut_cell (by decide)) (apR (by decide)) (apR (by decide)) (aPut_at (by decide)) (aPut_at (by decide)) (apR (by decide)) (apR (by decide)) (apR (by decide)))
  obtain ⟨w1, w2, w3, w4, ⟨x1, x2, x3⟩, w6⟩ := h5
  have c : ∀ j, j ≠ 5 → aPut M 19 5 x 19 j = M 19 j := fun j hj => aPut_at hj
  have d : ∀ j, j ≠ 1 → aPut V 188 1 x 188 j = V 188 j := fun j hj => aPut_at hj
  refine ⟨by rw [c 0 (by decide), d 2 (by decide)]; exact w1, by rw [c 1 (by decide), c 2 (by decide)]; exact w2, fun i hi => ?_, fun i j hi hj => ?_, ⟨by rw [c 4 (by decide), d 3 (by decide)]; exact x1, by rw [aPut_same, aPut_same], by rw [c 6 (by decide), c 7 (by decide), c 8 (by decide), c 9 (by decide), c 10 (by decide), d 17 (by decide), d 18 (by decide), d 19 (by decide), d 20 (by decide), d 21 (by decide)]; exact x3⟩, fun l hl => ?_⟩
  · rw [c 1 (by decide), c 2 (by decide), apR (by decide), apR (by decide), apR (by decide), apR (by decide)]
    exact w3 i hi
  · rw [apR (by decide), apR (by decide), apR (by decide), apR (by decide)]
    exact w4 i j hi hj
  · rw [apR (by decide), apR (by decide), apR (by decide), apR (by decide), apR (by decide), apR (by decide)]
    exact w6 l hl
/-- what leaves the wood as it is -/
theorem rT_o {M V N U : pMem} (h : rT 18 M V) (hc : ∀ b, (b = 19 ∨ b = 20 ∨ b = 21 ∨ b = 22 ∨ b = 23 ∨ b = 26 ∨ 30 ≤ b) → N b = M b) (hv : ∀ b, b ≠ 188 → b ≠ 193 → b ≠ 226 → b ≠ 227 → U b = V b) (h8 : ∀ j, j ≠ 4 → j ≠ 71 → U 188 j = V 188 j) (ho : rOt 18 N U) : rT 18 N U := by
  obtain ⟨⟨h1, h2, h3⟩, ⟨h5, h6⟩, _, _, _⟩ := id h
  have h5 : rW 19 M V := h5
  have h6 : rLo 19 M V := h6
  have v : ∀ b, b ≠ 188 → b ≠ 193 → b < 226 → U b = V b := fun b q1 q2 q3 => hv b q1 q2 (by omega) (by omega)
  refine rT_w h ⟨rV_c h1 (h8 2 (by decide) (by decide)) (v 189 (by decide) (by decide) (by decide)) (v 191 (by decide) (by decide) (by decide)) (v 195 (by decide) (by decide) (by decide)) (v 196 (by decide) (by decide) (by decide)), rVl_c h2 (h8 2 (by decide) (by decide)) (v 189 (by decide) (by decide) (by decide)) (v 191 (by decide) (by decide) (by decide)) (v 192 (by decide) (by decide) (by decide)), by rw [h8 3 (by decide) (by decide)]; exact h3⟩
    ⟨rW_cg (rW_eq h5 fun j hj => hc _ (by omega)) ?_, rLo_c h6 (by rw [hc 19 (by omega)]) (v 192 (by decide) (by decide) (by decide))⟩ (hc 26 (by omega)) (v 201 (by decide) (by decide) (by decide)) (fun b _ _ => hc b (by omega)) (fun b _ _ => v b (by omega) (by omega) (by omega)) ho
  have d : ∀ j, j ≠ 4 → j ≠ 71 → U 188 j = V 188 j := h8
  refine ⟨⟨d 1 (by decide) (by decide), d 2 (by decide) (by decide), d 3 (by decide) (by decide), d 17 (by decide) (by decide), d 18 (by decide) (by decide), d 19 (by decide) (by decide), d 20 (by decide) (by decide), d 21 (by decide) (by decide)⟩, fun i _ => ?_, fun k _ => ?_, fun l _ => ?_⟩
  · rw [v 189 (by decide) (by decide) (by decide), v 190 (by decide) (by decide) (by decide), v 191 (by decide) (by decide) (by decide)]; exact ⟨rfl, rfl, rfl⟩
  · rw [v 194 (by decide) (by decide) (by decide), v 195 (by decide) (by decide) (by decide)]; exact ⟨rfl, rfl⟩
  · rw [v 196 (by decide) (by decide) (by decide), v 197 (by decide) (by decide) (by decide), v 198 (by decide) (by decide) (by decide), v 199 (by decide) (by decide) (by decide), v 200 (by decide) (by decide) (by decide)]; exact ⟨rfl, rfl, rfl, rfl, rfl⟩
/-- a boy's number -/
theorem rT_number {M V : pMem} (h : rT 18 M V) {i : Nat} {x : Int32} (hx : 0 ≤ x.toInt ∧ x.toInt ≤ 99) : rT 18 (aPut M 29 i x) (aPut V 193 i x) := by
  refine rT_o h (fun b hb => apR (by omega)) (fun b _ q _ _ => apR q) (fun j _ _ => aPut_cell (by decide)) ?_
  obtain ⟨g1, g2, g3, g4⟩ := h.2.2.2.2
  refine ⟨by rw [aPut_cell (by decide), aPut_cell (by decide)]; exact g1, by rw [aPut_cell (by decide), aPut_cell (by decide)]; exact g2, fun k hk => ?_, fun k hk => ?_⟩
  · rw [aPut_cell (by decide), aPut_cell (by decide), aPut_cell (by decide)]
    exact g3 k hk
  · have q : M 29 k = V 193 k ∧ 0 ≤ (V 193 k).toInt ∧ (V 193 k).toInt ≤ 99 := g4 k hk
    show aPut M 29 i x 29 k = aPut V 193 i x 193 k ∧ 0 ≤ (aPut V 193 i x 193 k).toInt ∧ (aPut V 193 i x 193 k).toInt ≤ 99
    rw [aPut_row, aPut_row]
    by_cases e : k = i
    · rw [if_pos e, if_pos e]; exact ⟨rfl, hx⟩
    · rw [if_neg e, if_neg e]; exact q
/-- told of two camps: y or none -/
theorem rT_told {M V : pMem} (h : rT 18 M V) {i : Nat} {b x : Int32} (hb : (b = 0 ∧ x = kI (-100)) ∨ (b = kI 1 ∧ -50 ≤ x.toInt ∧ x.toInt ≤ 50)) : rT 18 (aPut M 28 i x) (aPut (aPut V 226 i b) 227 i x) := by
  refine rT_o h (fun b hb => apR (by omega)) (fun b _ _ q1 q2 => by rw [apR q2, apR q1]) (fun j _ _ => by rw [aPut_cell (by decide), aPut_cell (by decide)]) ?_
  obtain ⟨g1, g2, g3, g4⟩ := h.2.2.2.2
  refine ⟨by rw [aPut_cell (by decide), aPut_cell (by decide), aPut_cell (by decide)]; exact g1, by rw [aPut_cell (by decide), aPut_cell (by decide), aPut_cell (by decide)]; exact g2, fun k hk => ?_, fun k hk => ?_⟩
  · have q : bo (V 226 k) ∧ M 28 k = (if V 226 k = 0 then kI (-100) else V 227 k) ∧ (¬ V 226 k = 0 → -50 ≤ (V 227 k).toInt ∧ (V 227 k).toInt ≤ 50) := g3 k hk
    have e226 : aPut (aPut V 226 i b) 227 i x 226 k = if k = i then b else V 226 k := by rw [aPut_cell (by decide), aPut_row]
    have e227 : aPut (aPut V 226 i b) 227 i x 227 k = if k = i then x else V 227 k := by rw [aPut_row, aPut_cell (by decide)]
    show bo (aPut (aPut V 226 i b) 227 i x 226 k) ∧ aPut M 28 i x 28 k = (if aPut (aPut V 226 i b) 227 i x 226 k = 0 then kI (-100) else aPut (aPut V 226 i b) 227 i x 227 k) ∧ (¬ aPut (aPut V 226 i b) 227 i x 226 k = 0 → -50 ≤ (aPut (aPut V 226 i b) 227 i x 227 k).toInt ∧ (aPut (aPut V 226 i b) 227 i x 227 k).toInt ≤ 50)
    rw [e226, e227, aPut_row]
    by_cases e : k = i
    · rw [if_pos e, if_pos e, if_pos e]
      rcases hb with ⟨b0, b1⟩ | ⟨b0, b1⟩
      · exact ⟨Or.inl b0, by rw [if_pos b0]; exact b1, fun q => absurd b0 q⟩
      · exact ⟨Or.inr b0, by rw [if_neg (by rw [b0]; decide)], fun _ => b1⟩
    · rw [if_neg e, if_neg e, if_neg e]
      exact q
  · rw [aPut_cell (by decide), aPut_cell (by decide), aPut_cell (by decide)]
    exact g4 k hk
theorem rT_force {M V : pMem} (h : rT 18 M V) {x : Int32} (hx : 0 ≤ x.toInt ∧ x.toInt < 4) : rT 18 (aPut M 18 7 x) (aPut V 188 4 x) := by
  refine rT_o h (fun b hb => apR (by omega)) (fun b q _ _ _ => apR q) (fun j q _ => aPut_at q) ?_
  obtain ⟨g1, g2, g3, g4⟩ := h.2.2.2.2
  refine ⟨by rw [aPut_same, aPut_same]; exact ⟨rfl, hx⟩, by rw [aPut_at (by decide), aPut_at (by decide)]; exact g2, fun k hk => ?_, fun k hk => ?_⟩
  · rw [apR (by decide), apR (by decide), apR (by decide)]
    exact g3 k hk
  · rw [apR (by decide), apR (by decide)]
    exact g4 k hk
theorem rT_row {M V : pMem} (h : rT 18 M V) {x : Int32} (hx : 0 ≤ x.toInt ∧ x.toInt ≤ 5) : rT 18 (aPut M 18 8 x) (aPut V 188 71 x) := by
  refine rT_o h (fun b hb => apR (by omega)) (fun b q _ _ _ => apR q) (fun j _ q => aPut_at q) ?_
  obtain ⟨g1, g2, g3, g4⟩ := h.2.2.2.2
  refine ⟨by rw [aPut_at (by decide), aPut_at (by decide)]; exact g1, by rw [aPut_same, aPut_same]; exact ⟨rfl, hx⟩, fun k hk => ?_, fun k hk => ?_⟩
  · rw [apR (by decide), apR (by decide), apR (by decide)]
    exact g3 k hk
  · rw [apR (by decide), apR (by decide)]
    exact g4 k hk
