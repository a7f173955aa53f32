/-! all that is told, on both sides: the class's at t, the reference's where V says -/
def rLw (l : Nat) (M V : pMem) (k : Nat) : Prop := ∃ o L, clLaw M l o L ∧ rfLaw (V 204 k) (V 205) (V 206) (V 207) (V 208) (16 * k) (V 209 k) (V 210) (V 211) (500 * k) o L ∧ (rcO o).length ≤ 500 ∧ wfLw o L
def rOt (t : Nat) (M V : pMem) : Prop := (M t 7 = V 188 4 ∧ 0 ≤ (V 188 4).toInt ∧ (V 188 4).toInt < 4) ∧ (M t 8 = V 188 71 ∧ 0 ≤ (V 188 71).toInt ∧ (V 188 71).toInt ≤ 5) ∧
  (∀ i, i < 24 → bo (V 226 i) ∧ M (t + 10) i = (if V 226 i = 0 then kI (-100) else V 227 i) ∧ (¬ V 226 i = 0 → -50 ≤ (V 227 i).toInt ∧ (V 227 i).toInt ≤ 50)) ∧
  ∀ i, i < 24 → M (t + 11) i = V 193 i ∧ 0 ≤ (V 193 i).toInt ∧ (V 193 i).toInt ≤ 99
def rT (t : Nat) (M V : pMem) : Prop := (rV V ∧ rVl V ∧ 0 ≤ (V 188 3).toInt ∧ (V 188 3).toInt ≤ 60) ∧ (rW (t + 1) M V ∧ rLo (t + 1) M V) ∧ (∀ k, k < 480 → M (t + 8) k = V 201 k) ∧ (∀ k, k < 4 → rLw (t + 12 + 11 * k) M V k) ∧ rOt t M V
/-- the class's cells of t in N as those of s in M -/
def cpC (t s : Nat) (M N : pMem) : Prop :=
  (∀ j, j < 12 → N (t + 1) j = M (s + 1) j) ∧ (∀ i, i < 24 → N (t + 2) i = M (s + 2) i ∧ N (t + 3) i = M (s + 3) i) ∧ (∀ i, i < 576 → N (t + 4) i = M (s + 4) i) ∧ (∀ i, i < 18 → N (t + 5) i = M (s + 5) i) ∧
  (∀ k, k < 4 → N (t + 12 + 11 * k) 0 = M (s + 12 + 11 * k) 0 ∧ (∀ i, i < 16 → N (t + 13 + 11 * k) i = M (s + 13 + 11 * k) i ∧ N (t + 14 + 11 * k) i = M (s + 14 + 11 * k) i ∧ N (t + 15 + 11 * k) i = M (s + 15 + 11 * k) i ∧ N (t + 16 + 11 * k) i = M (s + 16 + 11 * k) i) ∧ (∀ i, i < 500 → N (t + 17 + 11 * k) i = M (s + 17 + 11 * k) i)) ∧
  (∀ i, i < 480 → N (t + 8) i = M (s + 8) i) ∧ (∀ i, i < 24 → N (t + 10) i = M (s + 10) i ∧ N (t + 11) i = M (s + 11) i) ∧ N t 7 = M s 7 ∧ N t 8 = M s 8
theorem cpC_T {d s : Nat} {M N : pMem} (h : cpT d s M N) : cpC d s M N := by
  obtain ⟨h1, h2, h3, h4, h5, h6, _, h8, h9, h10, _⟩ := h
  exact ⟨h1, h2, h3, h4, fun k hk => ⟨(h5 k hk).1 0 (by decide), (h5 k hk).2.1, (h5 k hk).2.2.1⟩, h6, h8, h9, h10⟩
/-- where both say the same of all that is told -/
def agT (V U : pMem) : Prop := agV V U ∧ (U 188 4 = V 188 4 ∧ U 188 71 = V 188 71) ∧ (∀ i, i < 24 → U 192 i = V 192 i ∧ U 193 i = V 193 i ∧ U 226 i = V 226 i ∧ U 227 i = V 227 i) ∧ (∀ k, k < 480 → U 201 k = V 201 k) ∧
  (∀ k, k < 4 → U 204 k = V 204 k ∧ U 209 k = V 209 k) ∧ (∀ i, i < 64 → U 205 i = V 205 i ∧ U 206 i = V 206 i ∧ U 207 i = V 207 i ∧ U 208 i = V 208 i) ∧ ∀ i, i < 2000 → U 210 i = V 210 i ∧ U 211 i = V 211 i
theorem rLw_mv {l l' : Nat} {M N V U : pMem} {k : Nat} (hk : k < 4) (h : rLw l M V k) (c0 : N l' 0 = M l 0) (c1 : ∀ i, i < 16 → N (l' + 1) i = M (l + 1) i ∧ N (l' + 2) i = M (l + 2) i ∧ N (l' + 3) i = M (l + 3) i ∧ N (l' + 4) i = M (l + 4) i) (c2 : ∀ i, i < 500 → N (l' + 5) i = M (l + 5) i)
    (a1 : ∀ k, k < 4 → U 204 k = V 204 k ∧ U 209 k = V 209 k) (a2 : ∀ i, i < 64 → U 205 i = V 205 i ∧ U 206 i = V 206 i ∧ U 207 i = V 207 i ∧ U 208 i = V 208 i) (a3 : ∀ i, i < 2000 → U 210 i = V 210 i ∧ U 211 i = V 211 i) : rLw l' N U k := by
  obtain ⟨o, L, ⟨h1, h2, h3, h4, h5⟩, ⟨g1, g2, g3, g4⟩, h7, h8⟩ := h
  refine ⟨o, L, ⟨by rw [c0]; exact h1, h2, h3, fun i x hi => ?_, fun i x hi => ?_⟩, ⟨by rw [(a1 k hk).1]; exact g1, by rw [(a1 k hk).2]; exact g2, fun i x hi => ?_, fun i x hi => ?_⟩, h7, h8⟩
  · have hl := (List.getElem?_eq_some_iff.mp hi).1
    rw [c2 i (by omega)]
    exact h4 i x hi
  · have hl := (List.getElem?_eq_some_iff.mp hi).1
    obtain ⟨d1, d2, d3, d4⟩ := c1 i (by omega)
    rw [d1, d2, d3, d4]
    exact h5 i x hi
  · have hl := (List.getElem?_eq_some_iff.mp hi).1
    rw [(a3 (500 * k + i) (by omega)).1, (a3 (500 * k + i) (by omega)).2]
    exact g3 i x hi
  · have hl := (List.getElem?_eq_some_iff.mp hi).1
    obtain ⟨d1, d2, d3, d4⟩ := a2 (16 * k + i) (by omega)
    rw [d1, d2, d3, d4]
    exact g4 i x hi
theorem rVl_cg {V U : pMem} (h : rVl V) (a : agV V U) (b : ∀ i, i < 24 → U 192 i = V 192 i) : rVl U := by
  obtain ⟨n, ⟨n1, n2, n3⟩, h2⟩ := h
  obtain ⟨⟨_, b2, _⟩, c, _⟩ := a
  exact ⟨n, ⟨n1, by rw [b2]; exact n2, fun i h1 h3 => by rw [(c i h3).2.2]; exact n3 i h1 h3⟩, fun i hi => by rw [b i hi, (c i hi).1]; exact h2 i hi⟩
theorem rW_mv {w w' : Nat} {M N V : pMem} (h : rW w M V) (c1 : ∀ j, j < 12 → N w' j = M w j) (c2 : ∀ i, i < 24 → N (w' + 1) i = M (w + 1) i ∧ N (w' + 2) i = M (w + 2) i) (c3 : ∀ i, i < 576 → N (w' + 3) i = M (w + 3) i) (c4 : ∀ i, i < 18 → N (w' + 4) i = M (w + 4) i) : rW w' N V := by
  obtain ⟨h1, h2, h3, h4, h5, h6⟩ := h
  refine ⟨by rw [c1 0 (by decide)]; exact h1, by rw [c1 1 (by decide), c1 2 (by decide)]; exact h2, fun i hi => by rw [c1 1 (by decide), c1 2 (by decide), (c2 i hi).1]; exact h3 i hi, fun i j hi hj => by rw [(c2 i hi).2, c3 _ (by omega)]; exact h4 i j hi hj,
    by rw [c1 4 (by decide), c1 5 (by decide), c1 6 (by decide), c1 7 (by decide), c1 8 (by decide), c1 9 (by decide), c1 10 (by decide)]; exact h5, fun l hl => by rw [c4 _ (by omega), c4 _ (by omega), c4 _ (by omega), c4 _ (by omega), c4 _ (by omega)]; exact h6 l hl⟩
theorem rLo_mv {w w' : Nat} {M N V U : pMem} (h : rLo w M V) (c : N w' 3 = M w 3) (b : ∀ i, i < 24 → U 192 i = V 192 i) : rLo w' N U := ⟨by rw [c]; exact h.1, fun i hi => by rw [c, b i hi]; exact h.2 i hi⟩
theorem rT_mv {t s : Nat} {M N V U : pMem} (h : rT s M V) (c : cpC t s M N) (a : agT V U) : rT t N U := by
  obtain ⟨⟨h1, h2, h3, h4⟩, ⟨h5, h6⟩, h7, h8, ⟨g1, g1'⟩, ⟨g2, g2'⟩, g3, g4⟩ := h
  obtain ⟨c1, c2, c3, c4, c5, c6, c7, c8, c9⟩ := c
  obtain ⟨a0, ⟨a1, a2⟩, a3, a4, a5, a6, a7⟩ := a
  have d3 : U 188 3 = V 188 3 := a0.1.2.2.1
  refine ⟨⟨rV_cg h1 a0, rVl_cg h2 a0 fun i hi => (a3 i hi).1, by rw [d3]; exact h3, by rw [d3]; exact h4⟩, ⟨rW_cg (rW_mv h5 c1 c2 c3 c4) a0, rLo_mv h6 (c1 3 (by decide)) fun i hi => (a3 i hi).1⟩, fun k hk => by rw [c6 k hk, a4 k hk]; exact h7 k hk, fun k hk => ?_, ⟨by rw [c8, a1]; exact g1, by rw [a1]; exact g1'⟩, ⟨by rw [c9, a2]; exact g2, by rw [a2]; exact g2'⟩, fun i hi => ?_, fun i hi => ?_⟩
  · obtain ⟨e1, e2, e3⟩ := c5 k hk
    refine rLw_mv hk (h8 k hk) e1 (fun i hi => ?_) (fun i hi => ?_) a5 a6 a7
    · obtain ⟨q1, q2, q3, q4⟩ := e2 i hi
      exact ⟨by rw [show t + 12 + 11 * k + 1 = t + 13 + 11 * k by omega, q1, show s + 12 + 11 * k + 1 = s + 13 + 11 * k by omega], by rw [show t + 12 + 11 * k + 2 = t + 14 + 11 * k by omega, q2, show s + 12 + 11 * k + 2 = s + 14 + 11 * k by omega],
        by rw [show t + 12 + 11 * k + 3 = t + 15 + 11 * k by omega, q3, show s + 12 + 11 * k + 3 = s + 15 + 11 * k by omega], by rw [show t + 12 + 11 * k + 4 = t + 16 + 11 * k by omega, q4, show s + 12 + 11 * k + 4 = s + 16 + 11 * k by omega]⟩
    · rw [show t + 12 + 11 * k + 5 = t + 17 + 11 * k by omega, e3 i hi, show s + 12 + 11 * k + 5 = s + 17 + 11 * k by omega]
  · obtain ⟨b1, b2, b3, b4⟩ := a3 i hi
    rw [(c7 i hi).1, b3, b4]
    exact g3 i hi
  · obtain ⟨b1, b2, b3, b4⟩ := a3 i hi
    rw [(c7 i hi).2, b2]
    exact g4 i hi
theorem agT_r {V : pMem} : agT V V := ⟨⟨⟨rfl, rfl, rfl, rfl, rfl, rfl, rfl, rfl⟩, fun _ _ => ⟨rfl, rfl, rfl⟩, fun _ _ => ⟨rfl, rfl⟩, fun _ _ => ⟨rfl, rfl, rfl, rfl, rfl⟩⟩, ⟨rfl, rfl⟩, fun _ _ => ⟨rfl, rfl, rfl, rfl⟩, fun _ _ => rfl, fun _ _ => ⟨rfl, rfl⟩, fun _ _ => ⟨rfl, rfl, rfl, rfl⟩, fun _ _ => ⟨rfl, rfl⟩⟩
/-- out of one saying for each place -/
def plT (a j : Nat) : Prop := (a = 188 ∧ (j = 1 ∨ j = 2 ∨ j = 3 ∨ j = 4 ∨ j = 17 ∨ j = 18 ∨ j = 19 ∨ j = 20 ∨ j = 21 ∨ j = 71)) ∨ ((189 ≤ a ∧ a ≤ 193 ∨ a = 226 ∨ a = 227) ∧ j < 24) ∨ ((a = 194 ∨ a = 195) ∧ j < 576) ∨ (196 ≤ a ∧ a ≤ 200 ∧ j < 2) ∨ (a = 201 ∧ j < 480) ∨ ((a = 204 ∨ a = 209) ∧ j < 4) ∨ (205 ≤ a ∧ a ≤ 208 ∧ j < 64) ∨ ((a = 210 ∨ a = 211) ∧ j < 2000)
theorem agT_of {V U : pMem} (h : ∀ a j, plT a j → U a j = V a j) : agT V U := by
  have e8 : ∀ j, (j = 1 ∨ j = 2 ∨ j = 3 ∨ j = 4 ∨ j = 17 ∨ j = 18 ∨ j = 19 ∨ j = 20 ∨ j = 21 ∨ j = 71) → U 188 j = V 188 j := fun j hj => h 188 j (Or.inl ⟨rfl, hj⟩)
  refine ⟨⟨⟨e8 1 (by omega), e8 2 (by omega), e8 3 (by omega), e8 17 (by omega), e8 18 (by omega), e8 19 (by omega), e8 20 (by omega), e8 21 (by omega)⟩, fun i hi => ⟨?_, ?_, ?_⟩, fun k hk => ⟨?_, ?_⟩, fun l hl => ⟨?_, ?_, ?_, ?_, ?_⟩⟩, ⟨e8 4 (by omega), e8 71 (by omega)⟩, fun i hi => ⟨?_, ?_, ?_, ?_⟩, fun k hk => ?_, fun k hk => ⟨?_, ?_⟩, fun i hi => ⟨?_, ?_, ?_, ?_⟩, fun i hi => ⟨?_, ?_⟩⟩
  all_goals (apply h; unfold plT; omega)
/-! the image -/
def isA (a j : Nat) : Bool := (Nat.beq a 188 && !(Nat.beq j 2 || Nat.beq j 71)) || (Nat.beq a 191 || (Nat.beq a 192 || (Nat.beq a 194 || (Nat.ble 196 a && Nat.ble a 201))))
def iV (M : pMem) : pMem := fun a j => if isA a j = true then M 229 (7000 + asR a j) else M 229 (imR a j)
theorem asP_8 : asP 0 = (188, 1) ∧ asP 1 = (188, 3) ∧ asP 2 = (188, 4) ∧ asP 3 = (188, 17) ∧ asP 4 = (188, 18) ∧ asP 5 = (188, 19) ∧ asP 6 = (188, 20) ∧ asP 7 = (188, 21) := by decide
theorem imP_8 : imP 4460 = (188, 2) ∧ imP 4461 = (188, 71) := by decide +kernel
/-- each place of what is told has its place aside, or in the image -/
theorem pl_as {a j : Nat} (h : plT a j) : (isA a j = true ∧ asR a j < 1122 ∧ asP (asR a j) = (a, j)) ∨ (isA a j = false ∧ imR a j < 5163 ∧ imP (imR a j) = (a, j)) := by
  obtain ⟨p0, p1, p2, p3, p4, p5, p6, p7⟩ := asP_8
  rcases h with ⟨rfl, h⟩ | ⟨h, hj⟩ | ⟨h, hj⟩ | ⟨h1, h2, hj⟩ | ⟨rfl, hj⟩ | ⟨h, hj⟩ | ⟨h1, h2, hj⟩ | ⟨h, hj⟩
  · rcases h with rfl | rfl | rfl | rfl | rfl | rfl | rfl | rfl | rfl | rfl
    · exact Or.inl ⟨rfl, by decide, p0⟩
    · exact Or.inr ⟨rfl, by decide, imP_8.1⟩
    · exact Or.inl ⟨rfl, by decide, p1⟩
    · exact Or.inl ⟨rfl, by decide, p2⟩
    · exact Or.inl ⟨rfl, by decide, p3⟩
    · exact Or.inl ⟨rfl, by decide, p4⟩
    · exact Or.inl ⟨rfl, by decide, p5⟩
    · exact Or.inl ⟨rfl, by decide, p6⟩
    · exact Or.inl ⟨rfl, by decide, p7⟩
    · exact Or.inr ⟨rfl, by decide, imP_8.2⟩
  · obtain ⟨s1, s2⟩ := as_18 j hj
    obtain ⟨i1, i2, i3, i4, i5⟩ := im_4467 j hj
    have e : a = 189 ∨ a = 190 ∨ a = 191 ∨ a = 192 ∨ a = 193 ∨ a = 226 ∨ a = 227 := by omega
    rcases e with rfl | rfl | rfl | rfl | rfl | rfl | rfl
    · exact Or.inr ⟨rfl, by show 4467 + 5 * j < 5163; omega, i1⟩
    · exact Or.inr ⟨rfl, by show 4468 + 5 * j < 5163; omega, by show imP (4468 + 5 * j) = _; rw [show 4468 + 5 * j = 4467 + 5 * j + 1 by omega]; exact i2⟩
    · exact Or.inl ⟨rfl, by show 18 + 2 * j + 0 < 1122; omega, s1⟩
    · exact Or.inl ⟨rfl, by show 18 + 2 * j + 1 < 1122; omega, s2⟩
    · exact Or.inr ⟨rfl, by show 4469 + 5 * j < 5163; omega, by show imP (4469 + 5 * j) = _; rw [show 4469 + 5 * j = 4467 + 5 * j + 1 + 1 by omega]; exact i3⟩
    · exact Or.inr ⟨rfl, by show 4470 + 5 * j < 5163; omega, by show imP (4470 + 5 * j) = _; rw [show 4470 + 5 * j = 4467 + 5 * j + 1 + 1 + 1 by omega]; exact i4⟩
    · exact Or.inr ⟨rfl, by show 4471 + 5 * j < 5163; omega, by show imP (4471 + 5 * j) = _; rw [show 4471 + 5 * j = 4467 + 5 * j + 1 + 1 + 1 + 1 by omega]; exact i5⟩
  · rcases h with rfl | rfl
    · exact Or.inl ⟨rfl, by show j + 66 < 1122; omega, by show asP (j + 66) = _; rw [Nat.add_comm]; exact as_66 hj⟩
    · exact Or.inr ⟨rfl, by show 4587 + j < 5163; omega, im_4587 hj⟩
  · obtain ⟨s1, s2, s3, s4, s5⟩ := as_8 j hj
    have e : a = 196 ∨ a = 197 ∨ a = 198 ∨ a = 199 ∨ a = 200 := by omega
    rcases e with rfl | rfl | rfl | rfl | rfl
    · exact Or.inl ⟨rfl, by show 8 + 5 * j + 0 < 1122; omega, s1⟩
    · exact Or.inl ⟨rfl, by show 8 + 5 * j + 1 < 1122; omega, s2⟩
    · exact Or.inl ⟨rfl, by show 8 + 5 * j + 2 < 1122; omega, s3⟩
    · exact Or.inl ⟨rfl, by show 8 + 5 * j + 3 < 1122; omega, s4⟩
    · exact Or.inl ⟨rfl, by show 8 + 5 * j + 4 < 1122; omega, s5⟩
  · exact Or.inl ⟨rfl, by show j + 642 < 1122; omega, by show asP (j + 642) = _; rw [Nat.add_comm]; exact as_642 hj⟩
  · obtain ⟨i1, i2, i3⟩ := im_0 j hj
    rcases h with rfl | rfl
    · exact Or.inr ⟨rfl, by show 3 * j < 5163; omega, i1⟩
    · exact Or.inr ⟨rfl, by show 3 * j + 1 < 5163; omega, i2⟩
  · obtain ⟨i1, i2, i3, i4⟩ := im_12 j hj
    have e : a = 205 ∨ a = 206 ∨ a = 207 ∨ a = 208 := by omega
    rcases e with rfl | rfl | rfl | rfl
    · exact Or.inr ⟨rfl, by show 12 + 4 * j + 0 < 5163; omega, i1⟩
    · exact Or.inr ⟨rfl, by show 12 + 4 * j + 1 < 5163; omega, i2⟩
    · exact Or.inr ⟨rfl, by show 12 + 4 * j + 2 < 5163; omega, i3⟩
    · exact Or.inr ⟨rfl, by show 12 + 4 * j + 3 < 5163; omega, i4⟩
  · obtain ⟨i1, i2⟩ := im_268 hj
    rcases h with rfl | rfl
    · exact Or.inr ⟨rfl, by show 268 + 2 * j + 0 < 5163; omega, i1⟩
    · exact Or.inr ⟨rfl, by show 268 + 2 * j + 1 < 5163; omega, i2⟩
/-- what was put into the image -/
theorem iV_put {M N : pMem} (h1 : ∀ i, i < 5163 → N 229 i = M (imP i).1 (imP i).2) (h2 : ∀ i, i < 1122 → N 229 (7000 + i) = M (asP i).1 (asP i).2) : agT M (iV N) := agT_of fun a j h => by
  unfold iV
  rcases pl_as h with ⟨e, l, p⟩ | ⟨e, l, p⟩
  · rw [if_pos e, h2 _ l, p]
  · rw [if_neg (by rw [e]; decide), h1 _ l, p]
theorem iV_get {M N : pMem} (h1 : ∀ i, i < 5163 → N (imP i).1 (imP i).2 = M 229 i) (h2 : ∀ i, i < 1122 → N (asP i).1 (asP i).2 = M 229 (7000 + i)) : agT (iV M) N := agT_of fun a j h => by
  unfold iV
  rcases pl_as h with ⟨e, l, p⟩ | ⟨e, l, p⟩
  · rw [if_pos e, ← h2 _ l, p]
  · rw [if_neg (by rw [e]; decide), ← h1 _ l, p]
/-- all of both sides: what is told now, and what was when the image was taken -/
def rI (M : pMem) : Prop := M 0 8 = kI 1 → rT 74 M (iV M)
def rF (M : pMem) : Prop := rA M ∧ rT 18 M M ∧ rI M
theorem cpC_of {t : Nat} {M N : pMem} (h : ∀ a j, t ≤ a → a < t + 56 → (∀ k, k < 4 → a ≠ t + 18 + 11 * k) → N a j = M a j) : cpC t t M N := by
  have q : ∀ a j, t ≤ a → a < t + 56 → (∀ k, k < 4 → a ≠ t + 18 + 11 * k) → N a j = M a j := h
  refine ⟨fun j _ => ?_, fun i _ => ⟨?_, ?_⟩, fun i _ => ?_, fun i _ => ?_, fun k hk => ⟨?_, fun i _ => ⟨?_, ?_, ?_, ?_⟩, fun i _ => ?_⟩, fun i _ => ?_, fun i _ => ⟨?_, ?_⟩, ?_, ?_⟩
  all_goals (refine q _ _ (by omega) (by omega) (fun k' hk' => ?_); omega)
theorem iV_eq {M N : pMem} (h : N 229 = M 229) : iV N = iV M := by
  funext a j
  unfold iV
  rw [h]
theorem rI_keep {M N : pMem} (h : rI M) (h8 : N 0 8 = M 0 8) (h229 : N 229 = M 229) (hc : ∀ a j, 74 ≤ a → a < 130 → (∀ k, k < 4 → a ≠ 92 + 11 * k) → N a j = M a j) : rI N := fun e => by
  rw [iV_eq h229]
  exact rT_mv (h (by rw [← h8]; exact e)) (cpC_of fun a j h1 h2 h3 => hc a j h1 (by omega) (fun k hk => by have := h3 k hk; omega)) agT_r
theorem op_image_F {p1 v u : Int32} {M M1 M2 : pMem} (h : rF M) (h1 : D_28 p1 M v M1) (h2 : D_135 p1 M1 u M2) : rF M2 := by
  obtain ⟨hA, hT, hI⟩ := h
  have hA2 := (op_image hA h1 h2).2
  obtain ⟨_, _, _, ⟨k1, k2⟩, p, r1, r2⟩ := hA
  refine ⟨hA2, ?_⟩
  rcases h1 with ⟨g, h1⟩ | ⟨g, _, Ma, h216, Mb, eb, hv, hM⟩
  · rcases h1 with ⟨g2, hv, hM⟩ | ⟨g2, _, Ma, h216, hv, hM⟩
    · -- no image
      subst hM
      obtain ⟨hu, hN⟩ := D_135_no h2 g (by rw [← k1]; exact g2)
      have o : ∀ a j, ¬ (a = 188 ∧ j = 0) → M2 a j = M1 a j := fun a j q => by
        rw [hN]
        by_cases e : a = 188
        · subst e
          exact aPut_at (fun q2 => q ⟨rfl, q2⟩)
        · exact aPut_cell e
      refine ⟨rT_mv hT (cpC_of fun a j h1 h2 _ => o a j (by omega)) (agT_of fun a j hp => o a j (by unfold plT at hp; omega)), rI_keep hI (o 0 8 (by omega)) (funext fun j => o 229 j (by omega)) fun a j h1 h2 _ => o a j (by omega)⟩
    · -- back to it
      subst hM
      have cp := D_216b_w h216
      have c10 : ∀ a, (a < 18 ∨ 74 ≤ a) → M1 a = M a := fun a ha => cp.2.2.2.2.2.2.2.2.2.2 a (by omega)
      have tk : M 0 8 = kI 1 := k2.resolve_left g2
      obtain ⟨hu, d77, d1, d2, d3, d4⟩ := D_135_get h2 g (by rw [c10 188 (by omega), ← k1, tk]; decide) (fun b hb => by rw [c10 226 (by omega), c10 229 (by omega)]; exact r2 b hb)
      have o3 : ∀ a j, a < 188 → M2 a j = M1 a j := fun a j ha => d4 a j ⟨by omega, by omega, by omega⟩ (im_no (Or.inl (Or.inr (Or.inr ha)))).1 (im_no (Or.inl (Or.inr (Or.inr ha)))).2
      have e229 : M2 229 = M 229 := funext fun j => by rw [d3, c10 229 (by omega)]
      have hI2 : rI M2 := rI_keep hI (by rw [o3 0 8 (by omega), c10 0 (by omega)]) e229 fun a j h1 h2 _ => by rw [o3 a j (by omega), c10 a (by omega)]
      refine ⟨?_, hI2⟩
      have iT := hI tk
      have e1 : iV M1 = iV M := iV_eq (by rw [c10 229 (by omega)])
      have ag := iV_get (M := M1) d1 d2
      rw [e1] at ag
      have cc : cpC 18 74 M M2 := by
        obtain ⟨x1, x2, x3, x4, x5, x6, x7, x8, x9⟩ := cpC_T cp
        have o3' : ∀ a, a < 188 → M2 a = M1 a := fun a ha => funext fun j => o3 a j ha
        refine ⟨fun j hj => ?_, fun i hi => ?_, fun i hi => ?_, fun i hi => ?_, fun k hk => ?_, fun i hi => ?_, fun i hi => ?_, ?_, ?_⟩
        · rw [o3' _ (by omega)]; exact x1 j hj
        · rw [o3' _ (by omega), o3' _ (by omega)]; exact x2 i hi
        · rw [o3' _ (by omega)]; exact x3 i hi
        · rw [o3' _ (by omega)]; exact x4 i hi
        · rw [o3' _ (by omega), o3' _ (by omega), o3' _ (by omega), o3' _ (by omega), o3' _ (by omega), o3' _ (by omega)]; exact x5 k hk
        · rw [o3' _ (by omega)]; exact x6 i hi
        · rw [o3' _ (by omega), o3' _ (by omega)]; exact x7 i hi
        · rw [o3' _ (by omega)]; exact x8
        · rw [o3' _ (by omega)]; exact x9
      exact rT_mv iT cc ag
  · -- it is taken
    have cp := D_216t_w h216
    have c10 : ∀ a, (a < 74 ∨ 130 ≤ a) → Ma a = M a := fun a ha => cp.2.2.2.2.2.2.2.2.2.2 a (by omega)
    have m1 : ∀ a j, ¬ (a = 0 ∧ j = 8) → M1 a j = Ma a j := fun a j q => by
      rw [hM, eb]
      by_cases e : a = 0
      · subst e
        exact aPut_at (fun q2 => q ⟨rfl, q2⟩)
      · exact aPut_cell e
    obtain ⟨hu, d77, d1, d2, d4⟩ := D_135_put h2 g (fun b hb => by rw [m1 226 b (by omega), c10 226 (by omega)]; exact (r2 b hb).1)
    have o3 : ∀ a j, a < 188 → M2 a j = M1 a j := fun a j ha => d4 a j ⟨by omega, by omega, by omega⟩
    -- what is told now stands
    have pT : ∀ a j, plT a j → M2 a j = M1 a j := fun a j hp => d4 a j ⟨by unfold plT at hp; omega, by unfold plT at hp; omega, by unfold plT at hp; omega⟩
    have n18 : ∀ a j, 18 ≤ a → a < 74 → M2 a j = M a j := fun a j h1 h2 => by rw [o3 a j (by omega), m1 a j (by omega), c10 a (by omega)]
    have nV : ∀ a j, plT a j → M2 a j = M a j := fun a j hp => by
      have : 188 ≤ a := by unfold plT at hp; omega
      rw [pT a j hp, m1 a j (by omega), c10 a (by omega)]
    refine ⟨rT_mv hT (cpC_of fun a j h1 h2 _ => n18 a j h1 (by omega)) (agT_of nV), fun _ => ?_⟩
    have ag := iV_put (M := M1) d1 d2
    have am : agT M M1 := agT_of fun a j hp => by
      have : 188 ≤ a := by unfold plT at hp; omega
      rw [m1 a j (by omega), c10 a (by omega)]
    have hT1 : rT 18 M M1 := rT_mv hT (cpC_of fun a j _ _ _ => rfl) am
    have cc : cpC 74 18 M M2 := by
      obtain ⟨x1, x2, x3, x4, x5, x6, x7, x8, x9⟩ := cpC_T cp
      have o3' : ∀ a, a < 188 → 0 < a → M2 a = Ma a := fun a ha h0 => funext fun j => by rw [o3 a j ha, m1 a j (by omega)]
      refine ⟨fun j hj => ?_, fun i hi => ?_, fun i hi => ?_, fun i hi => ?_, fun k hk => ?_, fun i hi => ?_, fun i hi => ?_, ?_, ?_⟩
      · rw [o3' _ (by omega) (by omega)]; exact x1 j hj
      · rw [o3' _ (by omega) (by omega), o3' _ (by omega) (by omega)]; exact x2 i hi
      · rw [o3' _ (by omega) (by omega)]; exact x3 i hi
      · rw [o3' _ (by omega) (by omega)]; exact x4 i hi
      · rw [o3' _ (by omega) (by omega), o3' _ (by omega) (by omega), o3' _ (by omega) (by omega), o3' _ (by omega) (by omega), o3' _ (by omega) (by omega), o3' _ (by omega) (by omega)]; exact x5 k hk
      · rw [o3' _ (by omega) (by omega)]; exact x6 i hi
      · rw [o3' _ (by omega) (by omega), o3' _ (by omega) (by omega)]; exact x7 i hi
      · rw [o3' _ (by omega) (by omega)]; exact x8
      · rw [o3' _ (by omega) (by omega)]; exact x9
    exact rT_mv hT1 cc ag
