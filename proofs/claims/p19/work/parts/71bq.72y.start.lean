/-! nothing told yet, on both sides -/
theorem rT_start {M : pMem} (f0 : ∀ j, j < 9 → M 19 j = 0) (f9 : M 19 9 = kI (-1) ∧ M 19 10 = kI (-1)) (a24 : ∀ i, i < 24 → M 20 i = 0 ∧ M 21 i = 0 ∧ M 29 i = 0 ∧ M 28 i = kI (-100)) (a576 : ∀ i, i < 576 → M 22 i = 0) (a18 : ∀ i, i < 18 → M 23 i = 0) (a480 : ∀ i, i < 480 → M 26 i = 0)
    (l4 : ∀ k, k < 4 → M (30 + 11 * k) 0 = 0) (t7 : M 18 7 = 0 ∧ M 18 8 = 0) (v8 : ∀ j, (j = 1 ∨ j = 2 ∨ j = 3 ∨ j = 4 ∨ j = 17 ∨ j = 18 ∨ j = 19 ∨ j = 71) → M 188 j = 0) (v20 : M 188 20 = kI (-1) ∧ M 188 21 = kI (-1))
    (r24 : ∀ i, i < 24 → M 189 i = 0 ∧ M 190 i = 0 ∧ M 191 i = 0 ∧ M 192 i = 0 ∧ M 193 i = 0 ∧ M 226 i = 0) (r576 : ∀ i, i < 576 → M 194 i = 0 ∧ M 195 i = 0) (r2 : ∀ i, i < 2 → M 196 i = 0 ∧ M 197 i = 0 ∧ M 198 i = 0 ∧ M 199 i = 0 ∧ M 200 i = 0) (r480 : ∀ i, i < 480 → M 201 i = 0) (r4 : ∀ i, i < 4 → M 204 i = 0 ∧ M 209 i = 0) : rT 18 M M := by
  have b0 : ∀ i, bt (0 : Int32) i = false := fun i => bt_0
  have n1 : decide ((0 : Int32) = kI 1) = false := by decide
  have nb0 : ∀ {x : Int32}, x = 0 → nb x := fun e i _ => by rw [e]; exact b0 i
  have rn : rNb M 0 := ⟨by decide, by rw [v8 2 (by omega)]; rfl, fun i _ hi => (r24 i hi).2.2.1⟩
  refine ⟨⟨⟨⟨0, rn⟩, fun i hi => ⟨Or.inl (r24 i hi).1, Or.inl (r24 i hi).2.2.1⟩, fun k hk => Or.inl (r576 k hk).2, fun l hl => by rw [(r2 l hl).1]; decide⟩, ⟨0, rn, fun i hi => ⟨Or.inl (r24 i hi).2.2.2.1, fun _ => ⟨(r24 i hi).2.2.2.1, (r24 i hi).1⟩⟩⟩, by rw [v8 3 (by omega)]; decide, by rw [v8 3 (by omega)]; decide⟩,
    ⟨?_, nb0 (f0 3 (by decide)), fun i hi => ?_⟩, fun k hk => ?_, fun k hk => ?_, ?_⟩
  · show rW 19 M M
    refine ⟨by rw [f0 0 (by decide), v8 2 (by omega)], ⟨nb0 (f0 1 (by decide)), nb0 (f0 2 (by decide))⟩, fun i hi => ⟨?_, ?_, ?_⟩, fun i j hi hj => ⟨?_, ?_⟩, ?_, fun l hl => ⟨?_, ?_, ?_, ?_, ?_⟩⟩
    · rw [f0 1 (by decide), b0, (r24 i hi).1, n1]
    · rw [f0 2 (by decide), b0, (r24 i hi).2.2.1, n1]
    · show M 20 i = M 190 i
      rw [(a24 i hi).1, (r24 i hi).2.1]
    · show bt (M 21 i) j = _
      rw [(a24 i hi).2.1, b0, (r576 _ (by omega)).2, n1]
    · show M 22 (24 * i + j) = _
      rw [a576 _ (by omega), (r576 _ (by omega)).1]
    · rw [f0 4 (by decide), f0 5 (by decide), f0 6 (by decide), f0 7 (by decide), f0 8 (by decide), f9.1, f9.2, v8 3 (by omega), v8 1 (by omega), v8 17 (by omega), v8 18 (by omega), v8 19 (by omega), v20.1, v20.2]
      exact ⟨rfl, rfl, rfl, rfl, rfl, rfl, rfl⟩
    · show M 23 (6 + l) = _
      rw [a18 _ (by omega), (r2 l hl).1]
    · show M 23 (8 + l) = _
      rw [a18 _ (by omega), (r2 l hl).2.1]
    · show M 23 (10 + l) = _
      rw [a18 _ (by omega), (r2 l hl).2.2.1]
    · show M 23 (12 + l) = _
      rw [a18 _ (by omega), (r2 l hl).2.2.2.1]
    · show M 23 (16 + l) = _
      rw [a18 _ (by omega), (r2 l hl).2.2.2.2]
  · show bt (M 19 3) i = _
    rw [f0 3 (by decide), b0, (r24 i hi).2.2.2.1, n1]
  · show M 26 k = M 201 k
    rw [a480 k hk, r480 k hk]
  · refine ⟨[], [], ⟨?_, by decide, by decide, fun i x hi => (by cases hi), fun i x hi => (by cases hi)⟩, ⟨?_, ?_, fun i x hi => (by cases hi), fun i x hi => (by cases hi)⟩, by decide, ?_⟩
    · show (M (30 + 11 * k) 0).toInt = _
      rw [l4 k hk]; rfl
    · rw [(r4 k hk).1]; rfl
    · rw [(r4 k hk).2]; rfl
    · intro x hx
      cases hx
  · refine ⟨⟨by rw [t7.1, v8 4 (by omega)], by rw [v8 4 (by omega)]; decide, by rw [v8 4 (by omega)]; decide⟩, ⟨by rw [t7.2, v8 71 (by omega)], by rw [v8 71 (by omega)]; decide, by rw [v8 71 (by omega)]; decide⟩, fun i hi => ⟨Or.inl (r24 i hi).2.2.2.2.2, ?_, fun q => absurd (r24 i hi).2.2.2.2.2 q⟩, fun i hi => ⟨?_, by rw [(r24 i hi).2.2.2.2.1]; decide, by rw [(r24 i hi).2.2.2.2.1]; decide⟩⟩
    · show M 28 i = _
      rw [if_pos (r24 i hi).2.2.2.2.2]
      exact (a24 i hi).2.2.2
    · show M 29 i = M 193 i
      rw [(a24 i hi).2.2.1, (r24 i hi).2.2.2.2.1]
