/-! what reading a text says, as a contract -/
theorem gh_81_0_ok {X : aX} : zCk X (gP []) gG 81 gh_81_0 := by
  intro d ρ as h hd hb hargs hents hK hI hG
  obtain ⟨u0, q0, rfl, g0, hargs⟩ := zGl_cons hargs
  obtain ⟨u1, q1, rfl, g1, hargs⟩ := zGl_cons hargs
  obtain ⟨u2, q2, rfl, g2, hargs⟩ := zGl_cons hargs
  obtain rfl := zGl_nil hargs
  obtain rfl := gRefx g0 (Or.inl (by decide))
  obtain ⟨rfl, hx1⟩ := gIntx g1
  obtain ⟨rfl, hx2⟩ := gIntx g2
  obtain ⟨dd, rfl⟩ : ∃ dd, d = dd + 1 + 1 + 1 + 1 + 1 + 1 + 1 + 1 + 1 + 1 + 1 + 1 + 1 := ⟨d - 13, by have hd : 30 ≤ d := hd; omega⟩
  have b0 : -2147483648 ≤ ρ 0 ∧ ρ 0 ≤ 2147483647 := hb 0 _ rfl
  have b1 : -2147483648 ≤ ρ 1 ∧ ρ 1 ≤ 2147483647 := hb 1 _ rfl
  have b24 : (0 : Int) ≤ (h.2.2.2 188 24).toInt ∧ (h.2.2.2 188 24).toInt ≤ 500 := gBf hG hI (by decide) (by decide) (by decide +kernel) (by decide +kernel)
  have b41 : (0 : Int) ≤ (h.2.2.2 188 41).toInt ∧ (h.2.2.2 188 41).toInt ≤ 40 := gBf hG hI (by decide) (by decide) (by decide +kernel) (by decide +kernel)
  have base := h81 (X := X) (d := dd) (gKs_of hG.1) (M := h.2.2.2) b0 b1 b24 b41 hG.2.1 hG.2.2.1 hG.2.2.2.1
  rw [← gH_of hG.1] at base
  refine base.mono (fun rv h' hq => ?_)
  obtain ⟨e, M', rfl, rfl, l1, l2, m1, m2, m3, m4, m5, m6, m7, m8⟩ := hq
  have hR : gRm M' := ⟨fun j hj => by rw [m1 203 (by decide) (by decide)]; exact hG.2.1 j hj, m7, m8, by
    rw [m1 229 (by decide) (by decide)]; exact hG.2.2.2.2⟩
  obtain ⟨r1, r2, r3, r4, r5, r6, r7, r8, r9, r10, r11, r12⟩ := m4
  obtain ⟨d1, d2, d3⟩ := gDone (md := gh_81_0.2.2.2.2.2.2) hG hI hR (fun a i => by
    have ar : ∀ b, a = b → b < 230 → (gK b).1 = 100 → zBit gh_81_0.2.2.2.2.2.2 (b * 128 + 127) = true → gF (b * 128 + 127) = (-2147483648, 2147483647) → ∃ p, (((h.2.2.1 a).1 < 100 ∧ p = a * 128 + i) ∨ (100 ≤ (h.2.2.1 a).1 ∧ p = a * 128 + 127)) ∧ zBit gh_81_0.2.2.2.2.2.2 p = true ∧ (gF p).1 ≤ (M' a i).toInt ∧ (M' a i).toInt ≤ (gF p).2 := fun b e b1 b2 b3 b4 => by
      subst e
      exact ⟨a * 128 + 127, Or.inr ⟨gAr hG b1 (Or.inl b2), rfl⟩, b3, by rw [b4]; exact iG _⟩
    by_cases q : a = 188
    · subst q
      have fl : ∀ (b : Nat) (lo hi : Int), i = b → zBit gh_81_0.2.2.2.2.2.2 (188 * 128 + b) = true → gF (188 * 128 + b) = (lo, hi) → lo ≤ (M' 188 b).toInt ∧ (M' 188 b).toInt ≤ hi → ∃ p, (((h.2.2.1 188).1 < 100 ∧ p = 188 * 128 + i) ∨ (100 ≤ (h.2.2.1 188).1 ∧ p = 188 * 128 + 127)) ∧ zBit gh_81_0.2.2.2.2.2.2 p = true ∧ (gF p).1 ≤ (M' 188 i).toInt ∧ (M' 188 i).toInt ≤ (gF p).2 := fun b lo hi e b3 b4 b5 => by
        subst e
        exact ⟨188 * 128 + i, Or.inl ⟨gFl hG (by decide) (by decide +kernel), rfl⟩, b3, by rw [b4]; exact b5⟩
      by_cases q0 : i = 0
      · exact Or.inr (fl 0 _ _ q0 (by decide +kernel) (show gF (188 * 128 + 0) = (-2147483648, 2147483647) by decide +kernel) (iG _))
      by_cases q1 : i = 24
      · exact Or.inr (fl 24 _ _ q1 (by decide +kernel) (show gF (188 * 128 + 24) = (0, 500) by decide +kernel) (by omega))
      by_cases q2 : i = 25
      · exact Or.inr (fl 25 _ _ q2 (by decide +kernel) (show gF (188 * 128 + 25) = (0, 500) by decide +kernel) (by omega))
      by_cases q3 : i = 26
      · exact Or.inr (fl 26 _ _ q3 (by decide +kernel) (show gF (188 * 128 + 26) = (0, 500) by decide +kernel) (by omega))
      by_cases q4 : i = 27
      · exact Or.inr (fl 27 _ _ q4 (by decide +kernel) (show gF (188 * 128 + 27) = (0, 4) by decide +kernel) (by omega))
      by_cases q5 : i = 28
      · exact Or.inr (fl 28 _ _ q5 (by decide +kernel) (show gF (188 * 128 + 28) = (-2147483648, 2147483647) by decide +kernel) (iG _))
      by_cases q6 : i = 38
      · exact Or.inr (fl 38 _ _ q6 (by decide +kernel) (show gF (188 * 128 + 38) = (0, 500) by decide +kernel) (by omega))
      by_cases q7 : i = 39
      · exact Or.inr (fl 39 _ _ q7 (by decide +kernel) (show gF (188 * 128 + 39) = (0, 8) by decide +kernel) (by omega))
      by_cases q8 : i = 41
      · exact Or.inr (fl 41 _ _ q8 (by decide +kernel) (show gF (188 * 128 + 41) = (0, 40) by decide +kernel) (by omega))
      by_cases q9 : i = 42
      · exact Or.inr (fl 42 _ _ q9 (by decide +kernel) (show gF (188 * 128 + 42) = (-2147483648, 2147483647) by decide +kernel) (iG _))
      by_cases qa : i = 43
      · exact Or.inr (fl 43 _ _ qa (by decide +kernel) (show gF (188 * 128 + 43) = (-2147483648, 2147483647) by decide +kernel) (iG _))
      by_cases qb : i = 44
      · exact Or.inr (fl 44 _ _ qb (by decide +kernel) (show gF (188 * 128 + 44) = (-2147483648, 2147483647) by decide +kernel) (iG _))
      by_cases qc : i = 45
      · exact Or.inr (fl 45 _ _ qc (by decide +kernel) (show gF (188 * 128 + 45) = (-2147483648, 2147483647) by decide +kernel) (iG _))
      exact Or.inl (m2 i q0 q1 q2 q3 q4 q5 q6 q7 q8 q9 qa qb qc)
    · by_cases q2 : a < 204 ∨ 215 < a
      · exact Or.inl (by rw [m1 a q q2])
      · by_cases p1 : a = 204
        · subst p1
          rcases m5 i with z | z
          · exact Or.inl z
          · exact Or.inr ⟨204 * 128 + 127, Or.inr ⟨gAr hG (by decide) (Or.inl (by decide +kernel)), rfl⟩, by decide +kernel, by rw [show gF (204 * 128 + 127) = (0, 16) from by decide +kernel]; exact z⟩
        by_cases p2 : a = 213
        · subst p2
          rcases m6 i with z | z
          · exact Or.inl z
          · exact Or.inr ⟨213 * 128 + 127, Or.inr ⟨gAr hG (by decide) (Or.inl (by decide +kernel)), rfl⟩, by decide +kernel, by rw [show gF (213 * 128 + 127) = (0, 24) from by decide +kernel]; exact z⟩
        have p3 : a = 205 ∨ a = 206 ∨ a = 207 ∨ a = 208 ∨ a = 209 ∨ a = 210 ∨ a = 211 ∨ a = 212 ∨ a = 214 ∨ a = 215 := by omega
        rcases p3 with p | p | p | p | p | p | p | p | p | p
        · exact Or.inr (ar 205 p (by decide) (by decide +kernel) (by decide +kernel) (by decide +kernel))
        · exact Or.inr (ar 206 p (by decide) (by decide +kernel) (by decide +kernel) (by decide +kernel))
        · exact Or.inr (ar 207 p (by decide) (by decide +kernel) (by decide +kernel) (by decide +kernel))
        · exact Or.inr (ar 208 p (by decide) (by decide +kernel) (by decide +kernel) (by decide +kernel))
        · exact Or.inr (ar 209 p (by decide) (by decide +kernel) (by decide +kernel) (by decide +kernel))
        · exact Or.inr (ar 210 p (by decide) (by decide +kernel) (by decide +kernel) (by decide +kernel))
        · exact Or.inr (ar 211 p (by decide) (by decide +kernel) (by decide +kernel) (by decide +kernel))
        · exact Or.inr (ar 212 p (by decide) (by decide +kernel) (by decide +kernel) (by decide +kernel))
        · exact Or.inr (ar 214 p (by decide) (by decide +kernel) (by decide +kernel) (by decide +kernel))
        · exact Or.inr (ar 215 p (by decide) (by decide +kernel) (by decide +kernel) (by decide +kernel)))
  have e1 : h.1 = 230 := hG.1.1
  have e2 : h.2.1 = 108808 := hG.1.2.1
  rw [e1, e2] at d1 d2
  refine ⟨⟨_, List.mem_singleton.mpr rfl, ρ, fun _ _ => rfl, fun i b h => (by cases h), fun e he => (by cases he), ⟨zGi (znR (w := 0) (by rw [iR (by omega) (by omega)]; exact l1) (by rw [iR (by omega) (by omega)]; exact l2)), trivial⟩, fun e he => ?_⟩, d1, d2, e1.symm, e2.symm, rfl, d3⟩
  have he' : e = (188 * 128 + 24, 0, 1, (0, .ofNat 0, .ofNat 0, 0)) := List.mem_singleton.mp he
  subst he'
  exact (gFd d2 (by decide)).mpr (znC (by show (M' 188 24).toInt = _; rw [m3]; rfl))
