/-! the class's image: all that was told is copied -/
theorem cpy_at {s d : Nat → Int32} {n i : Nat} (h : i < n) : va_cpy s d (ix (kI 0)) (ix (kI 0)) n i = s i := by
  unfold va_cpy
  rw [show ix (kI 0) = 0 from rfl, if_pos (by omega), show 0 + (i - 0) = i by omega]
/-- fields, one by one -/
def cpF (w w2 n : Nat) (M0 M : pMem) : Prop := (∀ j, j < n → M w j = M0 w2 j) ∧ ∀ a, a ≠ w → M a = M0 a
theorem cpF_0 {w w2 : Nat} {M : pMem} : cpF w w2 0 M M := ⟨fun j h => absurd h (Nat.not_lt_zero j), fun _ _ => rfl⟩
theorem cpF_s {w w2 n : Nat} {M0 M M1 : pMem} (h : cpF w w2 n M0 M) (ne : w2 ≠ w) (e : M1 = aPut M w n (M w2 n)) : cpF w w2 (n + 1) M0 M1 := by
  refine ⟨fun j hj => ?_, fun a ha => ?_⟩
  · rw [e]
    by_cases q : j = n
    · rw [q, aPut_same, h.2 w2 ne]
    · rw [aPut_at q]
      exact h.1 j (by omega)
  · rw [e]
    funext j
    rw [aPut_cell ha, h.2 a ha]
/-- a row -/
theorem cpR {c c2 n : Nat} {k : Int32} {M M1 : pMem} (e : M1 = aRow M c (va_cpy (M c2) (M c) (ix (kI 0)) (ix (kI 0)) (ix k))) (hk : k.toInt = n) : (∀ i, i < n → M1 c i = M c2 i) ∧ ∀ a, a ≠ c → M1 a = M a := by
  refine ⟨fun i hi => ?_, fun a ha => ?_⟩
  · rw [e, aRow_same', ix_of hk]
    exact cpy_at hi
  · rw [e, aRow_cell ha]
theorem D_220_w {w w2 : Nat} (hne : w + 5 ≤ w2 ∨ w2 + 5 ≤ w) {M : pMem} {v : Unit} {N : pMem} (h : D_220 w w2 M v N) :
    (∀ j, j < 12 → N w j = M w2 j) ∧ (∀ i, i < 24 → N (w + 1) i = M (w2 + 1) i ∧ N (w + 2) i = M (w2 + 2) i) ∧ (∀ i, i < 576 → N (w + 3) i = M (w2 + 3) i) ∧ (∀ i, i < 18 → N (w + 4) i = M (w2 + 4) i) ∧ ∀ a, (a < w ∨ w + 5 ≤ a) → N a = M a := by
  obtain ⟨M1, e1, M2, e2, M3, e3, M4, e4, M5, e5, M6, e6, M7, e7, M8, e8, M9, e9, M10, e10, M11, e11, M12, e12, M13, e13, M14, e14, M15, e15, M16, e16, _, hN⟩ := h
  have ne : w2 ≠ w := by omega
  have c := cpF_s (cpF_s (cpF_s (cpF_s (cpF_s (cpF_s (cpF_s (cpF_s (cpF_s (cpF_s (cpF_s (cpF_s (cpF_0 (w := w) (w2 := w2) (M := M)) ne e1) ne e2) ne e3) ne e4) ne e5) ne e6) ne e7) ne e8) ne e9) ne e10) ne e11) ne e12
  obtain ⟨a1, a2⟩ := cpR e13 (n := 24) rfl
  obtain ⟨b1, b2⟩ := cpR e14 (n := 24) rfl
  obtain ⟨c1, c2⟩ := cpR e15 (n := 576) rfl
  obtain ⟨d1, d2⟩ := cpR e16 (n := 18) rfl
  rw [hN]
  refine ⟨fun j hj => ?_, fun i hi => ⟨?_, ?_⟩, fun i hi => ?_, fun i hi => ?_, fun a ha => ?_⟩
  · rw [d2 w (by omega), c2 w (by omega), b2 w (by omega), a2 w (by omega)]
    exact c.1 j hj
  · rw [d2 _ (by omega), c2 _ (by omega), b2 _ (by omega), a1 i hi, c.2 _ (by omega)]
  · rw [d2 _ (by omega), c2 _ (by omega), b1 i hi, a2 _ (by omega), c.2 _ (by omega)]
  · rw [d2 _ (by omega), c1 i hi, b2 _ (by omega), a2 _ (by omega), c.2 _ (by omega)]
  · rw [d1 i hi, c2 _ (by omega), b2 _ (by omega), a2 _ (by omega), c.2 _ (by omega)]
  · rw [d2 _ (by omega), c2 _ (by omega), b2 _ (by omega), a2 _ (by omega), c.2 _ (by omega)]
theorem D_153_w {l l2 : Nat} (hne : l + 7 ≤ l2 ∨ l2 + 7 ≤ l) {M : pMem} {v : Unit} {N : pMem} (h : D_153 l l2 M v N) :
    (∀ j, j < 2 → N l j = M l2 j) ∧ (∀ i, i < 16 → N (l + 1) i = M (l2 + 1) i ∧ N (l + 2) i = M (l2 + 2) i ∧ N (l + 3) i = M (l2 + 3) i ∧ N (l + 4) i = M (l2 + 4) i) ∧ (∀ i, i < 500 → N (l + 5) i = M (l2 + 5) i) ∧ ∀ a, (a < l ∨ l + 6 ≤ a) → N a = M a := by
  obtain ⟨M1, e1, M2, e2, M3, e3, M4, e4, M5, e5, M6, e6, M7, e7, _, hN⟩ := h
  have ne : l2 ≠ l := by omega
  have c := cpF_s (cpF_s (cpF_0 (w := l) (w2 := l2) (M := M)) ne e1) ne e2
  obtain ⟨a1, a2⟩ := cpR e3 (n := 16) rfl
  obtain ⟨b1, b2⟩ := cpR e4 (n := 16) rfl
  obtain ⟨c1, c2⟩ := cpR e5 (n := 16) rfl
  obtain ⟨d1, d2⟩ := cpR e6 (n := 16) rfl
  obtain ⟨f1, f2⟩ := cpR e7 (n := 500) rfl
  rw [hN]
  refine ⟨fun j hj => ?_, fun i hi => ⟨?_, ?_, ?_, ?_⟩, fun i hi => ?_, fun a ha => ?_⟩
  · rw [f2 _ (by omega), d2 _ (by omega), c2 _ (by omega), b2 _ (by omega), a2 _ (by omega)]
    exact c.1 j hj
  · rw [f2 _ (by omega), d2 _ (by omega), c2 _ (by omega), b2 _ (by omega), a1 i hi, c.2 _ (by omega)]
  · rw [f2 _ (by omega), d2 _ (by omega), c2 _ (by omega), b1 i hi, a2 _ (by omega), c.2 _ (by omega)]
  · rw [f2 _ (by omega), d2 _ (by omega), c1 i hi, b2 _ (by omega), a2 _ (by omega), c.2 _ (by omega)]
  · rw [f2 _ (by omega), d1 i hi, c2 _ (by omega), b2 _ (by omega), a2 _ (by omega), c.2 _ (by omega)]
  · rw [f1 i hi, d2 _ (by omega), c2 _ (by omega), b2 _ (by omega), a2 _ (by omega), c.2 _ (by omega)]
  · rw [f2 _ (by omega), d2 _ (by omega), c2 _ (by omega), b2 _ (by omega), a2 _ (by omega), c.2 _ (by omega)]
theorem D_161_c {l l2 : Nat} (hne : l + 4 ≤ l2 ∨ l2 + 4 ≤ l) {M : pMem} {v : Unit} {N : pMem} (h : D_161 l l2 M v N) :
    N l 0 = M l2 0 ∧ (∀ i, i < 24 → N (l + 1) i = M (l2 + 1) i ∧ N (l + 2) i = M (l2 + 2) i ∧ N (l + 3) i = M (l2 + 3) i) ∧ ∀ a, (a < l ∨ l + 4 ≤ a) → N a = M a := by
  obtain ⟨M1, e1, M2, e2, M3, e3, M4, e4, _, hN⟩ := h
  have ne : l2 ≠ l := by omega
  have c := cpF_s (cpF_0 (w := l) (w2 := l2) (M := M)) ne e1
  obtain ⟨a1, a2⟩ := cpR e2 (n := 24) rfl
  obtain ⟨b1, b2⟩ := cpR e3 (n := 24) rfl
  obtain ⟨c1, c2⟩ := cpR e4 (n := 24) rfl
  rw [hN]
  refine ⟨?_, fun i hi => ⟨?_, ?_, ?_⟩, fun a ha => ?_⟩
  · rw [c2 _ (by omega), b2 _ (by omega), a2 _ (by omega)]
    exact c.1 0 (by omega)
  · rw [c2 _ (by omega), b2 _ (by omega), a1 i hi, c.2 _ (by omega)]
  · rw [c2 _ (by omega), b1 i hi, a2 _ (by omega), c.2 _ (by omega)]
  · rw [c1 i hi, b2 _ (by omega), a2 _ (by omega), c.2 _ (by omega)]
  · rw [c2 _ (by omega), b2 _ (by omega), a2 _ (by omega), c.2 _ (by omega)]
/-- all that was told: of the cells at s stands at d what stood there -/
def cpT (d s : Nat) (M N : pMem) : Prop :=
  (∀ j, j < 12 → N (d + 1) j = M (s + 1) j) ∧ (∀ i, i < 24 → N (d + 2) i = M (s + 2) i ∧ N (d + 3) i = M (s + 3) i) ∧ (∀ i, i < 576 → N (d + 4) i = M (s + 4) i) ∧ (∀ i, i < 18 → N (d + 5) i = M (s + 5) i) ∧
  (∀ k, k < 4 → (∀ j, j < 2 → N (d + 12 + 11 * k) j = M (s + 12 + 11 * k) j) ∧ (∀ i, i < 16 → N (d + 13 + 11 * k) i = M (s + 13 + 11 * k) i ∧ N (d + 14 + 11 * k) i = M (s + 14 + 11 * k) i ∧ N (d + 15 + 11 * k) i = M (s + 15 + 11 * k) i ∧ N (d + 16 + 11 * k) i = M (s + 16 + 11 * k) i) ∧ (∀ i, i < 500 → N (d + 17 + 11 * k) i = M (s + 17 + 11 * k) i) ∧
    N (d + 19 + 11 * k) 0 = M (s + 19 + 11 * k) 0 ∧ (∀ i, i < 24 → N (d + 20 + 11 * k) i = M (s + 20 + 11 * k) i ∧ N (d + 21 + 11 * k) i = M (s + 21 + 11 * k) i ∧ N (d + 22 + 11 * k) i = M (s + 22 + 11 * k) i)) ∧
  (∀ i, i < 480 → N (d + 8) i = M (s + 8) i) ∧ (∀ i, i < 5 → N (d + 9) i = M (s + 9) i) ∧ (∀ i, i < 24 → N (d + 10) i = M (s + 10) i ∧ N (d + 11) i = M (s + 11) i) ∧ N d 7 = M s 7 ∧ N d 8 = M s 8 ∧
  ∀ a, (a < d ∨ d + 56 ≤ a) → N a = M a
/-- the state at the loop's head -/
def cpK (d s k : Nat) (M0 M : pMem) : Prop :=
  (∀ j, j < 12 → M (d + 1) j = M0 (s + 1) j) ∧ (∀ i, i < 24 → M (d + 2) i = M0 (s + 2) i ∧ M (d + 3) i = M0 (s + 3) i) ∧ (∀ i, i < 576 → M (d + 4) i = M0 (s + 4) i) ∧ (∀ i, i < 18 → M (d + 5) i = M0 (s + 5) i) ∧
  (∀ q, q < k → (∀ j, j < 2 → M (d + 12 + 11 * q) j = M0 (s + 12 + 11 * q) j) ∧ (∀ i, i < 16 → M (d + 13 + 11 * q) i = M0 (s + 13 + 11 * q) i ∧ M (d + 14 + 11 * q) i = M0 (s + 14 + 11 * q) i ∧ M (d + 15 + 11 * q) i = M0 (s + 15 + 11 * q) i ∧ M (d + 16 + 11 * q) i = M0 (s + 16 + 11 * q) i) ∧ (∀ i, i < 500 → M (d + 17 + 11 * q) i = M0 (s + 17 + 11 * q) i) ∧
    M (d + 19 + 11 * q) 0 = M0 (s + 19 + 11 * q) 0 ∧ (∀ i, i < 24 → M (d + 20 + 11 * q) i = M0 (s + 20 + 11 * q) i ∧ M (d + 21 + 11 * q) i = M0 (s + 21 + 11 * q) i ∧ M (d + 22 + 11 * q) i = M0 (s + 22 + 11 * q) i)) ∧
  ∀ a, (a < d + 1 ∨ d + 56 ≤ a) → M a = M0 a
theorem cpK_s {d s k : Nat} (hne : d + 56 ≤ s ∨ s + 56 ≤ d) (hk : k < 4) {M0 M M1 M2 : pMem} {u1 u2 : Unit} (h : cpK d s k M0 M) (h1 : D_153 (d + 12 + 11 * k) (s + 12 + 11 * k) M u1 M1) (h2 : D_161 (d + 19 + 11 * k) (s + 19 + 11 * k) M1 u2 M2) : cpK d s (k + 1) M0 M2 := by
  obtain ⟨a1, a2, a3, a4, a5, a6⟩ := h
  obtain ⟨b1, b2, b3, b4⟩ := D_153_w (by omega) h1
  obtain ⟨c1, c2, c3⟩ := D_161_c (by omega) h2
  have e : ∀ a, (a < d + 12 + 11 * k ∨ (d + 18 + 11 * k ≤ a ∧ a < d + 19 + 11 * k) ∨ d + 23 + 11 * k ≤ a) → M2 a = M a := fun a ha => by rw [c3 a (by omega), b4 a (by omega)]
  have s0 : ∀ a, (s ≤ a ∧ a < s + 56) → M a = M0 a := fun a ha => a6 a (by omega)
  refine ⟨fun j hj => ?_, fun i hi => ?_, fun i hi => ?_, fun i hi => ?_, fun q hq => ?_, fun a ha => ?_⟩
  · rw [e _ (by omega)]; exact a1 j hj
  · rw [e _ (by omega), e _ (by omega)]; exact a2 i hi
  · rw [e _ (by omega)]; exact a3 i hi
  · rw [e _ (by omega)]; exact a4 i hi
  · by_cases qk : q = k
    · subst qk
      refine ⟨fun j hj => ?_, fun i hi => ⟨?_, ?_, ?_, ?_⟩, fun i hi => ?_, ?_, fun i hi => ⟨?_, ?_, ?_⟩⟩
      · rw [c3 _ (by omega), b1 j hj, s0 _ (by omega)]
      · rw [c3 _ (by omega), show d + 13 + 11 * q = d + 12 + 11 * q + 1 by omega, (b2 i hi).1, s0 _ (by omega), show s + 12 + 11 * q + 1 = s + 13 + 11 * q by omega]
      · rw [c3 _ (by omega), show d + 14 + 11 * q = d + 12 + 11 * q + 2 by omega, (b2 i hi).2.1, s0 _ (by omega), show s + 12 + 11 * q + 2 = s + 14 + 11 * q by omega]
      · rw [c3 _ (by omega), show d + 15 + 11 * q = d + 12 + 11 * q + 3 by omega, (b2 i hi).2.2.1, s0 _ (by omega), show s + 12 + 11 * q + 3 = s + 15 + 11 * q by omega]
      · rw [c3 _ (by omega), show d + 16 + 11 * q = d + 12 + 11 * q + 4 by omega, (b2 i hi).2.2.2, s0 _ (by omega), show s + 12 + 11 * q + 4 = s + 16 + 11 * q by omega]
      · rw [c3 _ (by omega), show d + 17 + 11 * q = d + 12 + 11 * q + 5 by omega, b3 i hi, s0 _ (by omega), show s + 12 + 11 * q + 5 = s + 17 + 11 * q by omega]
      · rw [c1, b4 _ (by omega), s0 _ (by omega)]
      · rw [show d + 20 + 11 * q = d + 19 + 11 * q + 1 by omega, (c2 i hi).1, b4 _ (by omega), s0 _ (by omega), show s + 19 + 11 * q + 1 = s + 20 + 11 * q by omega]
      · rw [show d + 21 + 11 * q = d + 19 + 11 * q + 2 by omega, (c2 i hi).2.1, b4 _ (by omega), s0 _ (by omega), show s + 19 + 11 * q + 2 = s + 21 + 11 * q by omega]
      · rw [show d + 22 + 11 * q = d + 19 + 11 * q + 3 by omega, (c2 i hi).2.2, b4 _ (by omega), s0 _ (by omega), show s + 19 + 11 * q + 3 = s + 22 + 11 * q by omega]
    · have l : q < k := by omega
      obtain ⟨t1, t2, t3, t4, t5⟩ := a5 q l
      refine ⟨fun j hj => ?_, fun i hi => ?_, fun i hi => ?_, ?_, fun i hi => ?_⟩
      · rw [e _ (by omega)]; exact t1 j hj
      · rw [e _ (by omega), e _ (by omega), e _ (by omega), e _ (by omega)]; exact t2 i hi
      · rw [e _ (by omega)]; exact t3 i hi
      · rw [e _ (by omega)]; exact t4
      · rw [e _ (by omega), e _ (by omega), e _ (by omega)]; exact t5 i hi
  · rw [e _ (by omega)]; exact a6 a ha
theorem cpK_0 {d s : Nat} (hne : d + 56 ≤ s ∨ s + 56 ≤ d) {M M1 : pMem} {u : Unit} (h : D_220 (d + 1) (s + 1) M u M1) : cpK d s 0 M M1 := by
  obtain ⟨a1, a2, a3, a4, a5⟩ := D_220_w (by omega) h
  exact ⟨a1, a2, a3, a4, fun q hq => absurd hq (Nat.not_lt_zero q), fun a ha => a5 a (by omega)⟩
theorem cpT_of {d s : Nat} (hne : d + 56 ≤ s ∨ s + 56 ≤ d) {M0 M M1 M2 M3 M4 M5 M6 : pMem} (h : cpK d s 4 M0 M) (e1 : M1 = aRow M (d + 8) (va_cpy (M (s + 8)) (M (d + 8)) (ix (kI 0)) (ix (kI 0)) (ix (kI 480)))) (e2 : M2 = aRow M1 (d + 9) (va_cpy (M1 (s + 9)) (M1 (d + 9)) (ix (kI 0)) (ix (kI 0)) (ix (kI 5))))
    (e3 : M3 = aRow M2 (d + 10) (va_cpy (M2 (s + 10)) (M2 (d + 10)) (ix (kI 0)) (ix (kI 0)) (ix (kI 24)))) (e4 : M4 = aRow M3 (d + 11) (va_cpy (M3 (s + 11)) (M3 (d + 11)) (ix (kI 0)) (ix (kI 0)) (ix (kI 24)))) (e5 : M5 = aPut M4 d 7 (M4 s 7)) (e6 : M6 = aPut M5 d 8 (M5 s 8)) : cpT d s M0 M6 := by
  obtain ⟨a1, a2, a3, a4, a5, a6⟩ := h
  obtain ⟨b1, b2⟩ := cpR e1 (n := 480) rfl
  obtain ⟨c1, c2⟩ := cpR e2 (n := 5) rfl
  obtain ⟨f1, f2⟩ := cpR e3 (n := 24) rfl
  obtain ⟨g1, g2⟩ := cpR e4 (n := 24) rfl
  have h5 : ∀ a, a ≠ d → M6 a = M4 a := fun a ha => by
    funext j
    rw [e6, aPut_cell ha, e5, aPut_cell ha]
  have h4 : ∀ a, (a < d ∨ (d < a ∧ a < d + 8) ∨ d + 12 ≤ a) → M6 a = M a := fun a ha => by rw [h5 a (by omega), g2 a (by omega), f2 a (by omega), c2 a (by omega), b2 a (by omega)]
  refine ⟨fun j hj => ?_, fun i hi => ?_, fun i hi => ?_, fun i hi => ?_, fun q hq => ?_, fun i hi => ?_, fun i hi => ?_, fun i hi => ⟨?_, ?_⟩, ?_, ?_, fun a ha => ?_⟩
  · rw [h4 _ (by omega)]; exact a1 j hj
  · rw [h4 _ (by omega), h4 _ (by omega)]; exact a2 i hi
  · rw [h4 _ (by omega)]; exact a3 i hi
  · rw [h4 _ (by omega)]; exact a4 i hi
  · obtain ⟨t1, t2, t3, t4, t5⟩ := a5 q hq
    refine ⟨fun j hj => ?_, fun i hi => ?_, fun i hi => ?_, ?_, fun i hi => ?_⟩
    · rw [h4 _ (by omega)]; exact t1 j hj
    · rw [h4 _ (by omega), h4 _ (by omega), h4 _ (by omega), h4 _ (by omega)]; exact t2 i hi
    · rw [h4 _ (by omega)]; exact t3 i hi
    · rw [h4 _ (by omega)]; exact t4
    · rw [h4 _ (by omega), h4 _ (by omega), h4 _ (by omega)]; exact t5 i hi
  · rw [h5 _ (by omega), g2 _ (by omega), f2 _ (by omega), c2 _ (by omega), b1 i hi, a6 _ (by omega)]
  · rw [h5 _ (by omega), g2 _ (by omega), f2 _ (by omega), c1 i hi, b2 _ (by omega), a6 _ (by omega)]
  · rw [h5 _ (by omega), g2 _ (by omega), f1 i hi, c2 _ (by omega), b2 _ (by omega), a6 _ (by omega)]
  · rw [h5 _ (by omega), g1 i hi, f2 _ (by omega), c2 _ (by omega), b2 _ (by omega), a6 _ (by omega)]
  · rw [e6, aPut_at (by decide), e5, aPut_same, g2 _ (by omega), f2 _ (by omega), c2 _ (by omega), b2 _ (by omega), a6 _ (by omega)]
  · rw [e6, aPut_same, e5, aPut_cell (by omega), g2 _ (by omega), f2 _ (by omega), c2 _ (by omega), b2 _ (by omega), a6 _ (by omega)]
  · rw [h4 _ (by omega)]; exact a6 a (by omega)
theorem D_216t_w {M : pMem} {v : Unit} {N : pMem} (h : D_216t M v N) : cpT 74 18 M N := by
  obtain ⟨_, M1, h1, h⟩ := h
  refine h (fun x M' v N => ∀ k : Nat, x.toInt = k → k ≤ 4 → cpK 74 18 k M M' → cpT 74 18 M N) ?_ 0 rfl (by omega) (cpK_0 (by omega) h1)
  intro x M' v N hs k hx hk hc
  rcases hs with ⟨g, M1, e1, M2, e2, M3, e3, M4, e4, M5, e5, M6, e6, _, hN⟩ | ⟨g, _, _, u1, M1, h1, _, _, u2, M2, h2, hs⟩
  · rw [i_le, hx, kI_toInt (by decide) (by decide)] at g
    rw [show k = 4 by omega] at hc
    rw [hN]
    exact cpT_of (by omega) hc e1 e2 e3 e4 e5 e6
  · rw [i_le, hx, kI_toInt (by decide) (by decide)] at g
    rw [ix_of hx] at h1 h2
    exact hs (k + 1) (by rw [i_add1 (by omega)]; omega) (by omega) (cpK_s (by omega) (by omega) hc h1 h2)
theorem D_216b_w {M : pMem} {v : Unit} {N : pMem} (h : D_216b M v N) : cpT 18 74 M N := by
  obtain ⟨_, M1, h1, h⟩ := h
  refine h (fun x M' v N => ∀ k : Nat, x.toInt = k → k ≤ 4 → cpK 18 74 k M M' → cpT 18 74 M N) ?_ 0 rfl (by omega) (cpK_0 (by omega) h1)
  intro x M' v N hs k hx hk hc
  rcases hs with ⟨g, M1, e1, M2, e2, M3, e3, M4, e4, M5, e5, M6, e6, _, hN⟩ | ⟨g, _, _, u1, M1, h1, _, _, u2, M2, h2, hs⟩
  · rw [i_le, hx, kI_toInt (by decide) (by decide)] at g
    rw [show k = 4 by omega] at hc
    rw [hN]
    exact cpT_of (by omega) hc e1 e2 e3 e4 e5 e6
  · rw [i_le, hx, kI_toInt (by decide) (by decide)] at g
    rw [ix_of hx] at h1 h2
    exact hs (k + 1) (by rw [i_add1 (by omega)]; omega) (by omega) (cpK_s (by omega) (by omega) hc h1 h2)
