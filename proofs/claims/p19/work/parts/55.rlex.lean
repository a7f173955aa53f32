/-! the reference's side of the tape -/
def xWd0 : List Int := [32, 97, 100, 100, 32, 102, 105, 103, 104, 116, 32, 104, 111, 109, 101, 32, 110, 97, 109, 101, 32, 115, 101, 101, 32, 115, 108, 105, 112, 32, 97, 112, 97, 114, 116, 32, 97, 103, 97, 105, 110, 115, 116, 32, 98, 101, 115, 105, 100, 101, 32, 116, 111, 103, 101, 116, 104, 101, 114, 32, 115, 116, 105, 114, 32, 119, 104, 101, 110, 32, 111, 114, 32, 97, 110, 100, 32, 110, 111, 116, 32, 107, 105, 110, 100, 32, 112, 114, 105, 122, 101, 32, 100, 97, 121, 32, 115, 97, 109, 101, 32, 107, 110, 101, 119, 32, 119, 111, 110, 32, 108, 111, 115, 116, 32, 119, 114, 111, 110, 103, 101, 100, 32, 108, 105, 107, 101, 32, 98, 97, 99, 107, 32, 115, 116, 114, 111, 110, 103, 32, 111, 119, 110, 32, 97, 99, 114, 111, 115, 115, 32, 115, 105, 122, 101, 32]
def xWs (W : Nat → Int32) : Prop := ∀ j, j < 156 → W j = kI (xWd0.getD j 0)
/-- where its words stand; which of the strings each is -/
def xRp (r : Nat) : Nat := [0, 4, 10, 15, 20, 24, 29, 35, 43, 50, 59, 64, 69, 72, 76, 80, 85, 91, 95, 100, 105, 109, 114, 122, 127, 132, 139, 143, 150, 155].getD r 155
def xCw (r : Nat) : Nat := [14, 15, 16, 17, 18, 19, 24, 25, 26, 27, 28, 20, 21, 22, 23, 0, 1, 2, 3, 4, 5, 6, 7, 8, 9, 10, 11, 12, 13].getD r 29
def xRw (j : Nat) : Nat := [15, 16, 17, 18, 19, 20, 21, 22, 23, 24, 25, 26, 27, 28, 0, 1, 2, 3, 4, 5, 11, 12, 13, 14, 6, 7, 8, 9, 10].getD j 29
theorem xCw_lt : ∀ r, r < 29 → xCw r < 29 ∧ xRw (xCw r) = r := by decide
theorem xRw_lt : ∀ j, j < 29 → xRw j < 29 ∧ xCw (xRw j) = j := by decide
theorem xRp_ck : ∀ r, r < 29 → xRp (r + 1) = xRp r + wL (xCw r) + 1 ∧ xRp (r + 1) ≤ 155 ∧ xWd0.getD (xRp (r + 1)) 0 = 32 ∧ ∀ q, q < wL (xCw r) → kI (xWd0.getD (xRp r + 1 + q) 0) = wC (xCw r) q ∧ ¬ xWd0.getD (xRp r + 1 + q) 0 = 32 := by decide +kernel
theorem xWd_rg : ∀ j, j < 156 → 0 ≤ xWd0.getD j 0 ∧ xWd0.getD j 0 ≤ 127 := by decide +kernel
theorem xWs_32 {W : Nat → Int32} (hW : xWs W) {j : Nat} (hj : j < 156) : W j = kI 32 ↔ xWd0.getD j 0 = 32 := by
  have := xWd_rg j hj
  rw [hW j hj, i_eq, kI_toInt (by omega) (by omega), kI_toInt (by decide) (by decide)]
/-- the word that wordAt finds -/
def wR (B : Nat → Int32) (a b : Nat) (v : Int32) (r0 : Nat) : Prop := (∃ r, r0 ≤ r ∧ r < 29 ∧ v = kI r ∧ wM B a b (xCw r)) ∨ (v = kI (-1) ∧ ∀ r, r0 ≤ r → r < 29 → ¬ wM B a b (xCw r))
theorem D_64_w {a b : Nat} {p1 p2 : Int32} {M0 : pMem} (ha : p1.toInt = a) (hb : p2.toInt = b) (hab : a < b) (h5 : b ≤ 500) (hW : xWs (M0 203)) (hl : ∀ i, a ≤ i → i < b → xLt (M0 202 i) = true) {v : Int32} {N : pMem} (h : D_64 p1 p2 M0 v N) : N = M0 ∧ wR (M0 202) a b v 0 := by
  have no32 : ∀ i, a ≤ i → i < b → ¬ M0 202 i = kI 32 := by
    intro i h1 h2 e
    have := xLt_rg (hl i h1 h2)
    rw [e, kI_toInt (by decide) (by decide)] at this
    omega
  refine (h (fun x3 x4 M v N => M = M0 → ∀ r : Nat, x3.toInt = r - 1 → r ≤ 29 → x4.toInt = xRp r → N = M0 ∧ wR (M0 202) a b v r,
    fun x3 x4 x5 M v N => M = M0 → ∀ r i : Nat, x3.toInt = r → r < 29 → x4.toInt = xRp r → x5.toInt = i → a + i ≤ b → i ≤ wL (xCw r) → (∀ q, q < i → wC (xCw r) q = M0 202 (a + q)) → N = M0 ∧ wR (M0 202) a b v r,
    fun x3 x4 M v N => M = M0 → ∀ r t : Nat, x3.toInt = r → r < 29 → x4.toInt = t → xRp r < t → t ≤ xRp (r + 1) → ¬ wM (M0 202) a b (xCw r) → N = M0 ∧ wR (M0 202) a b v r) ?_) rfl 0 rfl (by omega) rfl
  refine ⟨?_, ?_, ?_⟩
  · intro x3 x4 M v N hs hM r hx3 hr hx4
    subst hM
    rcases hs with ⟨g, hv, hN⟩ | ⟨g, hs⟩
    · rw [i_le, hx4, kI_toInt (by decide) (by decide)] at g
      refine ⟨hN, Or.inr ⟨hv, fun r' h1 h2 => ?_⟩⟩
      have c := xRp_ck r (by omega)
      exfalso
      omega
    · rw [i_le, hx4, kI_toInt (by decide) (by decide)] at g
      have hr29 : r < 29 := by
        by_cases e : r = 29
        · subst e
          exact absurd (show (155 : Int) ≤ ((xRp 29 : Nat) : Int) by decide) g
        · omega
      exact hs rfl r 0 (by rw [i_add1 (by omega)]; omega) hr29 hx4 rfl (by omega) (Nat.zero_le _) (fun q hq => by omega)
  · intro x3 x4 x5 M v N hs hM r i hx3 hr hx4 hx5 hib hil hpre
    subst hM
    obtain ⟨c1, c2, c3, c4⟩ := xRp_ck r hr
    have e1 : (p1 + x5).toInt = ((a + i : Nat) : Int) := by rw [i_add (by omega) (by omega)]; omega
    have e2 : (x4 + kI 1).toInt = ((xRp r + 1 : Nat) : Int) := by rw [i_add1 (by omega)]; omega
    have e3 : (x4 + kI 1 + x5).toInt = ((xRp r + 1 + i : Nat) : Int) := by rw [i_add (by omega) (by omega)]; omega
    -- not this word
    have next : ¬ wM (M 202) a b (xCw r) → (M = M → ∀ r t : Nat, x3.toInt = r → r < 29 → (x4 + kI 1).toInt = t → xRp r < t → t ≤ xRp (r + 1) → ¬ wM (M 202) a b (xCw r) → N = M ∧ wR (M 202) a b v r) → N = M ∧ wR (M 202) a b v r :=
      fun hn k => k rfl r (xRp r + 1) hx3 hr e2 (by omega) (by omega) hn
    rcases hs with ⟨g, hs⟩ | ⟨g, hs⟩
    · rw [i_le, hb, e1] at g
      rcases hs with ⟨g2, hs⟩ | ⟨g2, _, hs⟩
      · rw [i_eq, e1, hb] at g2
        omega
      · rcases hs with ⟨g3, hs⟩ | ⟨g3, hv, hN⟩
        · rw [ix_of e3, xWs_32 hW (by omega)] at g3
          refine next (fun w => ?_) hs
          have : i = wL (xCw r) := by have := w.1; omega
          apply g3
          rw [this, show xRp r + 1 + wL (xCw r) = xRp (r + 1) by omega]
          exact c3
        · rw [ix_of e3, xWs_32 hW (by omega)] at g3
          have ei : i = wL (xCw r) := by
            by_cases e : i < wL (xCw r)
            · exact absurd (Classical.not_not.mp g3) (c4 i e).2
            · omega
          refine ⟨hN, Or.inl ⟨r, Nat.le_refl _, hr, hv.trans (kI_inj hx3), by omega, fun q hq => hpre q (by omega)⟩⟩
    · rw [i_le, hb, e1] at g
      obtain ⟨_, _, hs⟩ := hs
      rcases hs with ⟨g2, hs⟩ | ⟨g2, hs⟩
      · rw [ix_of e3, ix_of e1, hW _ (by omega)] at g2
        have nw : ¬ wM (M 202) a b (xCw r) := fun w => by
          by_cases e : i < wL (xCw r)
          · exact g2 ((c4 i e).1.trans (w.2 i e))
          · have := w.1
            omega
        rcases hs with ⟨g3, hs⟩ | ⟨g3, hs⟩
        · exact next nw hs
        · rw [i_eq, e1, hb] at g3
          omega
      · rw [ix_of e3, ix_of e1, hW _ (by omega)] at g2
        replace g2 := Classical.not_not.mp g2
        have hi : i < wL (xCw r) := by
          by_cases e : i < wL (xCw r)
          · exact e
          · have ei : i = wL (xCw r) := by omega
            rw [ei, show xRp r + 1 + wL (xCw r) = xRp (r + 1) by omega, c3] at g2
            exact absurd g2.symm (no32 (a + wL (xCw r)) (by omega) (by omega))
        exact hs rfl r (i + 1) hx3 hr hx4 (by rw [i_add1 (by omega)]; omega) (by omega) (by omega) (fun q hq => by
          by_cases e : q = i
          · rw [e]
            exact (c4 i hi).1.symm.trans g2
          · exact hpre q (by omega))
  · intro x3 x4 M v N hs hM r t hx3 hr hx4 h1 h2 hn
    subst hM
    obtain ⟨c1, c2, c3, c4⟩ := xRp_ck r hr
    obtain ⟨_, hs⟩ := hs
    rcases hs with ⟨g, hs⟩ | ⟨g, hs⟩
    · rw [ix_of hx4, xWs_32 hW (by omega)] at g
      have et : t = xRp (r + 1) := by
        by_cases e : t < xRp (r + 1)
        · have := (c4 (t - (xRp r + 1)) (by omega)).2
          rw [show xRp r + 1 + (t - (xRp r + 1)) = t by omega] at this
          exact absurd g this
        · omega
      obtain ⟨k1, k2⟩ := hs rfl (r + 1) (by rw [hx3]; omega) (by omega) (by rw [hx4, et])
      refine ⟨k1, ?_⟩
      rcases k2 with ⟨r', q1, q2, q3, q4⟩ | ⟨q1, q2⟩
      · exact Or.inl ⟨r', by omega, q2, q3, q4⟩
      · refine Or.inr ⟨q1, fun r' q3 q4 => ?_⟩
        by_cases e : r' = r
        · rw [e]
          exact hn
        · exact q2 r' (by omega) q4
    · rw [ix_of hx4, xWs_32 hW (by omega)] at g
      refine hs rfl r (t + 1) hx3 hr (by rw [i_add1 (by omega)]; omega) (by omega) ?_ hn
      by_cases e : t = xRp (r + 1)
      · rw [e] at g
        exact absurd c3 g
      · omega
/-- a token as both sides have it: T, V the strings' side's, t, v the reference's -/
def xRel (T V t v : Int32) : Prop := (T = kI 101 ∧ t = kI 0) ∨ (T = kI 102 ∧ t = kI 1) ∨ (∃ r, r < 29 ∧ T = kI (xCw r) ∧ t = kI 2 ∧ v = kI r) ∨ (T = kI 100 ∧ t = kI 3 ∧ v = V) ∨ (¬ f_63 T = 0 ∧ t = kI 4 ∧ v = T)
/-- the reference has just read what stands at s -/
def xCur (M : pMem) (B : Nat → Int32) (n s : Nat) : Prop := M 188 26 = kI s ∧ (s < n → M 188 25 = kI (xNx B n s) ∧ xRel (xTk B n s) (xVl B n s) (M 188 27) (M 188 28)) ∧ (¬ s < n → M 188 25 = kI n ∧ M 188 27 = kI 0)
def xPre (M : pMem) (B : Nat → Int32) (n : Nat) : Prop := (M 188 24).toInt = n ∧ M 202 = B ∧ xWs (M 203)
theorem xPre_put {M : pMem} {B : Nat → Int32} {n j : Nat} {x : Int32} (h : xPre M B n) (hj : j ≠ 24) : xPre (aPut M 188 j x) B n := by
  obtain ⟨h1, h2, h3⟩ := h
  refine ⟨by rw [aPut_at (Ne.symm hj)]; exact h1, ?_, ?_⟩
  · rw [← h2]
    funext i
    exact aPut_cell (by decide)
  · have e : aPut M 188 j x 203 = M 203 := by funext i; exact aPut_cell (by decide)
    rw [e]
    exact h3
theorem f_60_at {M : pMem} {B : Nat → Int32} {n q : Nat} {x : Int32} (h : xPre M B n) (hx : x.toInt = q) : f_60 x M = if q < n then B q else kI (-1) := by
  unfold f_60
  by_cases c : q < n
  · rw [if_neg (show ¬ M 188 24 ≤ x by rw [i_le, h.1, hx]; omega), if_pos c, h.2.1, ix_of hx]
  · rw [if_pos (show M 188 24 ≤ x by rw [i_le, h.1, hx]; omega), if_neg c]
def xQ6 (B : Nat → Int32) (n : Nat) (M N : pMem) : Prop := xPre M B n → ∀ s q : Nat, (M 188 26) = kI s → (M 188 25).toInt = q → s < q → q ≤ n → M 188 27 = kI 1 → (∀ i, s ≤ i → i < q → xLt (B i) = true) →
  N 188 26 = kI s ∧ N 188 25 = kI (xEnd xLt B n q) ∧ ∀ V, xRel (xWd B s (xEnd xLt B n q)) V (N 188 27) (N 188 28)
def xQ12 (B : Nat → Int32) (n : Nat) (M N : pMem) : Prop := xPre M B n → ∀ s q : Nat, (M 188 26) = kI s → (M 188 25).toInt = q → s < q → q ≤ n → M 188 27 = kI 1 → (∀ i, s ≤ i → i < q → xDg (B i) = true) → (q - s ≤ 4 → M 188 28 = xV B s (q - s)) →
  N 188 26 = kI s ∧ N 188 25 = kI (xEnd xDg B n q) ∧ (xEnd xDg B n q - s ≤ 4 → N 188 27 = kI 3 ∧ N 188 28 = xV B s (xEnd xDg B n q - s)) ∧ (¬ xEnd xDg B n q - s ≤ 4 → N 188 27 = kI 1)
def xQ0 (B : Nat → Int32) (n : Nat) (M N : pMem) : Prop := xPre M B n → ∀ p : Nat, (M 188 25).toInt = p → p ≤ n → xCur N B n (xSk B n p)
theorem S_65_6w {B : Nat → Int32} {n : Nat} (hn : n ≤ 500) {P0 P6 P12 : pMem → pT Unit} (h6 : ∀ M v N, P6 M v N → xQ6 B n M N) {M : pMem} {v : Unit} {N : pMem} (hs : S_65_6 P0 P6 P12 M v N) : xQ6 B n M N := by
  intro hp s q hf hq hsq hqn ht hl
  have e60 := f_60_at hp hq
  rcases hs with ⟨g, v1, M1, hD, M2, e2, hs⟩ | ⟨g, M1, e1, hs⟩
  · rw [e60] at g
    have he : xEnd xLt B n q = q := by
      rw [xEnd_eq, if_neg]
      rintro ⟨c1, c2⟩
      rw [if_pos c1] at g
      exact xLt_t.mp c2 g
    have hf' : (M 188 26).toInt = s := by rw [hf]; exact kI_toInt (by omega) (by omega)
    have hb : ∀ i, s ≤ i → i < q → xLt (M 202 i) = true := by
      rw [hp.2.1]
      exact hl
    obtain ⟨rfl, w⟩ := D_64_w hf' hq hsq (by omega) hp.2.2 hb hD
    rw [hp.2.1] at w
    have w2 : M2 188 28 = v1 := by rw [e2]; exact aPut_same
    have w25 : M2 188 25 = M1 188 25 := by rw [e2]; exact aPut_at (by decide)
    have w26 : M2 188 26 = M1 188 26 := by rw [e2]; exact aPut_at (by decide)
    have w27 : M2 188 27 = M1 188 27 := by rw [e2]; exact aPut_at (by decide)
    rw [he]
    rcases hs with ⟨g2, _, hN⟩ | ⟨g2, M3, e3, _, hN⟩
    · rw [w2] at g2
      subst hN
      refine ⟨w26.trans hf, w25.trans (kI_inj hq), fun V => ?_⟩
      rcases w with ⟨r, _, hr, hv, _⟩ | ⟨_, w⟩
      · rw [hv, i_eq, kI_toInt (by omega) (by omega), kI_toInt (by decide) (by decide)] at g2
        omega
      · refine Or.inr (Or.inl ⟨xWd_none (fun j hj => ?_), w27.trans ht⟩)
        have := w (xRw j) (Nat.zero_le _) (xRw_lt j hj).1
        rwa [(xRw_lt j hj).2] at this
    · rw [w2] at g2
      rw [e3] at hN
      subst hN
      refine ⟨by rw [aPut_at (by decide)]; exact w26.trans hf, by rw [aPut_at (by decide)]; exact w25.trans (kI_inj hq), fun V => ?_⟩
      rcases w with ⟨r, _, hr, hv, w⟩ | ⟨hv, w⟩
      · refine Or.inr (Or.inr (Or.inl ⟨r, hr, xWd_some (xCw_lt r hr).1 w, aPut_same, ?_⟩))
        rw [aPut_at (by decide), w2]
        exact hv
      · exact absurd hv g2
  · rw [e60] at g
    have c1 : q < n := by
      by_cases c : q < n
      · exact c
      · rw [if_neg c] at g
        exact absurd rfl g
    rw [if_pos c1] at g
    have hl' := xLt_t.mpr g
    rw [xEnd_eq, if_pos ⟨c1, hl'⟩]
    refine h6 _ _ _ hs (by rw [e1]; exact xPre_put hp (by decide)) s (q + 1) (by rw [e1, aPut_at (by decide)]; exact hf) (by rw [e1, aPut_same, i_add1 (by omega)]; omega) (by omega) (by omega) (by rw [e1, aPut_at (by decide)]; exact ht) (fun i h1 h2 => ?_)
    by_cases e : i = q
    · rw [e]
      exact hl'
    · exact hl i h1 (by omega)
theorem S_65_12w {B : Nat → Int32} {n : Nat} (hn : n ≤ 500) {P0 P6 P12 : pMem → pT Unit} (h12 : ∀ M v N, P12 M v N → xQ12 B n M N) {M : pMem} {v : Unit} {N : pMem} (hs : S_65_12 P0 P6 P12 M v N) : xQ12 B n M N := by
  intro hp s q hf hq hsq hqn ht hl hval
  have e60 := f_60_at hp hq
  have hf' : (M 188 26).toInt = s := by rw [hf]; exact kI_toInt (by omega) (by omega)
  rcases hs with ⟨g, hs⟩ | ⟨g, hs⟩
  · rw [e60] at g
    have he : xEnd xDg B n q = q := by
      rw [xEnd_eq, if_neg]
      rintro ⟨c1, c2⟩
      rw [if_pos c1] at g
      exact xDg_t.mp c2 g
    have es : (M 188 25 - M 188 26).toInt = q - s := by rw [i_sub (by omega) (by omega), hq, hf']
    rw [he]
    rcases hs with ⟨g2, _, hN⟩ | ⟨g2, M1, e1, _, hN⟩
    · rw [i_le, es, kI_toInt (by decide) (by decide)] at g2
      subst hN
      exact ⟨hf, kI_inj hq, fun c => by omega, fun _ => ht⟩
    · rw [i_le, es, kI_toInt (by decide) (by decide)] at g2
      rw [e1] at hN
      subst hN
      refine ⟨by rw [aPut_at (by decide)]; exact hf, by rw [aPut_at (by decide)]; exact kI_inj hq, fun c => ⟨aPut_same, by rw [aPut_at (by decide)]; exact hval c⟩, fun c => by omega⟩
  · rw [e60] at g
    have c1 : q < n := by
      by_cases c : q < n
      · exact c
      · rw [if_neg c] at g
        exact absurd rfl g
    rw [if_pos c1] at g e60
    have hd' := xDg_t.mpr g
    rw [xEnd_eq, if_pos ⟨c1, hd'⟩]
    have hl2 : ∀ i, s ≤ i → i < q + 1 → xDg (B i) = true := fun i h1 h2 => by
      by_cases e : i = q
      · rw [e]
        exact hd'
      · exact hl i h1 (by omega)
    have small : q + 1 - s ≤ 4 → (xV B s (q - s)).toInt < 10000 := fun c => by
      have := (xV_rg (B := B) (p := s) (k := q - s) (fun i hi => hl (s + i) (by omega) (by omega)) (by omega)).2
      have b : (10 : Int) ^ (q - s) ≤ 1000 := by
        have : q - s = 0 ∨ q - s = 1 ∨ q - s = 2 ∨ q - s = 3 := by omega
        rcases this with e | e | e | e <;> rw [e] <;> decide
      omega
    rcases hs with ⟨g2, M1, e1, M2, e2, hs⟩ | ⟨g2, M1, e1, M2, e2, hs⟩
    · rw [i_le, kI_toInt (by decide) (by decide)] at g2
      refine h12 _ _ _ hs (by rw [e2, e1]; exact xPre_put (xPre_put hp (by decide)) (by decide)) s (q + 1) (by rw [e2, e1, aPut_at (by decide), aPut_at (by decide)]; exact hf) (by rw [e2, aPut_same, e1, aPut_at (by decide), i_add1 (by omega)]; omega) (by omega) (by omega) (by rw [e2, e1, aPut_at (by decide), aPut_at (by decide)]; exact ht) hl2 (fun c => ?_)
      exfalso
      have := hval (by omega)
      rw [this] at g2
      have := small c
      omega
    · refine h12 _ _ _ hs (by rw [e2, e1]; exact xPre_put (xPre_put hp (by decide)) (by decide)) s (q + 1) (by rw [e2, e1, aPut_at (by decide), aPut_at (by decide)]; exact hf) (by rw [e2, aPut_same, e1, aPut_at (by decide), i_add1 (by omega)]; omega) (by omega) (by omega) (by rw [e2, e1, aPut_at (by decide), aPut_at (by decide)]; exact ht) hl2 (fun c => ?_)
      rw [e2, aPut_at (by decide), e1, aPut_same, hval (by omega), e60, show q + 1 - s = (q - s) + 1 by omega]
      show _ = xV B s (q - s) * kI 10 + B (s + (q - s)) - kI 48
      rw [show s + (q - s) = q by omega, Int32.mul_comm]
theorem S_65_0w {B : Nat → Int32} {n : Nat} (hn : n ≤ 500) (hB : ∀ i, i < n → 0 ≤ (B i).toInt) {P0 P6 P12 : pMem → pT Unit} (h0 : ∀ M v N, P0 M v N → xQ0 B n M N) (h6 : ∀ M v N, P6 M v N → xQ6 B n M N) (h12 : ∀ M v N, P12 M v N → xQ12 B n M N) {M : pMem} {v : Unit} {N : pMem} (hs : S_65_0 P0 P6 P12 M v N) : xQ0 B n M N := by
  intro hp p hq hpn
  have e60 := f_60_at hp hq
  have skip : xBl (B p) = true → p < n → ∀ M1, M1 = aPut M 188 25 (M 188 25 + kI 1) → P0 M1 v N → xCur N B n (xSk B n p) := by
    intro hb hpn2 M1 e1 hs
    rw [xSk_bl hpn2 hb]
    exact h0 _ _ _ hs (by rw [e1]; exact xPre_put hp (by decide)) (p + 1) (by rw [e1, aPut_same, i_add1 (by omega)]; omega) (by omega)
  rcases hs with ⟨g, M1, e1, hs⟩ | ⟨g, hs⟩
  · rw [e60] at g
    by_cases c : p < n
    · rw [if_pos c] at g
      exact skip (by unfold xBl; rw [g]; rfl) c M1 e1 hs
    · rw [if_neg c] at g
      exact absurd g (by decide)
  · rw [e60] at g
    rcases hs with ⟨g2, M1, e1, M2, e2, hs⟩ | ⟨g2, M1, e1, hs⟩
    · rw [e60] at g2
      have p2 : xPre M2 B n := by rw [e2, e1]; exact xPre_put (xPre_put hp (by decide)) (by decide)
      have s2 : M2 188 25 = kI p := by rw [e2, e1, aPut_at (by decide), aPut_at (by decide)]; exact kI_inj hq
      have f2 : M2 188 26 = kI p := by rw [e2, e1, aPut_at (by decide), aPut_same]; exact kI_inj hq
      have t2 : M2 188 27 = kI 1 := by rw [e2]; exact aPut_same
      have e62 : f_60 (M2 188 25) M2 = if p < n then B p else kI (-1) := f_60_at p2 (by rw [s2]; exact kI_toInt (by omega) (by omega))
      rcases hs with ⟨g3, M3, e3, M4, e4, hs⟩ | ⟨g3, M3, e3, _, hN⟩
      · rw [e62] at g3
        have c : p < n := by
          by_cases c : p < n
          · exact c
          · rw [if_neg c] at g3
            exact absurd rfl g3
        rw [if_pos c] at g g2 e62
        have hb : xBl (B p) = false := by
          unfold xBl
          simp [g, g2]
        rw [xSk_no hb]
        have p4 : xPre M4 B n := by rw [e4, e3]; exact xPre_put (xPre_put p2 (by decide)) (by decide)
        have s4 : M4 188 25 = kI (p + 1 : Nat) := by
          rw [e4, aPut_at (by decide), e3, aPut_same, s2]
          exact kI_inj (by rw [i_add1 (by rw [kI_toInt (by omega) (by omega)]; omega), kI_toInt (by omega) (by omega)]; omega)
        have f4 : M4 188 26 = kI p := by rw [e4, aPut_at (by decide), e3, aPut_at (by decide)]; exact f2
        have t4 : M4 188 27 = kI 1 := by rw [e4, aPut_at (by decide), e3, aPut_at (by decide)]; exact t2
        have v4 : M4 188 28 = B p := by rw [e4, aPut_same]; exact e62
        rcases hs with ⟨g4, hs⟩ | ⟨g4, hs⟩
        · rw [e62] at g4
          have nl : xLt (B p) = false := by cases q : xLt (B p) with | false => rfl | true => exact absurd g4 (xLt_t.mp q)
          rcases hs with ⟨g5, hs⟩ | ⟨g5, M5, e5, hs⟩
          · rw [e62] at g5
            have nd : xDg (B p) = false := by cases q : xDg (B p) with | false => rfl | true => exact absurd g5 (xDg_t.mp q)
            have enx : xNx B n p = p + 1 := by unfold xNx; rw [nl, nd]; rfl
            rcases hs with ⟨g6, _, hN⟩ | ⟨g6, M5, e5, _, hN⟩
            · rw [e62] at g6
              subst hN
              refine ⟨f4, fun _ => ⟨by rw [enx]; exact s4, Or.inr (Or.inl ⟨?_, t4⟩)⟩, fun q => absurd c q⟩
              unfold xTk
              rw [nl, nd, if_neg (by decide), if_neg (by decide), if_pos g6]
            · rw [e62] at g6
              rw [e5] at hN
              subst hN
              have et : xTk B n p = B p := by
                unfold xTk
                rw [nl, nd, if_neg (by decide), if_neg (by decide), if_neg g6]
              refine ⟨by rw [aPut_at (by decide)]; exact f4, fun _ => ⟨by rw [enx, aPut_at (by decide)]; exact s4, Or.inr (Or.inr (Or.inr (Or.inr ⟨by rw [et]; exact g6, aPut_same, by rw [aPut_at (by decide), et]; exact v4⟩)))⟩, fun q => absurd c q⟩
          · rw [e62] at g5 e5
            have d : xDg (B p) = true := xDg_t.mpr g5
            have k := h12 _ _ _ hs (by rw [e5]; exact xPre_put p4 (by decide)) p (p + 1) (by rw [e5, aPut_at (by decide)]; exact f4) (by rw [e5, aPut_at (by decide), s4]; exact kI_toInt (by omega) (by omega)) (by omega) (by omega) (by rw [e5, aPut_at (by decide)]; exact t4) (fun i h1 h2 => by rw [show i = p by omega]; exact d) (fun _ => by
              rw [e5, aPut_same, show p + 1 - p = 1 by omega]
              show B p - kI 48 = xV B p 0 * kI 10 + B (p + 0) - kI 48
              rw [show xV B p 0 * kI 10 = 0 from rfl, Int32.zero_add]
              rfl)
            have enx : xNx B n p = xEnd xDg B n (p + 1) := by unfold xNx; rw [nl, d]; rfl
            refine ⟨k.1, fun _ => ⟨by rw [enx]; exact k.2.1, ?_⟩, fun q => absurd c q⟩
            have et : xTk B n p = if xEnd xDg B n (p + 1) - p ≤ 4 then kI 100 else kI 102 := by unfold xTk; rw [nl, d]; rfl
            have ev : xVl B n p = xV B p (xEnd xDg B n (p + 1) - p) := by unfold xVl; rw [nl, d]; rfl
            by_cases c4 : xEnd xDg B n (p + 1) - p ≤ 4
            · obtain ⟨k3, k4⟩ := k.2.2.1 c4
              exact Or.inr (Or.inr (Or.inr (Or.inl ⟨by rw [et, if_pos c4], k3, by rw [ev]; exact k4⟩)))
            · exact Or.inr (Or.inl ⟨by rw [et, if_neg c4], k.2.2.2 c4⟩)
        · rw [e62] at g4
          have l : xLt (B p) = true := xLt_t.mpr g4
          have k := h6 _ _ _ hs p4 p (p + 1) f4 (by rw [s4]; exact kI_toInt (by omega) (by omega)) (by omega) (by omega) t4 (fun i h1 h2 => by rw [show i = p by omega]; exact l)
          have enx : xNx B n p = xEnd xLt B n (p + 1) := by unfold xNx; rw [l]; rfl
          have et : xTk B n p = xWd B p (xEnd xLt B n (p + 1)) := by unfold xTk; rw [l]; rfl
          refine ⟨k.1, fun _ => ⟨by rw [enx]; exact k.2.1, by rw [et]; exact k.2.2 _⟩, fun q => absurd c q⟩
      · rw [e62] at g3
        have c : ¬ p < n := by
          intro c
          rw [if_pos c] at g3
          have := hB p c
          rw [Classical.not_not.mp g3] at this
          exact absurd this (by decide)
        have ep : p = n := by omega
        rw [e3] at hN
        subst hN
        have es : xSk B n p = n := by rw [ep]; exact xSk_n
        rw [es]
        refine ⟨by rw [aPut_at (by decide), f2, ep], fun q => absurd q (Nat.lt_irrefl _), fun _ => ⟨by rw [aPut_at (by decide), s2, ep], aPut_same⟩⟩
    · rw [e60] at g2
      replace g2 := Classical.not_not.mp g2
      by_cases c : p < n
      · rw [if_pos c] at g2
        exact skip (by unfold xBl; rw [g2]; rfl) c M1 e1 hs
      · rw [if_neg c] at g2
        exact absurd g2 (by decide)
theorem D_65_w {B : Nat → Int32} {n : Nat} (hn : n ≤ 500) (hB : ∀ i, i < n → 0 ≤ (B i).toInt) {M : pMem} {v : Unit} {N : pMem} (h : D_65 M v N) : xQ0 B n M N := by
  have hC : C_65 (fun M _ N => xQ0 B n M N) (fun M _ N => xQ6 B n M N) (fun M _ N => xQ12 B n M N) :=
    ⟨fun M v N hs => S_65_0w hn hB (fun _ _ _ k => k) (fun _ _ _ k => k) (fun _ _ _ k => k) hs, fun M v N hs => S_65_6w hn (fun _ _ _ k => k) hs, fun M v N hs => S_65_12w hn (fun _ _ _ k => k) hs⟩
  exact S_65_0w (P0 := L_65_0) (P6 := L_65_6) (P12 := L_65_12) hn hB (fun M v N k => k (_, _, _) hC) (fun M v N k => k (_, _, _) hC) (fun M v N k => k (_, _, _) hC) h
