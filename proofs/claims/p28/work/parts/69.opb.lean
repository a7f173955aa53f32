/-! the image, the orders -/
theorem days_len : ∀ {l : List (Int32 × Int32)} {q : List (Int32 × Int32 × Int32) × Int32}, (l.foldl plDay q).1.length ≤ q.1.length + l.length
  | [], _ => Nat.le_refl _
  | w :: r, q => by
    have a := days_len (l := r) (q := plDay q w)
    have b := plDay_len (q := q) (w := w)
    show (r.foldl plDay (plDay q w)).1.length ≤ q.1.length + (r.length + 1)
    omega
theorem rPlan_mv {M N : pMem} {pl pl' b : Nat} {m m' : Int32} {W A W' A' : Nat → Int32} (h : rPlan M pl m W A b) (hm : m' = m) (h0 : N pl' 0 = M pl 0) (h1 : ∀ i, i < 24 → N (pl' + 1) i = M (pl + 1) i ∧ N (pl' + 2) i = M (pl + 2) i ∧ N (pl' + 3) i = M (pl + 3) i) (hw : ∀ i, i < 24 → W' (b + i) = W (b + i) ∧ A' (b + i) = A (b + i)) : rPlan N pl' m' W' A' b := by
  obtain ⟨l, l1, l2, l3, l4, l5⟩ := h
  refine ⟨l, l1, by rw [hm]; exact l2, fun i w hi => ?_, by rw [h0]; exact l4, fun i x hi => ?_⟩
  · have := (List.getElem?_eq_some_iff.mp hi).1
    rw [(hw i (by omega)).1, (hw i (by omega)).2]
    exact l3 i w hi
  · have a := (List.getElem?_eq_some_iff.mp hi).1
    have b := days_len (l := l) (q := ([], kI (-1)))
    have b : (l.foldl plDay ([], kI (-1))).1.length ≤ 0 + l.length := b
    have := h1 i (by omega)
    rw [this.1, this.2.1, this.2.2]
    exact l5 i x hi
theorem im_pl {k : Nat} (hk : k < 4) : imP (3 * k + 2) = (213, k) := (im_0 k hk).2.2
theorem im_w {i : Nat} (hi : i < 96) : imP (2 * i + 4268) = (214, i) ∧ imP (2 * i + 4269) = (215, i) := by
  have := im_4268 i hi
  rw [show 2 * i + 4268 = 4268 + 2 * i by omega, show 2 * i + 4269 = 4268 + 2 * i + 1 by omega]
  exact this
theorem im_bo {b : Nat} (hb : b < 24) : imP (4470 + 5 * b) = (226, b) := by
  have := (im_4467 b hb).2.2.2.1
  rw [show 4467 + 5 * b + 1 + 1 + 1 = 4470 + 5 * b by omega] at this
  exact this
theorem im_no {a j : Nat} (h : (a = 202 ∨ a = 203 ∨ a < 188) ∨ (a = 188 ∧ j = 24)) : (∀ i, i < 5163 → ¬ ((imP i).1 = a ∧ (imP i).2 = j)) ∧ (∀ i, i < 1122 → ¬ ((asP i).1 = a ∧ (asP i).2 = j)) := by
  have ck : (List.range 5163).all (fun i => !(Nat.beq (imP i).1 202 || (Nat.beq (imP i).1 203 || (Nat.blt (imP i).1 188 || (Nat.beq (imP i).1 188 && Nat.beq (imP i).2 24))))) = true := by decide +kernel
  have ck2 : (List.range 1122).all (fun i => !(Nat.beq (asP i).1 202 || (Nat.beq (asP i).1 203 || (Nat.blt (asP i).1 188 || (Nat.beq (asP i).1 188 && Nat.beq (asP i).2 24))))) = true := by decide +kernel
  have t : (Nat.beq a 202 || (Nat.beq a 203 || (Nat.blt a 188 || (Nat.beq a 188 && Nat.beq j 24)))) = true := by
    simp only [Bool.or_eq_true, Bool.and_eq_true, Nat.beq_eq, Nat.blt_eq]
    omega
  refine ⟨fun i hi e => ?_, fun i hi e => ?_⟩
  · have q := List.all_eq_true.mp ck i (List.mem_range.mpr hi)
    rw [e.1, e.2, t] at q
    cases q
  · have q := List.all_eq_true.mp ck2 i (List.mem_range.mpr hi)
    rw [e.1, e.2, t] at q
    cases q
theorem op_image {p1 v u : Int32} {M M1 M2 : pMem} (h : rA M) (h1 : D_28 p1 M v M1) (h2 : D_135 p1 M1 u M2) : v = u ∧ rA M2 := by
  obtain ⟨⟨t1, t2, t3, t4, t5, t6⟩, ⟨n1, n2, n3, n4, n5⟩, ⟨i1, i2, i3, i4, i5⟩, ⟨k1, k2⟩, p, r1, r2⟩ := h
  have z1 : p1 = kI 0 ∨ ¬ p1 = 0 := by
    by_cases e : p1 = 0
    · exact Or.inl e
    · exact Or.inr e
  rcases h1 with ⟨g, h1⟩ | ⟨g, _, Ma, h216, Mb, eb, hv, hM⟩
  · rcases h1 with ⟨g2, hv, hM⟩ | ⟨g2, _, Ma, h216, hv, hM⟩
    · -- no image
      subst hM
      obtain ⟨hu, hN⟩ := D_135_no h2 g (by rw [← k1]; exact g2)
      have o : ∀ a j, ¬ (a = 188 ∧ j = 0) → M2 a j = M1 a j := fun a j q => by
        rw [hN]
        by_cases e : a = 188
        · subst e
          exact aPut_at (fun q2 => q ⟨rfl, q2⟩)
        · exact aPut_cell e
      have f : pFr [(188, 0)] M1 M2 := fun a j _ _ q => by
        simp only [pOut_cons, pOut_nil, true_or, and_true] at q
        exact o a j (by omega)
      refine ⟨by rw [hv, hu]; exact g2, rA_fr f (by decide +kernel) ⟨⟨t1, t2, t3, t4, t5, t6⟩, ⟨n1, n2, n3, n4, n5⟩, ⟨i1, i2, i3, i4, i5⟩, ⟨k1, k2⟩, p, r1, r2⟩⟩
    · -- back to it
      subst hM
      obtain ⟨c1, _, _, _, c5, _, _, _, _, _, c10⟩ := D_216b_w h216
      have o1 : ∀ a j, (a < 18 ∨ 74 ≤ a) → M1 a j = M a j := fun a j ha => by rw [c10 a (by omega)]
      have tk : M 0 8 = kI 1 := k2.resolve_left g2
      obtain ⟨hu, d77, d1, d2, d3, d4⟩ := D_135_get h2 g (by rw [o1 188 77 (by omega), ← k1, tk]; decide) (fun b hb => by rw [o1 226 b (by omega), o1 229 _ (by omega)]; exact r2 b hb)
      have o2 : ∀ a j, imN a j → ((a = 202 ∨ a = 203 ∨ a < 188) ∨ (a = 188 ∧ j = 24)) → M2 a j = M1 a j := fun a j q q2 => d4 a j q (im_no q2).1 (im_no q2).2
      have o3 : ∀ a j, a < 188 → M2 a j = M1 a j := fun a j ha => o2 a j ⟨by omega, by omega, by omega⟩ (by omega)
      have e229 : ∀ j, M2 229 j = M 229 j := fun j => by rw [d3, o1 229 j (by omega)]
      refine ⟨by rw [hv, hu, o1 0 8 (by omega)]; exact tk, ⟨?_, fun i hi => ?_, ?_, ?_, fun i hi => ?_, fun j hj => ?_⟩, ⟨?_, ?_, ?_, ?_, ?_⟩, ⟨?_, ?_, ?_, ?_, ?_⟩, ⟨?_, ?_⟩, fun a ha => ?_, fun a ha => ?_, fun b hb => ⟨?_, ?_⟩⟩
      · rw [o3 1 0 (by omega), o1 1 0 (by omega), o2 188 24 ⟨by decide, by decide, by omega⟩ (by omega), o1 188 24 (by omega)]; exact t1
      · rw [o3 2 i (by omega), o1 2 i (by omega), o2 202 i ⟨by decide, by decide, by omega⟩ (by omega), o1 202 i (by omega)]; exact t2 i hi
      · rw [o3 1 0 (by omega), o1 1 0 (by omega)]; exact t3
      · rw [o3 1 0 (by omega), o1 1 0 (by omega)]; exact t4
      · rw [o2 202 i ⟨by decide, by decide, by omega⟩ (by omega), o1 202 i (by omega)]; exact t5 i hi
      · rw [o2 203 j ⟨by decide, by decide, by omega⟩ (by omega), o1 203 j (by omega)]; exact t6 j hj
      · rw [o3 19 0 (by omega), c1 0 (by omega)]
        have := d1 4460 (by decide)
        rw [o1 229 4460 (by omega)] at this
        exact i1.trans this.symm
      · rw [o3 19 4 (by omega), c1 4 (by omega)]
        have := d2 1 (by decide)
        rw [o1 229 _ (by omega)] at this
        exact i2.trans this.symm
      · rw [o3 19 5 (by omega), c1 5 (by omega)]
        have := d2 0 (by decide)
        rw [o1 229 _ (by omega)] at this
        exact i3.trans this.symm
      · rw [o3 19 0 (by omega), c1 0 (by omega)]; exact i4
      · rw [o3 19 4 (by omega), c1 4 (by omega)]; exact i5
      · rw [o3 75 0 (by omega), o1 75 0 (by omega), e229]; exact i1
      · rw [o3 75 4 (by omega), o1 75 4 (by omega), e229]; exact i2
      · rw [o3 75 5 (by omega), o1 75 5 (by omega), e229]; exact i3
      · rw [o3 75 0 (by omega), o1 75 0 (by omega)]; exact i4
      · rw [o3 75 4 (by omega), o1 75 4 (by omega)]; exact i5
      · rw [o3 0 8 (by omega), o1 0 8 (by omega), d77]; exact tk
      · rw [o3 0 8 (by omega), o1 0 8 (by omega)]; exact k2
      · obtain ⟨_, _, _, w1, w2⟩ := c5 a ha
        refine rPlan_mv (r1 a ha) ?_ ?_ (fun i hi => ?_) (fun i hi => ?_)
        · have := d1 (3 * a + 2) (by omega)
          rw [im_pl ha, o1 229 _ (by omega)] at this
          exact this
        · rw [o3 _ 0 (by omega)]; exact w1
        · rw [o3 _ i (by omega), o3 _ i (by omega), o3 _ i (by omega)]
          have := w2 i hi
          rw [show 18 + 20 + 11 * a = 37 + 11 * a + 1 by omega, show 18 + 21 + 11 * a = 37 + 11 * a + 2 by omega, show 18 + 22 + 11 * a = 37 + 11 * a + 3 by omega, show 74 + 20 + 11 * a = 93 + 11 * a + 1 by omega, show 74 + 21 + 11 * a = 93 + 11 * a + 2 by omega, show 74 + 22 + 11 * a = 93 + 11 * a + 3 by omega] at this
          exact this
        · have x1 := d1 (2 * (24 * a + i) + 4268) (by omega)
          have x2 := d1 (2 * (24 * a + i) + 4269) (by omega)
          rw [(im_w (i := 24 * a + i) (by omega)).1, o1 229 _ (by omega)] at x1
          rw [(im_w (i := 24 * a + i) (by omega)).2, o1 229 _ (by omega)] at x2
          exact ⟨x1, x2⟩
      · refine rPlan_eq (r1 a ha) (e229 _) (by rw [o3 _ _ (by omega), o1 _ _ (by omega)]) (fun i => ⟨by rw [o3 _ _ (by omega), o1 _ _ (by omega)], by rw [o3 _ _ (by omega), o1 _ _ (by omega)], by rw [o3 _ _ (by omega), o1 _ _ (by omega)]⟩) (fun i _ => ⟨e229 _, e229 _⟩)
      · have := d1 (4470 + 5 * b) (by omega)
        rw [im_bo hb, o1 229 _ (by omega)] at this
        have q : M2 226 b = M 229 (4470 + 5 * b) := this
        rw [q]
        exact (r2 b hb).2
      · rw [e229]; exact (r2 b hb).2
  · -- it is taken
    subst hM
    obtain ⟨c1, _, _, _, c5, _, _, _, _, _, c10⟩ := D_216t_w h216
    have o1 : ∀ a j, (a < 74 ∨ 130 ≤ a) → ¬ (a = 0 ∧ j = 8) → M1 a j = M a j := fun a j ha q => by
      rw [eb]
      by_cases e : a = 0
      · subst e
        rw [aPut_at (fun q2 => q ⟨rfl, q2⟩), c10 0 (by omega)]
      · rw [aPut_cell e, c10 a (by omega)]
    have ot : ∀ a j, (74 ≤ a ∧ a < 130) → M1 a j = Ma a j := fun a j ha => by rw [eb, aPut_cell (by omega)]
    obtain ⟨hu, d77, d1, d2, d3⟩ := D_135_put h2 g (fun b hb => by rw [o1 226 b (by omega) (by omega)]; exact (r2 b hb).1)
    have o3 : ∀ a j, a < 188 → M2 a j = M1 a j := fun a j ha => d3 a j ⟨by omega, by omega, by omega⟩
    have t08 : M1 0 8 = kI 1 := by rw [eb, aPut_same]
    refine ⟨by rw [hv, hu]; exact t08, ⟨?_, fun i hi => ?_, ?_, ?_, fun i hi => ?_, fun j hj => ?_⟩, ⟨?_, ?_, ?_, ?_, ?_⟩, ⟨?_, ?_, ?_, ?_, ?_⟩, ⟨?_, ?_⟩, fun a ha => ?_, fun a ha => ?_, fun b hb => ⟨?_, ?_⟩⟩
    · rw [o3 1 0 (by omega), o1 1 0 (by omega) (by omega), d3 188 24 ⟨by decide, by decide, by omega⟩, o1 188 24 (by omega) (by omega)]; exact t1
    · rw [o3 2 i (by omega), o1 2 i (by omega) (by omega), d3 202 i ⟨by decide, by decide, by omega⟩, o1 202 i (by omega) (by omega)]; exact t2 i hi
    · rw [o3 1 0 (by omega), o1 1 0 (by omega) (by omega)]; exact t3
    · rw [o3 1 0 (by omega), o1 1 0 (by omega) (by omega)]; exact t4
    · rw [d3 202 i ⟨by decide, by decide, by omega⟩, o1 202 i (by omega) (by omega)]; exact t5 i hi
    · rw [d3 203 j ⟨by decide, by decide, by omega⟩, o1 203 j (by omega) (by omega)]; exact t6 j hj
    · rw [o3 19 0 (by omega), o1 19 0 (by omega) (by omega), d3 188 2 ⟨by decide, by decide, by omega⟩, o1 188 2 (by omega) (by omega)]; exact n1
    · rw [o3 19 4 (by omega), o1 19 4 (by omega) (by omega), d3 188 3 ⟨by decide, by decide, by omega⟩, o1 188 3 (by omega) (by omega)]; exact n2
    · rw [o3 19 5 (by omega), o1 19 5 (by omega) (by omega), d3 188 1 ⟨by decide, by decide, by omega⟩, o1 188 1 (by omega) (by omega)]; exact n3
    · rw [o3 19 0 (by omega), o1 19 0 (by omega) (by omega)]; exact n4
    · rw [o3 19 4 (by omega), o1 19 4 (by omega) (by omega)]; exact n5
    · have := d1 4460 (by decide)
      rw [o3 75 0 (by omega), ot 75 0 (by omega), c1 0 (by omega), this]
      exact n1.trans (o1 188 2 (by omega) (by omega)).symm
    · have := d2 1 (by decide)
      rw [o3 75 4 (by omega), ot 75 4 (by omega), c1 4 (by omega), this]
      exact n2.trans (o1 188 3 (by omega) (by omega)).symm
    · have := d2 0 (by decide)
      rw [o3 75 5 (by omega), ot 75 5 (by omega), c1 5 (by omega), this]
      exact n3.trans (o1 188 1 (by omega) (by omega)).symm
    · rw [o3 75 0 (by omega), ot 75 0 (by omega), c1 0 (by omega)]; exact n4
    · rw [o3 75 4 (by omega), ot 75 4 (by omega), c1 4 (by omega)]; exact n5
    · rw [o3 0 8 (by omega), t08, d77]
    · rw [o3 0 8 (by omega), t08]; exact Or.inr rfl
    · have rr : ∀ b j, (b = 213 ∨ b = 214 ∨ b = 215) → M2 b j = M b j := fun b j hb => by rw [d3 b j ⟨by omega, by omega, by omega⟩, o1 b j (by omega) (by omega)]
      exact rPlan_eq (p a ha) (rr 213 a (by omega)) (by rw [o3 _ _ (by omega), o1 _ _ (by omega) (by omega)]) (fun i => ⟨by rw [o3 _ _ (by omega), o1 _ _ (by omega) (by omega)], by rw [o3 _ _ (by omega), o1 _ _ (by omega) (by omega)], by rw [o3 _ _ (by omega), o1 _ _ (by omega) (by omega)]⟩) (fun i _ => ⟨rr 214 _ (by omega), rr 215 _ (by omega)⟩)
    · obtain ⟨_, _, _, w1, w2⟩ := c5 a ha
      refine rPlan_mv (p a ha) ?_ ?_ (fun i hi => ?_) (fun i hi => ?_)
      · rw [d1 (3 * a + 2) (by omega), im_pl ha]
        exact o1 213 a (by omega) (by omega)
      · rw [o3 _ 0 (by omega), ot _ 0 (by omega)]; exact w1
      · rw [o3 _ i (by omega), o3 _ i (by omega), o3 _ i (by omega), ot _ i (by omega), ot _ i (by omega), ot _ i (by omega)]
        have := w2 i hi
        rw [show 18 + 20 + 11 * a = 37 + 11 * a + 1 by omega, show 18 + 21 + 11 * a = 37 + 11 * a + 2 by omega, show 18 + 22 + 11 * a = 37 + 11 * a + 3 by omega, show 74 + 20 + 11 * a = 93 + 11 * a + 1 by omega, show 74 + 21 + 11 * a = 93 + 11 * a + 2 by omega, show 74 + 22 + 11 * a = 93 + 11 * a + 3 by omega] at this
        exact this
      · show M2 229 (2 * (24 * a + i) + 4268) = _ ∧ M2 229 (2 * (24 * a + i) + 4269) = _
        rw [d1 _ (by omega), d1 _ (by omega), (im_w (i := 24 * a + i) (by omega)).1, (im_w (i := 24 * a + i) (by omega)).2]
        exact ⟨o1 214 _ (by omega) (by omega), o1 215 _ (by omega) (by omega)⟩
    · rw [d3 226 b ⟨by decide, by decide, by omega⟩, o1 226 b (by omega) (by omega)]; exact (r2 b hb).1
    · rw [d1 (4470 + 5 * b) (by omega), im_bo hb]
      show bo (M1 226 b)
      rw [o1 226 b (by omega) (by omega)]
      exact (r2 b hb).1
/-! orders: woods of their own -/
def fQ (M N : pMem) : Prop := ∀ a j, a < 230 → pScr a j = false → (a < 138 ∨ 173 ≤ a) → N a j = M a j
theorem fQ_rfl {M : pMem} : fQ M M := fun _ _ _ _ _ => rfl
theorem fQ_tr {M X N : pMem} (h : fQ M X) (g : fQ X N) : fQ M N := fun a j h1 h2 h3 => (g a j h1 h2 h3).trans (h a j h1 h2 h3)
theorem fQ_fr {M X N : pMem} {L : List (Nat × Nat)} (h : fQ M X) (f : pFr L X N) (k : ∀ a j, (a < 138 ∨ 173 ≤ a) → pOut L a j = true) : fQ M N := fun a j h1 h2 h3 => (f a j h1 h2 (k a j h3)).trans (h a j h1 h2 h3)
theorem fQ_put {M X : pMem} {b j : Nat} {x : Int32} (h : fQ M X) (hb : 138 ≤ b ∧ b < 173) : fQ M (aPut X b j x) := fun a i h1 h2 h3 => by
  rw [aPut_cell (by omega)]
  exact h a i h1 h2 h3
theorem rA_fQ {M N : pMem} (f : fQ M N) (h : rA M) : rA N := by
  have f' : pFr ((List.range 35).map fun i => (138 + i, 999)) M N := fun a j h1 h2 h3 => f a j h1 h2 (by
    apply Classical.byContradiction
    intro q
    have := List.all_eq_true.mp h3 (138 + (a - 138), 999) (List.mem_map.mpr ⟨a - 138, List.mem_range.mpr (by omega), rfl⟩)
    rw [show 138 + (a - 138) = a by omega] at this
    simp only [Nat.beq_refl, Bool.true_or, Bool.and_self, Bool.not_true, Bool.false_eq_true] at this)
  exact rA_fr f' (by decide +kernel) h
theorem D_213_q {l : Nat} (hl : pK 2 l = true) {p3 p4 : Int32} {M0 : pMem} {v : Unit} {N : pMem} (h : D_213 l p3 p4 M0 v N) : fQ M0 N := by
  refine h (fun l p3 p4 M v N => pK 2 l = true → fQ M N, fun l p3 p4 x5 M v N => pK 2 l = true → fQ M N) ⟨?_, ?_⟩ hl
  · intro l p3 p4 M v N hs hl
    have leaf : (tGd (pIn p3 6) <| tCall (D_230 (143 + 5 * ix p3) M) fun v1 M1 => tCall (D_214 v1 M1) fun _ M2 => tRet () M2) v N → fQ M N := by
      rintro ⟨g, v1, M1, h1, _, M2, h2, _, hN⟩
      rw [hN]
      have w := pArK (show pAr 139 6 143 5 10 = true by decide +kernel) (by decide) g
      exact fQ_fr (fQ_fr fQ_rfl (F_230 w h1) (fun a j q => by simp only [l_230, pOut_nil])) (F_214 h2) (fun a j q => by simp only [l_214, pOut_cons, pOut_nil, true_or, and_true]; omega)
    rcases hs with ⟨_, hs⟩ | ⟨_, hs⟩
    · exact leaf hs
    · rcases hs with ⟨_, hs⟩ | ⟨_, hs⟩
      · exact hs hl
      · exact leaf hs
  · intro l p3 p4 x5 M v N hs hl
    rcases hs with ⟨_, _, hN⟩ | ⟨_, hs⟩
    · rw [hN]; exact fQ_rfl
    · rcases hs with ⟨_, hs⟩ | ⟨_, g1, g2, _, M1, h220, _, hs⟩
      · exact hs hl
      · have w1 := pArK (show pAr 139 6 143 5 10 = true by decide +kernel) (by decide) g1
        have w2 := pArK (show pAr 139 6 143 5 10 = true by decide +kernel) (by decide) g2
        have i1 := (ix_in g1).2
        have q1 : fQ M M1 := fQ_fr fQ_rfl (F_220 w1 w2 h220) (fun a j q => by simp only [l_220, pOut_cons, pOut_nil, true_or, and_true]; generalize ix (p3 + kI 1) = i at i1; omega)
        have day : ∀ {a b c v2 : Int32} {M2 : pMem}, D_138 (143 + 5 * ix (p3 + (kI 1))) l a b c M1 v2 M2 → fQ M M2 := fun h138 => fQ_fr q1 (F_138 w1 hl h138) (fun a j q => by simp only [l_138, pOut_cons, pOut_nil, true_or, and_true]; generalize ix (p3 + kI 1) = i at i1; omega)
        rcases hs with ⟨_, _, M2, e2, _, M3, hE, hs⟩ | ⟨_, hs⟩
        · have q2 : fQ M M2 := by rw [e2]; exact fQ_put q1 (by omega)
          exact fQ_tr (fQ_tr q2 (hE hl)) (hs hl)
        · rcases hs with ⟨_, v2, M2, h138, _, M3, e3, _, M4, hE, hs⟩ | ⟨_, v2, M2, h138, _, M3, e3, _, M4, hE, hs⟩
          · have q2 : fQ M M3 := by rw [e3]; exact fQ_put (day h138) (by omega)
            exact fQ_tr (fQ_tr q2 (hE hl)) (hs hl)
          · have q2 : fQ M M3 := by rw [e3]; exact fQ_put (day h138) (by omega)
            exact fQ_tr (fQ_tr q2 (hE hl)) (hs hl)
theorem D_21_q {p1 p2 p3 v : Int32} {M N : pMem} (h : D_21 p1 p2 p3 M v N) : fQ M N := by
  rcases h with ⟨_, _, hN⟩ | ⟨_, h⟩
  · rw [hN]; exact fQ_rfl
  · rcases h with ⟨_, _, hN⟩ | ⟨_, h⟩
    · rw [hN]; exact fQ_rfl
    · rcases h with ⟨_, _, hN⟩ | ⟨_, h⟩
      · rw [hN]; exact fQ_rfl
      · rcases h with ⟨_, _, M1, h211, g1, _, M2, ha, _, M3, h212, g2, _, M4, hb, h⟩ | ⟨_, _, hN⟩
        · have q1 : fQ M M1 := fQ_fr fQ_rfl (F_211 h211) (fun a j q => by simp only [l_211, pOut_cons, pOut_nil, true_or, and_true]; omega)
          have q2 := fQ_tr q1 (D_213_q (pArK (show pAr 24 4 30 11 2 = true by decide +kernel) (by decide) g1) ha)
          have q3 := fQ_fr q2 (F_212 h212) (fun a j q => by simp only [l_212, pOut_cons, pOut_nil, true_or, and_true]; omega)
          have q4 := fQ_tr q3 (D_213_q (pArK (show pAr 24 4 30 11 2 = true by decide +kernel) (by decide) g2) hb)
          rcases h with ⟨_, _, _, hN⟩ | ⟨_, _, hN⟩
          · rw [hN]; exact q4
          · rw [hN]; exact q4
        · rw [hN]; exact fQ_rfl
theorem op_parts {p1 p2 p3 v u : Int32} {M M1 M2 : pMem} (h : rA M) (h1 : D_21 p1 p2 p3 M v M1) (h2 : D_116 p1 p2 p3 M1 u M2) : rA M2 := by
  have f0 : pFr [] M1 M1 := pFr_refl
  exact op_think (rA_fQ (D_21_q h1) h) f0 (F_116 h2) (by decide +kernel) (by decide +kernel) (D_116_s h2)
/-! woods: both count the same ways -/
def wI (n : Int32) : Nat → Int64 × Int64
  | 0 => (Int64.ofNat 0, Int64.ofNat 1)
  | i + 1 => ((wI n i).1 + (wI n i).2, ((wI n i).2 * Int32.toInt64 (n - kI i)) / Int32.toInt64 (kI i + kI 1))
theorem wI_rg : ∀ n, n < 61 → ∀ k, k < 10 → 0 ≤ (wI (kI (n : Nat)) (k + 1)).1.toInt ∧ (wI (kI (n : Nat)) (k + 1)).1.toInt ≤ 1000000000000 := by decide +kernel
theorem w_pow : ∀ n, n < 61 → ((Int64.ofNat 1) <<< (Int32.toInt64 (kI (n : Nat)) &&& 63)).toInt = (2 : Int) ^ n ∧ (((Int64.ofNat 1) <<< (Int32.toInt64 (kI (n : Nat)) &&& 63)) - (Int64.ofNat 1)).toInt = (2 : Int) ^ n - 1 ∧ (2 : Int) ^ n ≤ 1152921504606846976 ∧ (1 : Int) ≤ (2 : Int) ^ n := by decide +kernel
theorem lg_t (a b : Int64) : lg_cmp a b = if b.toInt < a.toInt then 1 else if a.toInt = b.toInt then 0 else -1 := by
  unfold lg_cmp
  simp only [gt_iff_lt, Int64.lt_iff_toInt_lt, ← Int64.toInt_inj]
theorem lg_0 {a b : Int64} : 0 ≤ lg_cmp a b ↔ b.toInt ≤ a.toInt := by
  rw [lg_t]
  by_cases h1 : b.toInt < a.toInt
  · rw [if_pos h1]
    exact ⟨fun _ => by omega, fun _ => by decide⟩
  · rw [if_neg h1]
    by_cases h2 : a.toInt = b.toInt
    · rw [if_pos h2]
      exact ⟨fun _ => by omega, fun _ => by decide⟩
    · rw [if_neg h2]
      exact ⟨fun q => absurd q (by decide), fun q => absurd q (by omega)⟩
theorem lg_1 {a b : Int64} : 0 < lg_cmp a b ↔ b.toInt < a.toInt := by
  rw [lg_t]
  by_cases h1 : b.toInt < a.toInt
  · rw [if_pos h1]
    exact ⟨fun _ => h1, fun _ => by decide⟩
  · rw [if_neg h1]
    by_cases h2 : a.toInt = b.toInt
    · rw [if_pos h2]
      exact ⟨fun q => absurd q (by decide), fun q => absurd q h1⟩
    · rw [if_neg h2]
      exact ⟨fun q => absurd q (by decide), fun q => absurd q h1⟩
/-- the same sign to stop -/
theorem w_stop {n k : Nat} (hn : n < 61) (hk : k < 10) {m : Int32} (h1 : 2 ≤ m.toInt) (h2 : m.toInt ≤ 100000) :
    (0 ≤ lg_cmp ((wI (kI (n : Nat)) (k + 1)).1 * Int32.toInt64 m) ((Int64.ofNat 1) <<< (Int32.toInt64 (kI (n : Nat)) &&& 63))) ↔ 0 < lg_cmp (wI (kI (n : Nat)) (k + 1)).1 ((((Int64.ofNat 1) <<< (Int32.toInt64 (kI (n : Nat)) &&& 63)) - (Int64.ofNat 1)) / Int32.toInt64 m) := by
  obtain ⟨c1, c2⟩ := wI_rg n hn k hk
  obtain ⟨p1, p2, p3, p4⟩ := w_pow n hn
  rw [lg_0, lg_1, Int64.toInt_mul, Int64.toInt_div, p1, p2, Int32.toInt_toInt64]
  generalize (wI (kI (n : Nat)) (k + 1)).1.toInt = c at *
  generalize (2 : Int) ^ n = P at *
  generalize m.toInt = d at *
  have d0 : 0 < d := by omega
  have cm1 : 0 ≤ c * d := Int.mul_nonneg c1 (by omega)
  have cm2 : c * d ≤ 1000000000000 * 100000 := Int.mul_le_mul c2 h2 (by omega) (by decide)
  have q1 : 0 ≤ (P - 1) / d := Int.ediv_nonneg (by omega) (by omega)
  have q2 : (P - 1) / d ≤ P - 1 := Int.ediv_le_self _ (by omega)
  have e1 : (c * d).bmod (2 ^ 64) = c * d := Int.bmod_eq_of_le (by omega) (by omega)
  have e2 : (P - 1).tdiv d = (P - 1) / d := Int.tdiv_eq_ediv_of_nonneg (by omega)
  have e3 : ((P - 1) / d).bmod (2 ^ 64) = (P - 1) / d := Int.bmod_eq_of_le (by omega) (by omega)
  rw [e1, e2, e3, Int.ediv_lt_iff_lt_mul d0]
  omega
theorem D_40_w {n k : Nat} (hn : n < 61) (hk : k < 10) {p0 p1 : Int32} (h0 : p0 = kI n) (h1 : p1 = kI k) {M : pMem} {v : Int64} {N : pMem} (h : D_40 p0 p1 M v N) : v = (wI (kI n) (k + 1)).1 ∧ N = M := by
  refine h (fun a c x M' v N => M' = M → ∀ i : Nat, x = kI i → i ≤ k + 1 → (a, c) = wI (kI n) i → v = (wI (kI n) (k + 1)).1 ∧ N = M) ?_ rfl 0 rfl (by omega) rfl
  intro a c x M' v N hs hM i hx hi hac
  have xt : x.toInt = i := by rw [hx, kI_toInt (by omega) (by omega)]
  have kt : p1.toInt = k := by rw [h1, kI_toInt (by omega) (by omega)]
  have ea : a = (wI (kI n) i).1 := congrArg Prod.fst hac
  have ec : c = (wI (kI n) i).2 := congrArg Prod.snd hac
  rcases hs with ⟨g, hv, hN⟩ | ⟨g, _, hs⟩
  · rw [i_lt, xt, kt] at g
    rw [hv, hN, ea, show i = k + 1 by omega]
    exact ⟨rfl, hM⟩
  · rw [i_lt, xt, kt] at g
    refine hs hM (i + 1) ?_ (by omega) ?_
    · exact kI_inj (by rw [i_add1 (by omega), xt]; omega)
    · rw [h0, hx, ea, ec]
      rfl
theorem op_woods {p1 p2 v u : Int32} {M M1 M2 : pMem} (h : rA M) (h1 : D_27 p1 p2 M v M1) (h2 : D_131 p1 p2 M1 u M2) : v = u ∧ rA M2 := by
  refine ⟨?_, op_frame h (F_27 h1) (F_131 h2) (by decide +kernel) (by decide +kernel)⟩
  obtain ⟨Ma, _, h2⟩ := h2
  have q1 : ¬ f_42 p1 (kI 0) (kI 9) = 0 ↔ 0 ≤ p1.toInt ∧ p1.toInt ≤ 9 := by rw [f_42_iff, i_le, i_le, kI0, kI_toInt (by decide) (by decide)]
  have q2 : ¬ f_42 p2 (kI 2) (kI 100000) = 0 ↔ 2 ≤ p2.toInt ∧ p2.toInt ≤ 100000 := by rw [f_42_iff, i_le, i_le, kI_toInt (by decide) (by decide), kI_toInt (by decide) (by decide)]
  have a1 : p1 < 0 ↔ p1.toInt < 0 := by rw [i_lt, i_0]
  have a2 : kI 9 < p1 ↔ 9 < p1.toInt := by rw [i_lt, kI_toInt (by decide) (by decide)]
  have a3 : p2 < kI 2 ↔ p2.toInt < 2 := by rw [i_lt, kI_toInt (by decide) (by decide)]
  have a4 : p2 ≤ kI 100000 ↔ p2.toInt ≤ 100000 := by rw [i_le, kI_toInt (by decide) (by decide)]
  by_cases c : (0 ≤ p1.toInt ∧ p1.toInt ≤ 9) ∧ 2 ≤ p2.toInt ∧ p2.toInt ≤ 100000
  · obtain ⟨c1, c2⟩ := c
    have h1 := tIf_n (fun q => by have := a1.mp q; omega) h1
    have h1 := tIf_n (fun q => by have := a2.mp q; omega) h1
    have h1 := tIf_n (fun q => by have := a3.mp q; omega) h1
    have h1 := tIf_p (a4.mpr c2.2) h1
    have h2 := tIf_n (q1.mpr c1) h2
    have h2 := tIf_p (q2.mpr c2) h2
    obtain ⟨k, hk⟩ : ∃ k : Nat, p1.toInt = k := ⟨p1.toInt.toNat, by omega⟩
    have ek : p1 = kI k := kI_inj hk
    -- where it stops, of those from n on
    have A : ∀ {x : Int32} {M : pMem} {v : Int32} {N : pMem}, L_27_6 p1 p2 x M v N → ∀ n : Nat, x = kI n → 1 ≤ n → n ≤ 61 → (v = kI (-1) ∧ ∀ i : Nat, n ≤ i → i < 61 → 0 ≤ lg_cmp ((wI (kI i) (k + 1)).1 * Int32.toInt64 p2) ((Int64.ofNat 1) <<< (Int32.toInt64 (kI i) &&& 63))) ∨
        ∃ j : Nat, n ≤ j ∧ j < 61 ∧ v = kI j ∧ (¬ 0 ≤ lg_cmp ((wI (kI j) (k + 1)).1 * Int32.toInt64 p2) ((Int64.ofNat 1) <<< (Int32.toInt64 (kI j) &&& 63))) ∧ ∀ i : Nat, n ≤ i → i < j → 0 ≤ lg_cmp ((wI (kI i) (k + 1)).1 * Int32.toInt64 p2) ((Int64.ofNat 1) <<< (Int32.toInt64 (kI i) &&& 63)) := by
      intro x M v N h
      refine h (fun x M v N => ∀ n : Nat, x = kI n → 1 ≤ n → n ≤ 61 → (v = kI (-1) ∧ ∀ i : Nat, n ≤ i → i < 61 → 0 ≤ lg_cmp ((wI (kI i) (k + 1)).1 * Int32.toInt64 p2) ((Int64.ofNat 1) <<< (Int32.toInt64 (kI i) &&& 63))) ∨
        ∃ j : Nat, n ≤ j ∧ j < 61 ∧ v = kI j ∧ (¬ 0 ≤ lg_cmp ((wI (kI j) (k + 1)).1 * Int32.toInt64 p2) ((Int64.ofNat 1) <<< (Int32.toInt64 (kI j) &&& 63))) ∧ ∀ i : Nat, n ≤ i → i < j → 0 ≤ lg_cmp ((wI (kI i) (k + 1)).1 * Int32.toInt64 p2) ((Int64.ofNat 1) <<< (Int32.toInt64 (kI i) &&& 63))) ?_
      intro x M v N hs n hx h1 h2
      have xt : x.toInt = n := by rw [hx, kI_toInt (by omega) (by omega)]
      rcases hs with ⟨g, hv, _⟩ | ⟨g, v1, M1, h40, hs⟩
      · rw [i_lt, xt, kI_toInt (by decide) (by decide)] at g
        exact Or.inl ⟨hv, fun i hi hi2 => absurd hi2 (by omega)⟩
      · rw [i_lt, xt, kI_toInt (by decide) (by decide)] at g
        obtain ⟨ev, _⟩ := D_40_w (n := n) (k := k) (by omega) (by omega) hx ek h40
        rw [ev, hx] at hs
        rcases hs with ⟨g2, hs⟩ | ⟨g2, hv, _⟩
        · rcases hs (n + 1) (kI_inj (by rw [← hx, i_add1 (by omega), xt]; omega)) (by omega) (by omega) with ⟨e1, e2⟩ | ⟨j, j1, j2, j3, j4, j5⟩
          · refine Or.inl ⟨e1, fun i hi hi2 => ?_⟩
            by_cases e : i = n
            · rw [e]; exact g2
            · exact e2 i (by omega) hi2
          · refine Or.inr ⟨j, by omega, j2, j3, j4, fun i hi hi2 => ?_⟩
            by_cases e : i = n
            · rw [e]; exact g2
            · exact j5 i (by omega) hi2
        · exact Or.inr ⟨n, Nat.le_refl _, by omega, hv, g2, fun i hi hi2 => absurd hi2 (by omega)⟩
    have B : ∀ {x : Int32} {M : pMem} {v : Int32} {N : pMem}, L_131_4 p1 p2 x M v N → ∀ n : Nat, x = kI n → 1 ≤ n → n ≤ 61 → (v = kI (-1) ∧ ∀ i : Nat, n ≤ i → i < 61 → 0 ≤ lg_cmp ((wI (kI i) (k + 1)).1 * Int32.toInt64 p2) ((Int64.ofNat 1) <<< (Int32.toInt64 (kI i) &&& 63))) ∨
        ∃ j : Nat, n ≤ j ∧ j < 61 ∧ v = kI j ∧ (¬ 0 ≤ lg_cmp ((wI (kI j) (k + 1)).1 * Int32.toInt64 p2) ((Int64.ofNat 1) <<< (Int32.toInt64 (kI j) &&& 63))) ∧ ∀ i : Nat, n ≤ i → i < j → 0 ≤ lg_cmp ((wI (kI i) (k + 1)).1 * Int32.toInt64 p2) ((Int64.ofNat 1) <<< (Int32.toInt64 (kI i) &&& 63)) := by
      intro x M v N h
      refine h (fun x M v N => ∀ n : Nat, x = kI n → 1 ≤ n → n ≤ 61 → (v = kI (-1) ∧ ∀ i : Nat, n ≤ i → i < 61 → 0 ≤ lg_cmp ((wI (kI i) (k + 1)).1 * Int32.toInt64 p2) ((Int64.ofNat 1) <<< (Int32.toInt64 (kI i) &&& 63))) ∨
        ∃ j : Nat, n ≤ j ∧ j < 61 ∧ v = kI j ∧ (¬ 0 ≤ lg_cmp ((wI (kI j) (k + 1)).1 * Int32.toInt64 p2) ((Int64.ofNat 1) <<< (Int32.toInt64 (kI j) &&& 63))) ∧ ∀ i : Nat, n ≤ i → i < j → 0 ≤ lg_cmp ((wI (kI i) (k + 1)).1 * Int32.toInt64 p2) ((Int64.ofNat 1) <<< (Int32.toInt64 (kI i) &&& 63)),
        fun x a c y M v N => ∀ n i : Nat, x = kI n → 1 ≤ n → n < 61 → y = kI i → i ≤ k + 1 → (a, c) = wI (kI n) i → (v = kI (-1) ∧ ∀ i : Nat, n ≤ i → i < 61 → 0 ≤ lg_cmp ((wI (kI i) (k + 1)).1 * Int32.toInt64 p2) ((Int64.ofNat 1) <<< (Int32.toInt64 (kI i) &&& 63))) ∨
        ∃ j : Nat, n ≤ j ∧ j < 61 ∧ v = kI j ∧ (¬ 0 ≤ lg_cmp ((wI (kI j) (k + 1)).1 * Int32.toInt64 p2) ((Int64.ofNat 1) <<< (Int32.toInt64 (kI j) &&& 63))) ∧ ∀ i : Nat, n ≤ i → i < j → 0 ≤ lg_cmp ((wI (kI i) (k + 1)).1 * Int32.toInt64 p2) ((Int64.ofNat 1) <<< (Int32.toInt64 (kI i) &&& 63))) ⟨?_, ?_⟩
      · intro x M v N hs n hx h1 h2
        have xt : x.toInt = n := by rw [hx, kI_toInt (by omega) (by omega)]
        rcases hs with ⟨g, hv, _⟩ | ⟨g, hs⟩
        · rw [i_lt, xt, kI_toInt (by decide) (by decide)] at g
          exact Or.inl ⟨hv, fun i hi hi2 => absurd hi2 (by omega)⟩
        · rw [i_lt, xt, kI_toInt (by decide) (by decide)] at g
          exact hs n 0 hx h1 (by omega) rfl (by omega) rfl
      · intro x a c' y M v N hs n i hx h1 h2 hy hi hac
        have xt : x.toInt = n := by rw [hx, kI_toInt (by omega) (by omega)]
        have yt : y.toInt = i := by rw [hy, kI_toInt (by omega) (by omega)]
        have ea : a = (wI (kI n) i).1 := congrArg Prod.fst hac
        have ec : c' = (wI (kI n) i).2 := congrArg Prod.snd hac
        rcases hs with ⟨g, _, hs⟩ | ⟨g, _, hs⟩
        · rw [i_lt, yt, hk] at g
          have eik : i = k + 1 := by omega
          rw [ea, eik, hx] at hs
          have st := w_stop (n := n) (k := k) h2 (by omega) c2.1 c2.2
          rcases hs with ⟨g2, hs⟩ | ⟨g2, hv, _⟩
          · have g2 := st.mpr g2
            rcases hs (n + 1) (kI_inj (by rw [← hx, i_add1 (by omega), xt]; omega)) (by omega) (by omega) with ⟨e1, e2⟩ | ⟨j, j1, j2, j3, j4, j5⟩
            · refine Or.inl ⟨e1, fun i hi hi2 => ?_⟩
              by_cases e : i = n
              · rw [e]; exact g2
              · exact e2 i (by omega) hi2
            · refine Or.inr ⟨j, by omega, j2, j3, j4, fun i hi hi2 => ?_⟩
              by_cases e : i = n
              · rw [e]; exact g2
              · exact j5 i (by omega) hi2
          · exact Or.inr ⟨n, Nat.le_refl _, h2, hv, fun q => g2 (st.mp q), fun i hi hi2 => absurd hi2 (by omega)⟩
        · rw [i_lt, yt, hk] at g
          refine hs n (i + 1) hx h1 h2 (kI_inj (by rw [i_add1 (by omega), yt]; omega)) (by omega) ?_
          rw [hx, hy, ea, ec]
          rfl
    rcases A h1 1 rfl (by omega) (by omega) with ⟨a1, a2⟩ | ⟨j, j1, j2, j3, j4, j5⟩
    · rcases B h2 1 rfl (by omega) (by omega) with ⟨b1, b2⟩ | ⟨i, i1, i2, i3, i4, i5⟩
      · rw [a1, b1]
      · exact absurd (a2 i i1 i2) i4
    · rcases B h2 1 rfl (by omega) (by omega) with ⟨b1, b2⟩ | ⟨i, i1, i2, i3, i4, i5⟩
      · exact absurd (b2 j j1 j2) j4
      · have e : i = j := by
          apply Classical.byContradiction
          intro q
          by_cases l : i < j
          · exact i4 (j5 i i1 l)
          · exact j4 (i5 j j1 (by omega))
        rw [j3, i3, e]
  · have hv : v = kI (-1) := by
      rcases h1 with ⟨_, hv, _⟩ | ⟨g1, h1⟩
      · exact hv
      · rcases h1 with ⟨_, hv, _⟩ | ⟨g2, h1⟩
        · exact hv
        · rcases h1 with ⟨_, hv, _⟩ | ⟨g3, h1⟩
          · exact hv
          · rcases h1 with ⟨g4, _⟩ | ⟨_, hv, _⟩
            · rw [a1] at g1
              rw [a2] at g2
              rw [a3] at g3
              rw [a4] at g4
              exact absurd ⟨⟨by omega, by omega⟩, by omega, g4⟩ c
            · exact hv
    have hu : u = kI (-1) := by
      rcases h2 with ⟨_, hu, _⟩ | ⟨g1, h2⟩
      · exact hu
      · rcases h2 with ⟨g2, _⟩ | ⟨_, hu, _⟩
        · exact absurd ⟨q1.mp g1, q2.mp g2⟩ c
        · exact hu
    rw [hv, hu]
