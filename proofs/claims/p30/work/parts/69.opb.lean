/-! the image, the orders -/
theorem days_len : ∀ {l : List (Int32 × Int32)} {q : List (Int32 × Int32 × Int32) × Int32}, (l.foldl plDay q).1.length ≤ q.1.length + l.length
  | [], _ => Nat.le_refl _
  | w :: r, q => by
    have a := days_len (l := r) (q := plDay q w)
    have b := plDay_len (q := q) (w := w)
    show (r.foldl plDay (plDay q w)).1.length ≤ q.1.length + (r.length + 1)
    omega
theorem rPlan_mv {M N : pMem} {pl pl' b : Nat} {m m' : Int32} {W A W' A' : Nat → Int32} (h : rPlan M pl m W A b) (hm : m' = m) (h0 : N pl' 0 = M pl 0) (h1 : ∀ i, i < 24 → N (pl' + 1) i = M (pl + 1) i ∧ N (pl' + 2) i = M (pl + 2) i ∧ N (pl' + 3) i = M (pl + 3) i) (hw : ∀ i, i < 24 → W' (b + i) = W (b + i) ∧ A' (b + i) = A (b + i)) : rPlan N pl' m' W' A' b := by
  obtain ⟨l, l1, l2, l3, l4, l5⟩ := h
  refine ⟨l, l1, by rw [hm]; exact l2, fun i w hi => ?_, by rw [h0]; exact l4, fun i x hi => ?_⟩
  · have := (List.getElem?_eq_some_iff.mp hi).1
    rw [(hw i (by omega)).1, (hw i (by omega)).2]
    exact l3 i w hi
  · have a := (List.getElem?_eq_some_iff.mp hi).1
    have b := days_len (l := l) (q := ([], kI (-1)))
    have b : (l.foldl plDay ([], kI (-1))).1.length ≤ 0 + l.length := b
    have := h1 i (by omega)
    rw [this.1, this.2.1, this.2.2]
    exact l5 i x hi
theorem im_pl {k : Nat} (hk : k < 4) : imP (3 * k + 2) = (213, k) := (im_0 k hk).2.2
theorem im_w {i : Nat} (hi : i < 96) : imP (2 * i + 4268) = (214, i) ∧ imP (2 * i + 4269) = (215, i) := by
  have := im_4268 i hi
  rw [show 2 * i + 4268 = 4268 + 2 * i by omega, show 2 * i + 4269 = 4268 + 2 * i + 1 by omega]
  exact this
theorem im_bo {b : Nat} (hb : b < 24) : imP (4470 + 5 * b) = (226, b) := by
  have := (im_4467 b hb).2.2.2.1
  rw [show 4467 + 5 * b + 1 + 1 + 1 = 4470 + 5 * b by omega] at this
  exact this
theorem im_no {a j : Nat} (h : (a = 202 ∨ a = 203 ∨ a < 188) ∨ (a = 188 ∧ j = 24)) : (∀ i, i < 5163 → ¬ ((imP i).1 = a ∧ (imP i).2 = j)) ∧ (∀ i, i < 1122 → ¬ ((asP i).1 = a ∧ (asP i).2 = j)) := by
  have ck : (List.range 5163).all (fun i => !(Nat.beq (imP i).1 202 || (Nat.beq (imP i).1 203 || (Nat.blt (imP i).1 188 || (Nat.beq (imP i).1 188 && Nat.beq (imP i).2 24))))) = true := by decide +kernel
  have ck2 : (List.range 1122).all (fun i => !(Nat.beq (asP i).1 202 || (Nat.beq (asP i).1 203 || (Nat.blt (asP i).1 188 || (Nat.beq (asP i).1 188 && Nat.beq (asP i).2 24))))) = true := by decide +kernel
  have t : (Nat.beq a 202 || (Nat.beq a 203 || (Nat.blt a 188 || (Nat.beq a 188 && Nat.beq j 24)))) = true := by
    simp only [Bool.or_eq_true, Bool.and_eq_true, Nat.beq_eq, Nat.blt_eq]
    omega
  refine ⟨fun i hi e => ?_, fun i hi e => ?_⟩
  · have q := List.all_eq_true.mp ck i (List.mem_range.mpr hi)
    rw [e.1, e.2, t] at q
    cases q
  · have q := List.all_eq_true.mp ck2 i (List.mem_range.mpr hi)
    rw [e.1, e.2, t] at q
    cases q
theorem op_image {p1 v u : Int32} {M M1 M2 : pMem} (h : rA M) (h1 : D_28 p1 M v M1) (h2 : D_135 p1 M1 u M2) : v = u ∧ rA M2 := by
  obtain ⟨⟨t1, t2, t3, t4, t5, t6⟩, ⟨n1, n2, n3, n4, n5⟩, ⟨i1, i2, i3, i4, i5⟩, ⟨k1, k2⟩, p, r1, r2⟩ := h
  have z1 : p1 = kI 0 ∨ ¬ p1 = 0 := by
    by_cases e : p1 = 0
    · exact Or.inl e
    · exact Or.inr e
  rcases h1 with ⟨g, h1⟩ | ⟨g, _, Ma, h216, Mb, eb, hv, hM⟩
  · rcases h1 with ⟨g2, hv, hM⟩ | ⟨g2, _, Ma, h216, hv, hM⟩
    · -- no image
      subst hM
      obtain ⟨hu, hN⟩ := D_135_no h2 g (by rw [← k1]; exact g2)
      have o : ∀ a j, ¬ (a = 188 ∧ j = 0) → M2 a j = M1 a j := fun a j q => by
        rw [hN]
        by_cases e : a = 188
        · subst e
          exact aPut_at (fun q2 => q ⟨rfl, q2⟩)
        · exact aPut_cell e
      have f : pFr [(188, 0)] M1 M2 := fun a j _ _ q => by
        simp only [pOut_cons, pOut_nil, true_or, and_true] at q
        exact o a j (by omega)
      refine ⟨by rw [hv, hu]; exact g2, rA_fr f (by decide +kernel) ⟨⟨t1, t2, t3, t4, t5, t6⟩, ⟨n1, n2, n3, n4, n5⟩, ⟨i1, i2, i3, i4, i5⟩, ⟨k1, k2⟩, p, r1, r2⟩⟩
    · -- back to it
      subst hM
      obtain ⟨c1, _, _, _, c5, _, _, _, _, _, c10⟩ := D_216b_w h216
      have o1 : ∀ a j, (a < 18 ∨ 74 ≤ a) → M1 a j = M a j := fun a j ha => by rw [c10 a (by omega)]
      have tk : M 0 8 = kI 1 := k2.resolve_left g2
      obtain ⟨hu, d77, d1, d2, d3, d4⟩ := D_135_get h2 g (by rw [o1 188 77 (by omega), ← k1, tk]; decide) (fun b hb => by rw [o1 226 b (by omega), o1 229 _ (by omega)]; exact r2 b hb)
      have o2 : ∀ a j, imN a j → ((a = 202 ∨ a = 203 ∨ a < 188) ∨ (a = 188 ∧ j = 24)) → M2 a j = M1 a j := fun a j q q2 => d4 a j q (im_no q2).1 (im_no q2).2
      have o3 : ∀ a j, a < 188 → M2 a j = M1 a j := fun a j ha => o2 a j ⟨by omega, by omega, by omega⟩ (by omega)
      have e229 : ∀ j, M2 229 j = M 229 j := fun j => by rw [d3, o1 229 j (by omega)]
      refine ⟨by rw [hv, hu, o1 0 8 (by omega)]; exact tk, ⟨?_, fun i hi => ?_, ?_, ?_, fun i hi => ?_, fun j hj => ?_⟩, ⟨?_, ?_, ?_, ?_, ?_⟩, ⟨?_, ?_, ?_, ?_, ?_⟩, ⟨?_, ?_⟩, fun a ha => ?_, fun a ha => ?_, fun b hb => ⟨?_, ?_⟩⟩
      · rw [o3 1 0 (by omega), o1 1 0 (by omega), o2 188 24 ⟨by decide, by decide, by omega⟩ (by omega), o1 188 24 (by omega)]; exact t1
      · rw [o3 2 i (by omega), o1 2 i (by omega), o2 202 i ⟨by decide, by decide, by omega⟩ (by omega), o1 202 i (by omega)]; exact t2 i hi
      · rw [o3 1 0 (by omega), o1 1 0 (by omega)]; exact t3
      · rw [o3 1 0 (by omega), o1 1 0 (by omega)]; exact t4
      · rw [o2 202 i ⟨by decide, by decide, by omega⟩ (by omega), o1 202 i (by omega)]; exact t5 i hi
      · rw [o2 203 j ⟨by decide, by decide, by omega⟩ (by omega), o1 203 j (by omega)]; exact t6 j hj
      · rw [o3 19 0 (by omega), c1 0 (by omega)]
        have := d1 4460 (by decide)
        rw [o1 229 4460 (by omega)] at this
        exact i1.trans this.symm
      · rw [o3 19 4 (by omega), c1 4 (by omega)]
        have := d2 1 (by decide)
        rw [o1 229 _ (by omega)] at this
        exact i2.trans this.symm
      · rw [o3 19 5 (by omega), c1 5 (by omega)]
        have := d2 0 (by decide)
        rw [o1 229 _ (by omega)] at this
        exact i3.trans this.symm
      · rw [o3 19 0 (by omega), c1 0 (by omega)]; exact i4
      · rw [o3 19 4 (by omega), c1 4 (by omega)]; exact i5
      · rw [o3 75 0 (by omega), o1 75 0 (by omega), e229]; exact i1
      · rw [o3 75 4 (by omega), o1 75 4 (by omega), e229]; exact i2
      · rw [o3 75 5 (by omega), o1 75 5 (by omega), e229]; exact i3
      · rw [o3 75 0 (by omega), o1 75 0 (by omega)]; exact i4
      · rw [o3 75 4 (by omega), o1 75 4 (by omega)]; exact i5
      · rw [o3 0 8 (by omega), o1 0 8 (by omega), d77]; exact tk
      · rw [o3 0 8 (by omega), o1 0 8 (by omega)]; exact k2
      · obtain ⟨_, _, _, w1, w2⟩ := c5 a ha
        refine rPlan_mv (r1 a ha) ?_ ?_ (fun i hi => ?_) (fun i hi => ?_)
        · have := d1 (3 * a + 2) (by omega)
          rw [im_pl ha, o1 229 _ (by omega)] at this
          exact this
        · rw [o3 _ 0 (by omega)]; exact w1
        · rw [o3 _ i (by omega), o3 _ i (by omega), o3 _ i (by omega)]
          have := w2 i hi
          rw [show 18 + 20 + 11 * a = 37 + 11 * a + 1 by omega, show 18 + 21 + 11 * a = 37 + 11 * a + 2 by omega, show 18 + 22 + 11 * a = 37 + 11 * a + 3 by omega, show 74 + 20 + 11 * a = 93 + 11 * a + 1 by omega, show 74 + 21 + 11 * a = 93 + 11 * a + 2 by omega, show 74 + 22 + 11 * a = 93 + 11 * a + 3 by omega] at this
          exact this
        · have x1 := d1 (2 * (24 * a + i) + 4268) (by omega)
          have x2 := d1 (2 * (24 * a + i) + 4269) (by omega)
          rw [(im_w (i := 24 * a + i) (by omega)).1, o1 229 _ (by omega)] at x1
          rw [(im_w (i := 24 * a + i) (by omega)).2, o1 229 _ (by omega)] at x2
          exact ⟨x1, x2⟩
      · refine rPlan_eq (r1 a ha) (e229 _) (by rw [o3 _ _ (by omega), o1 _ _ (by omega)]) (fun i => ⟨by rw [o3 _ _ (by omega), o1 _ _ (by omega)], by rw [o3 _ _ (by omega), o1 _ _ (by omega)], by rw [o3 _ _ (by omega), o1 _ _ (by omega)]⟩) (fun i _ => ⟨e229 _, e229 _⟩)
      · have := d1 (4470 + 5 * b) (by omega)
        rw [im_bo hb, o1 229 _ (by omega)] at this
        have q : M2 226 b = M 229 (4470 + 5 * b) := this
        rw [q]
        exact (r2 b hb).2
      · rw [e229]; exact (r2 b hb).2
  · -- it is taken
    subst hM
    obtain ⟨c1, _, _, _, c5, _, _, _, _, _, c10⟩ := D_216t_w h216
    have o1 : ∀ a j, (a < 74 ∨ 130 ≤ a) → ¬ (a = 0 ∧ j = 8) → M1 a j = M a j := fun a j ha q => by
      rw [eb]
      by_cases e : a = 0
      · subst e
        rw [aPut_at (fun q2 => q ⟨rfl, q2⟩), c10 0 (by omega)]
      · rw [aPut_cell e, c10 a (by omega)]
    have ot : ∀ a j, (74 ≤ a ∧ a < 130) → M1 a j = Ma a j := fun a j ha => by rw [eb, aPut_cell (by omega)]
    obtain ⟨hu, d77, d1, d2, d3⟩ := D_135_put h2 g (fun b hb => by rw [o1 226 b (by omega) (by omega)]; exact (r2 b hb).1)
    have o3 : ∀ a j, a < 188 → M2 a j = M1 a j := fun a j ha => d3 a j ⟨by omega, by omega, by omega⟩
    have t08 : M1 0 8 = kI 1 := by rw [eb, aPut_same]
    refine ⟨by rw [hv, hu]; exact t08, ⟨?_, fun i hi => ?_, ?_, ?_, fun i hi => ?_, fun j hj => ?_⟩, ⟨?_, ?_, ?_, ?_, ?_⟩, ⟨?_, ?_, ?_, ?_, ?_⟩, ⟨?_, ?_⟩, fun a ha => ?_, fun a ha => ?_, fun b hb => ⟨?_, ?_⟩⟩
    · rw [o3 1 0 (by omega), o1 1 0 (by omega) (by omega), d3 188 24 ⟨by decide, by decide, by omega⟩, o1 188 24 (by omega) (by omega)]; exact t1
    · rw [o3 2 i (by omega), o1 2 i (by omega) (by omega), d3 202 i ⟨by decide, by decide, by omega⟩, o1 202 i (by omega) (by omega)]; exact t2 i hi
    · rw [o3 1 0 (by omega), o1 1 0 (by omega) (by omega)]; exact t3
    · rw [o3 1 0 (by omega), o1 1 0 (by omega) (by omega)]; exact t4
    · rw [d3 202 i ⟨by decide, by decide, by omega⟩, o1 202 i (by omega) (by omega)]; exact t5 i hi
    · rw [d3 203 j ⟨by decide, by decide, by omega⟩, o1 203 j (by omega) (by omega)]; exact t6 j hj
    · rw [o3 19 0 (by omega), o1 19 0 (by omega) (by omega), d3 188 2 ⟨by decide, by decide, by omega⟩, o1 188 2 (by omega) (by omega)]; exact n1
    · rw [o3 19 4 (by omega), o1 19 4 (by omega) (by omega), d3 188 3 ⟨by decide, by decide, by omega⟩, o1 188 3 (by omega) (by omega)]; exact n2
    · rw [o3 19 5 (by omega), o1 19 5 (by omega) (by omega), d3 188 1 ⟨by decide, by decide, by omega⟩, o1 188 1 (by omega) (by omega)]; exact n3
    · rw [o3 19 0 (by omega), o1 19 0 (by omega) (by omega)]; exact n4
    · rw [o3 19 4 (by omega), o1 19 4 (by omega) (by omega)]; exact n5
    · have := d1 4460 (by decide)
      rw [o3 75 0 (by omega), ot 75 0 (by omega), c1 0 (by omega), this]
      exact n1.trans (o1 188 2 (by omega) (by omega)).symm
    · have := d2 1 (by decide)
      rw [o3 75 4 (by omega), ot 75 4 (by omega), c1 4 (by omega), this]
      exact n2.trans (o1 188 3 (by omega) (by omega)).symm
    · have := d2 0 (by decide)
      rw [o3 75 5 (by omega), ot 75 5 (by omega), c1 5 (by omega), this]
      exact n3.trans (o1 188 1 (by omega) (by omega)).symm
    · rw [o3 75 0 (by omega), ot 75 0 (by omega), c1 0 (by omega)]; exact n4
    · rw [o3 75 4 (by omega), ot 75 4 (by omega), c1 4 (by omega)]; exact n5
    · rw [o3 0 8 (by omega), t08, d77]
    · rw [o3 0 8 (by omega), t08]; exact Or.inr rfl
    · have rr : ∀ b j, (b = 213 ∨ b = 214 ∨ b = 215) → M2 b j = M b j := fun b j hb => by rw [d3 b j ⟨by omega, by omega, by omega⟩, o1 b j (by omega) (by omega)]
      exact rPlan_eq (p a ha) (rr 213 a (by omega)) (by rw [o3 _ _ (by omega), o1 _ _ (by omega) (by omega)]) (fun i => ⟨by rw [o3 _ _ (by omega), o1 _ _ (by omega) (by omega)], by rw [o3 _ _ (by omega), o1 _ _ (by omega) (by omega)], by rw [o3 _ _ (by omega), o1 _ _ (by omega) (by omega)]⟩) (fun i _ => ⟨rr 214 _ (by omega), rr 215 _ (by omega)⟩)
    · obtain ⟨_, _, _, w1, w2⟩ := c5 a ha
      refine rPlan_mv (p a ha) ?_ ?_ (fun i hi => ?_) (fun i hi => ?_)
      · rw [d1 (3 * a + 2) (by omega), im_pl ha]
        exact o1 213 a (by omega) (by omega)
      · rw [o3 _ 0 (by omega), ot _ 0 (by omega)]; exact w1
      · rw [o3 _ i (by omega), o3 _ i (by omega), o3 _ i (by omega), ot _ i (by omega), ot _ i (by omega), ot _ i (by omega)]
        have := w2 i hi
        rw [show 18 + 20 + 11 * a = 37 + 11 * a + 1 by omega, show 18 + 21 + 11 * a = 37 + 11 * a + 2 by omega, show 18 + 22 + 11 * a = 37 + 11 * a + 3 by omega, show 74 + 20 + 11 * a = 93 + 11 * a + 1 by omega, show 74 + 21 + 11 * a = 93 + 11 * a + 2 by omega, show 74 + 22 + 11 * a = 93 + 11 * a + 3 by omega] at this
        exact this
      · show M2 229 (2 * (24 * a + i) + 4268) = _ ∧ M2 229 (2 * (24 * a + i) + 4269) = _
        rw [d1 _ (by omega), d1 _ (by omega), (im_w (i := 24 * a + i) (by omega)).1, (im_w (i := 24 * a + i) (by omega)).2]
        exact ⟨o1 214 _ (by omega) (by omega), o1 215 _ (by omega) (by omega)⟩
    · rw [d3 226 b ⟨by decide, by decide, by omega⟩, o1 226 b (by omega) (by omega)]; exact (r2 b hb).1
    · rw [d1 (4470 + 5 * b) (by omega), im_bo hb]
      show bo (M1 226 b)
      rw [o1 226 b (by omega) (by omega)]
      exact (r2 b hb).1
/-! orders: woods of their own -/
def fQ (M N : pMem) : Prop := ∀ a j, a < 230 → pScr a j = false → (a < 138 ∨ 173 ≤ a) → N a j = M a j
theorem fQ_rfl {M : pMem} : fQ M M := fun _ _ _ _ _ => rfl
theorem fQ_tr {M X N : pMem} (h : fQ M X) (g : fQ X N) : fQ M N := fun a j h1 h2 h3 => (g a j h1 h2 h3).trans (h a j h1 h2 h3)
theorem fQ_fr {M X N : pMem} {L : List (Nat × Nat)} (h : fQ M X) (f : pFr L X N) (k : ∀ a j, (a < 138 ∨ 173 ≤ a) → pOut L a j = true) : fQ M N := fun a j h1 h2 h3 => (f a j h1 h2 (k a j h3)).trans (h a j h1 h2 h3)
theorem fQ_put {M X : pMem} {b j : Nat} {x : Int32} (h : fQ M X) (hb : 138 ≤ b ∧ b < 173) : fQ M (aPut X b j x) := fun a i h1 h2 h3 => by
  rw [aPut_cell (by omega)]
  exact h a i h1 h2 h3
theorem rA_fQ {M N : pMem} (f : fQ M N) (h : rA M) : rA N := by
  have f' : pFr ((List.range 35).map fun i => (138 + i, 999)) M N := fun a j h1 h2 h3 => f a j h1 h2 (by
    apply Classical.byContradiction
    intro q
    have := List.all_eq_true.mp h3 (138 + (a - 138), 999) (List.mem_map.mpr ⟨a - 138, List.mem_range.mpr (by omega), rfl⟩)
    rw [show 138 + (a - 138) = a by omega] at this
    simp only [Nat.beq_refl, Bool.true_or, Bool.and_self, Bool.not_true, Bool.false_eq_true] at this)
  exact rA_fr f' (by decide +kernel) h
theorem D_213_q {l : Nat} (hl : pK 2 l = true) {p3 p4 : Int32} {M0 : pMem} {v : Unit} {N : pMem} (h : D_213 l p3 p4 M0 v N) : fQ M0 N := by
  refine h (fun l p3 p4 M v N => pK 2 l = true → fQ M N, fun l p3 p4 x5 M v N => pK 2 l = true → fQ M N) ⟨?_, ?_⟩ hl
  · intro l p3 p4 M v N hs hl
    have leaf : (tGd (pIn p3 6) <| tCall (D_230 (143 + 5 * ix p3) M) fun v1 M1 => tCall (D_214 v1 M1) fun _ M2 => tRet () M2) v N → fQ M N := by
      rintro ⟨g, v1, M1, h1, _, M2, h2, _, hN⟩
      rw [hN]
      have w := pArK (show pAr 139 6 143 5 10 = true by decide +kernel) (by decide) g
      exact fQ_fr (fQ_fr fQ_rfl (F_230 w h1) (fun a j q => by simp only [l_230, pOut_nil])) (F_214 h2) (fun a j q => by simp only [l_214, pOut_cons, pOut_nil, true_or, and_true]; omega)
    rcases hs with ⟨_, hs⟩ | ⟨_, hs⟩
    · exact leaf hs
    · rcases hs with ⟨_, hs⟩ | ⟨_, hs⟩
      · exact hs hl
      · exact leaf hs
  · intro l p3 p4 x5 M v N hs hl
    rcases hs with ⟨_, _, hN⟩ | ⟨_, hs⟩
    · rw [hN]; exact fQ_rfl
    · rcases hs with ⟨_, hs⟩ | ⟨_, g1, g2, _, M1, h220, _, hs⟩
      · exact hs hl
      · have w1 := pArK (show pAr 139 6 143 5 10 = true by decide +kernel) (by decide) g1
        have w2 := pArK (show pAr 139 6 143 5 10 = true by decide +kernel) (by decide) g2
        have i1 := (ix_in g1).2
        have q1 : fQ M M1 := fQ_fr fQ_rfl (F_220 w1 w2 h220) (fun a j q => by simp only [l_220, pOut_cons, pOut_nil, true_or, and_true]; generalize ix (p3 + kI 1) = i at i1; omega)
        have day : ∀ {a b c v2 : Int32} {M2 : pMem}, D_138 (143 + 5 * ix (p3 + (kI 1))) l a b c M1 v2 M2 → fQ M M2 := fun h138 => fQ_fr q1 (F_138 w1 hl h138) (fun a j q => by simp only [l_138, pOut_cons, pOut_nil, true_or, and_true]; generalize ix (p3 + kI 1) = i at i1; omega)
        rcases hs with ⟨_, _, M2, e2, _, M3, hE, hs⟩ | ⟨_, hs⟩
        · have q2 : fQ M M2 := by rw [e2]; exact fQ_put q1 (by omega)
          exact fQ_tr (fQ_tr q2 (hE hl)) (hs hl)
        · rcases hs with ⟨_, v2, M2, h138, _, M3, e3, _, M4, hE, hs⟩ | ⟨_, v2, M2, h138, _, M3, e3, _, M4, hE, hs⟩
          · have q2 : fQ M M3 := by rw [e3]; exact fQ_put (day h138) (by omega)
            exact fQ_tr (fQ_tr q2 (hE hl)) (hs hl)
          · have q2 : fQ M M3 := by rw [e3]; exact fQ_put (day h138) (by omega)
            exact fQ_tr (fQ_tr q2 (hE hl)) (hs hl)
theorem D_21_q {p1 p2 p3 v : Int32} {M N : pMem} (h : D_21 p1 p2 p3 M v N) : fQ M N := by
  rcases h with ⟨_, _, hN⟩ | ⟨_, h⟩
  · rw [hN]; exact fQ_rfl
  · rcases h with ⟨_, _, hN⟩ | ⟨_, h⟩
    · rw [hN]; exact fQ_rfl
    · rcases h with ⟨_, _, hN⟩ | ⟨_, h⟩
      · rw [hN]; exact fQ_rfl
      · rcases h with ⟨_, _, M1, h211, g1, _, M2, ha, _, M3, h212, g2, _, M4, hb, h⟩ | ⟨_, _, hN⟩
        · have q1 : fQ M M1 := fQ_fr fQ_rfl (F_211 h211) (fun a j q => by simp only [l_211, pOut_cons, pOut_nil, true_or, and_true]; omega)
          have q2 := fQ_tr q1 (D_213_q (pArK (show pAr 24 4 30 11 2 = true by decide +kernel) (by decide) g1) ha)
          have q3 := fQ_fr q2 (F_212 h212) (fun a j q => by simp only [l_212, pOut_cons, pOut_nil, true_or, and_true]; omega)
          have q4 := fQ_tr q3 (D_213_q (pArK (show pAr 24 4 30 11 2 = true by decide +kernel) (by decide) g2) hb)
          rcases h with ⟨_, _, _, hN⟩ | ⟨_, _, hN⟩
          · rw [hN]; exact q4
          · rw [hN]; exact q4
        · rw [hN]; exact fQ_rfl
theorem op_parts {p1 p2 p3 v u : Int32} {M M1 M2 : pMem} (h : rA M) (h1 : D_21 p1 p2 p3 M v M1) (h2 : D_116 p1 p2 p3 M1 u M2) : rA M2 := by
  have f0 : pFr [] M1 M1 := pFr_refl
  exact op_think (rA_fQ (D_21_q h1) h) f0 (F_116 h2) (by decide +kernel) (by decide +kernel) (D_116_s h2)
/-! woods: both count the same ways -/
def wI (n : Int32) : Nat → Int64 × Int64
  | 0 => (Int64.ofNat 0, Int64.ofNat 1)
  | i + 1 => ((wI n i).1 + (wI n i).2, ((wI n i).2 * Int32.toInt64 (n - kI i)) / Int32.toInt64 (kI i + kI 1))
theorem wI_rg : ∀ n, n < 61 → ∀ k, k < 10 → 0 ≤ (wI (kI (n : Nat)) (k + 1)).1.toInt ∧ (wI (kI (n : Nat)) (k + 1)).1.toInt ≤ 1000000000000 := by decide +kernel
theorem w_pow : ∀ n, n < 61 → ((Int64.ofNat 1) <<< (Int32.toInt64 (kI (n : Nat)) &&& 63)).toInt = (2 : Int) ^ n ∧ (((Int64.ofNat 1) <<< (Int32.toInt64 (kI (n : Nat)) &&& 63)) - (Int64.ofNat 1)).toInt = (2 : Int) ^ n - 1 ∧ (2 : Int) ^ n ≤ 1152921504606846976 ∧ (1 : Int) ≤ (2 : Int) ^ n := by decide +kernel
theorem lg_t (a b : Int64) : lg_cmp a b = if b.toInt < a.toInt then 1 else if a.toInt = b.toInt then 0 else -1 := by
  unfold lg_cmp
  simp only [gt_iff_lt, Int64.lt_iff_toInt_lt, ← Int64.toInt_inj]
theorem lg_0 {a b : Int64} : 0 ≤ lg_cmp a b ↔ b.toInt ≤ a.toInt := by
  rw [lg_t]
  by_cases h1 : b.toInt < a.toInt
  · rw [if_pos h1]
    exact ⟨fun _ => by omega, fun _ => by decide⟩
  · rw [if_neg h1]
    by_cases h2 : a.toInt = b.toInt
    · rw [if_pos h2]
      exact ⟨fun _ => by omega, fun _ => by decide⟩
    · rw [if_neg h2]
      exact ⟨fun q => absurd q (by decide), fun q => absurd q (by omega)⟩
theorem lg_1 {a b : Int64} : 0 < lg_cmp a b ↔ b.toInt < a.toInt := by
  rw [lg_t]
  by_cases h1 : b.toInt < a.toInt
  · rw [if_pos h1]
    exact ⟨fun _ => h1, fun _ => by decide⟩
  · rw [if_neg h1]
    by_cases h2 : a.toInt = b.toInt
    · rw [if_pos h2]
      exact ⟨fun q => absurd q (by decide), fun q => absurd q h1⟩
    · rw [if_neg h2]
      exact ⟨fun q => absurd q (by decide), fun q => absurd q h1⟩
/-- the same sign to stop -/
theorem w_stop {n k : Nat} (hn : n < 61) (hk : k < 10) {m : Int32} (h1 : 2 ≤ m.toInt) (h2 : m.toInt ≤ 100000) :
    (0 ≤ lg_cmp ((wI (kI (n : Nat)) (k + 1)).1 * Int32.toInt64 m) ((Int64.ofNat 1) <<< (Int32.toInt64 (kI (n : Nat)) &&& 63))) ↔ 0 < lg_cmp (wI (kI (n : Nat)) (k + 1)).1 ((((Int64.ofNat 1) <<< (Int32.toInt64 (kI (n : Nat)) &&& 63)) - (Int64.ofNat 1)) / Int32.toInt64 m) := by
  obtain ⟨c1, c2⟩ := wI_rg n hn k hk
  obtain ⟨p1, p2, p3, p4⟩ := w_pow n hn
  rw [lg_0, lg_1, Int64.toInt_mul, Int64.toInt_div, p1, p2, Int32.toInt_toInt64]
  generalize (wI (kI (n : Nat)) (k + 1)).1.toInt = c at *
  generalize (2 : Int) ^ n = P at *
  generalize m.toInt = d at *
  have d0 : 0 < d := by omega
  have cm1 : 0 ≤ c * d := Int.mul_nonneg c1 (by omega)
  have cm2 : c * d ≤ 1000000000000 * 100000 := Int.mul_le_mul c2 h2 (by omega) (by decide)
  have q1 : 0 ≤ (P - 1) / d := Int.ediv_nonneg (by omega) (by omega)
  have q2 : (P - 1) / d ≤ P - 1 := Int.ediv_le_self _ (by omega)
  have e1 : (c * d).bmod (2 ^ 64) = c * d := Int.bmod_eq_of_le (by omega) (by omega)
  have e2 : (P - 1).tdiv d = (P - 1) / d := Int.tdiv_eq_ediv_of_nonneg (by omega)
  have e3 : ((P - 1) / d).bmod (2 ^ 64) = (P - 1) / d := Int.bmod_eq_of_le (by omega) (by omega)
  rw [e1, e2, e3, Int.ediv_lt_iff_lt_mul d0]
  omega
theorem D_40_w {n k : Nat} (hn : n < 61) (hk : k < 10) {p0 p1 : Int32} (h0 : p0 = kI n) (h1 : p1 = kI k) {M : pMem} {v : Int64} {N : pMem} (h : D_40 p0 p1 M v N) : v = (wI (kI n) (k + 1)).1 ∧ N = M := by
  refine h (fun a c x M' v N => M' = M → ∀ i : Nat, x = kI i → i ≤ k + 1 → (a, c) = wI (kI n) i → v = (wI (kI n) (k + 1)).1 ∧ N = M) ?_ rfl 0 rfl (by omega) rfl
  intro a c x M' v N hs hM i hx hi hac
  have xt : x.toInt = i := by rw [hx, kI_toInt (by omega) (by omega)]
  have kt : p1.toInt = k := by rw [h1, kI_toInt (by omega) (by omega)]
  have ea : a = (wI (kI n) i).1 := congrArg Prod.fst hac
  have ec : c = (wI (kI n) i).2 := congrArg Prod.snd hac
  rcases hs with ⟨g, hv, hN⟩ | ⟨g, _, hs⟩
  · rw [i_lt, xt, kt] at g
    rw [hv, hN, ea, show i = k + 1 by omega]
    exact ⟨rfl, hM⟩
  · rw [i_lt, xt, kt] at g
    refine hs hM (i + 1) ?_ (by omega) ?_
    · exact kI_inj (by rw [i_add1 (by omega), xt]; omega)
    · rw [h0, hx, ea, ec]
      rfl
theorem op_woods {p1 p2 v u : Int32} {M M1 M2 : pMem} (h : rA M) (h1 : D_27 p1 p2 M v M1) (h2 : D_131 p1 p2 M1 u M2) : v = u ∧ rA M2 := by
  refine ⟨?_, op_frame h (F_27 h1) (F_131 h2) (by decide +kernel) (by decide +kernel)⟩
  obtain ⟨Ma, _, h2⟩ := h2
  have q1 : ¬ f_42 p1 (kI 0) (kI 9) = 0 ↔ 0 ≤ p1.toInt ∧ p1.toInt ≤ 9 := by rw [f_42_iff, i_le, i_le, kI0, kI_toInt (by decide) (by decide)]
  have q2 : ¬ f_42 p2 (kI 2) (kI 100000) = 0 ↔ 2 ≤ p2.toInt ∧ p2.toInt ≤ 100000 := by rw [f_42_iff, i_le, i_le, kI_toInt (by decide) (by decide), kI_toInt (by decide) (by decide)]
  have a1 : p1 < 0 ↔ p1.toInt < 0 := by rw [i_lt, i_0]
  have a2 : kI 9 < p1 ↔ 9 < p1.toInt := by rw [i_lt, kI_toInt (by decide) (by decide)]
  have a3 : p2 < kI 2 ↔ p2.toInt < 2 := by rw [i_lt, kI_toInt (by decide) (by decide)]
  have a4 : p2 ≤ kI 100000 ↔ p2.toInt ≤ 100000 := by rw [i_le, kI_toInt (by decide) (by decide)]
  by_cases c : (0 ≤ p1.toInt ∧ p1.toInt ≤ 9) ∧ 2 ≤ p2.toInt ∧ p2.toInt ≤ 100000
  · obtain ⟨c1, c2⟩ := c
    have h1 := tIf_n (fun q => by have := a1.mp q; omega) h1
    have h1 := tIf_n (fun q => by have := a2.mp q; omega) h1
    have h1 := tIf_n (fun q => by have := a3.mp q; omega) h1
    have h1 := tIf_p (a4.mpr c2.2) h1
    have h2 := tIf_n (q1.mpr c1) h2
    have h2 := tIf_p (q2.mpr c2) h2
    obtain ⟨k, hk⟩ : ∃ k : Nat, p1.toInt = k := ⟨p1.toInt.toNat, by omega⟩
    have ek : p1 = kI k := kI_inj hk
    -- where it stops, of those from n on
    have A : ∀ {x : Int32} {M : pMem} {v : Int32} {N : pMem}, L_27_6 p1 p2 x M v N → ∀ n : Nat, x = kI n → 1 ≤ n → n ≤ 61 → (v = kI (-1) ∧ ∀ i : Nat, n ≤ i → i < 61 → 0 ≤ lg_cmp ((wI (kI i) (k + 1)).1 * Int32.toInt64 p2) ((Int64.ofNat 1) <<< (Int32.toInt64 (kI i) &&& 63))) ∨
        ∃ j : Nat, n ≤ j ∧ j < 61 ∧ v = kI j ∧ (¬ 0 ≤ lg_cmp ((wI (kI j) (k + 1)).1 * Int32.toInt64 p2) ((Int64.ofNat 1) <<< (Int32.toInt64 (kI j) &&& 63))) ∧ ∀ i : Nat, n ≤ i → i < j → 0 ≤ lg_cmp ((wI (kI i) (k + 1)).1 * Int32.toInt64 p2) ((Int64.ofNat 1) <<< (Int32.toInt64 (kI i) &&& 63)) := by
      intro x M v N h
      refine h (fun x M v N => ∀ n : Nat, x = kI n → 1 ≤ n → n ≤ 61 → (v = kI (-1) ∧ ∀ i : Nat, n ≤ i → i < 61 → 0 ≤ lg_cmp ((wI (kI i) (k + 1)).1 * Int32.toInt64 p2) ((Int64.ofNat 1) <<< (Int32.toInt64 (kI i) &&& 63))) ∨
        ∃ j : Nat, n ≤ j ∧ j < 61 ∧ v = kI j ∧ (¬ 0 ≤ lg_cmp ((wI (kI j) (k + 1)).1 * Int32.toInt64 p2) ((Int64.ofNat 1) <<< (Int32.toInt64 (kI j) &&& 63))) ∧ ∀ i : Nat, n ≤ i → i < j → 0 ≤ lg_cmp ((wI (kI i) (k + 1)).1 * Int32.toInt64 p2) ((Int64.ofNat 1) <<< (Int32.toInt64 (kI i) &&& 63))) ?_
      intro x M v N hs n hx h1 h2
      have xt : x.toInt = n := by rw [hx, kI_toInt (by omega) (by omega)]
      rcases hs with ⟨g, hv, _⟩ | ⟨g, v1, M1, h40, hs⟩
      · rw [i_lt, xt, kI_toInt (by decide) (by decide)] at g
        exact Or.inl ⟨hv, fun i hi hi2 => absurd hi2 (by omega)⟩
      · rw [i_lt, xt, kI_toInt (by decide) (by decide)] at g
        obtain ⟨ev, _⟩ := D_40_w (n := n) (k := k) (by omega) (by omega) hx ek h40
        rw [ev, hx] at hs
        rcases hs with ⟨g2, hs⟩ | ⟨g2, hv, _⟩
        · rcases hs (n + 1) (kI_inj (by rw [← hx, i_add1 (by omega), xt]; omega)) (by omega) (by omega) with ⟨e1, e2⟩ | ⟨j, j1, j2, j3, j4, j5⟩
          · refine Or.inl ⟨e1, fun i hi hi2 => ?_⟩
            by_cases e : i = n
            · rw [e]; exact g2
            · exact e2 i (by omega) hi2
          · refine Or.inr ⟨j, by omega, j2, j3, j4, fun i hi hi2 => ?_⟩
            by_cases e : i = n
            · rw [e]; exact g2
            · exact j5 i (by omega) hi2
        · exact Or.inr ⟨n, Nat.le_refl _, by omega, hv, g2, fun i hi hi2 => absurd hi2 (by omega)⟩
    have B : ∀ {x : Int32} {M : pMem} {v : Int32} {N : pMem}, L_131_4 p1 p2 x M v N → ∀ n : Nat, x = kI n → 1 ≤ n → n ≤ 61 → (v = kI (-1) ∧ ∀ i : Nat, n ≤ i → i < 61 → 0 ≤ lg_cmp ((wI (kI i) (k + 1)).1 * Int32.toInt64 p2) ((Int64.ofNat 1) <<< (Int32.toInt64 (kI i) &&& 63))) ∨
        ∃ j : Nat, n ≤ j ∧ j < 61 ∧ v = kI j ∧ (¬ 0 ≤ lg_cmp ((wI (kI j) (k + 1)).1 * Int32.toInt64 p2) ((Int64.ofNat 1) <<< (Int32.toInt64 (kI j) &&& 63))) ∧ ∀ i : Nat, n ≤ i → i < j → 0 ≤ lg_cmp ((wI (kI i) (k + 1)).1 * Int32.toInt64 p2) ((Int64.ofNat 1) <<< (Int32.toInt64 (kI i) &&& 63)) := by
      intro x M v N h
      refine h (fun x M v N => ∀ n : Nat, x = kI n → 1 ≤ n → n ≤ 61 → (v = kI (-1) ∧ ∀ i : Nat, n ≤ i → i < 61 → 0 ≤ lg_cmp ((wI (kI i) (k + 1)).1 * Int32.toInt64 p2) ((Int64.ofNat 1) <<< (Int32.toInt64 (kI i) &&& 63))) ∨
        ∃ j : Nat, n ≤ j ∧ j < 61 ∧ v = kI j ∧ (¬ 0 ≤ lg_cmp ((wI (kI j) (k + 1)).1 * Int32.toInt64 p2) ((Int64.ofNat 1) <<< (Int32.toInt64 (kI j) &&& 63))) ∧ ∀ i : Nat, n ≤ i → i < j → 0 ≤ lg_cmp ((wI (kI i) (k + 1)).1 * Int32.toInt64 p2) ((Int64.ofNat 1) <<< (Int32.toInt64 (kI i) &&& 63)),
        fun x a c y M v N => ∀ n i : Nat, x = kI n → 1 ≤ n → n < 61 → y = kI i → i ≤ k + 1 → (a, c) = wI (kI n) i → (v = kI (-1) ∧ ∀ i : Nat, n ≤ i → i < 61 → 0 ≤ lg_cmp ((wI (kI i) (k + 1)).1 * Int32.toInt64 p2) ((Int64.ofNat 1) <<< (Int32.toInt64 (kI i) &&& 63))) ∨
        ∃ j : Nat, n ≤ j ∧ j < 61 ∧ v = kI j ∧ (¬ 0 ≤ lg_cmp ((wI (kI j) (k + 1)).1 * Int32.toInt64 p2) ((Int64.ofNat 1) <<< (Int32.toInt64 (kI j) &&& 63))) ∧ ∀ i : Nat, n ≤ i → i < j → 0 ≤ lg_cmp ((wI (kI i) (k + 1)).1 * Int32.toInt64 p2) ((Int64.ofNat 1) <<< (Int32.toInt64 (kI i) &&& 63))) ⟨?_, ?_⟩
      · intro x M v N hs n hx h1 h2
        have xt : x.toInt = n := by rw [hx, kI_toInt (by omega) (by omega)]
        rcases hs with ⟨g, hv, _⟩ | ⟨g, hs⟩
        · rw [i_lt, xt, kI_toInt (by decide) (by decide)] at g
          exact Or.inl ⟨hv, fun i hi hi2 => absurd hi2 (by omega)⟩
        · rw [i_lt, xt, kI_toInt (by decide) (by decide)] at g
          exact hs n 0 hx h1 (by omega) rfl (by omega) rfl
      · intro x a c' y M v N hs n i hx h1 h2 hy hi hac
        have xt : x.toInt = n := by rw [hx, kI_toInt (by omega) (by omega)]
        have yt : y.toInt = i := by rw [hy, kI_toInt (by omega) (by omega)]
        have ea : a = (wI (kI n) i).1 := congrArg Prod.fst hac
        have ec : c' = (wI (kI n) i).2 := congrArg Prod.snd hac
        rcases hs with ⟨g, _, hs⟩ | ⟨g, _, hs⟩
        · rw [i_lt, yt, hk] at g
          have eik : i = k + 1 := by omega
          rw [ea, eik, hx] at hs
          have st := w_stop (n := n) (k := k) h2 (by omega) c2.1 c2.2
          rcases hs with ⟨g2, hs⟩ | ⟨g2, hv, _⟩
          · have g2 := st.mpr g2
            rcases hs (n + 1) (kI_inj (by rw [← hx, i_add1 (by omega), xt]; omega)) (by omega) (by omega) with ⟨e1, e2⟩ | ⟨j, j1, j2, j3, j4, j5⟩
            · refine Or.inl ⟨e1, fun i hi hi2 => ?_⟩
              by_cases e : i = n
              · rw [e]; exact g2
              · exact e2 i (by omega) hi2
            · refine Or.inr ⟨j, by omega, j2, j3, j4, fun i hi hi2 => ?_⟩
              by_cases e : i = n
              · rw [e]; exact g2
              · exact j5 i (by omega) hi2
          · exact Or.inr ⟨n, Nat.le_refl _, h2, hv, fun q => g2 (st.mp q), fun i hi hi2 => absurd hi2 (by omega)⟩
        · rw [i_lt, yt, hk] at g
          refine hs n (i + 1) hx h1 h2 (kI_inj (by rw [i_add1 (by omega), yt]; omega)) (by omega) ?_
          rw [hx, hy, ea, ec]
          rfl
    rcases A h1 1 rfl (by omega) (by omega) with ⟨a1, a2⟩ | ⟨j, j1, j2, j3, j4, j5⟩
    · rcases B h2 1 rfl (by omega) (by omega) with ⟨b1, b2⟩ | ⟨i, i1, i2, i3, i4, i5⟩
      · rw [a1, b1]
      · exact absurd (a2 i i1 i2) i4
    · rcases B h2 1 rfl (by omega) (by omega) with ⟨b1, b2⟩ | ⟨i, i1, i2, i3, i4, i5⟩
      · exact absurd (b2 j j1 j2) j4
      · have e : i = j := by
          apply Classical.byContradiction
          intro q
          by_cases l : i < j
          · exact i4 (j5 i i1 l)
          · exact j4 (i5 j j1 (by omega))
        rw [j3, i3, e]
  · have hv : v = kI (-1) := by
      rcases h1 with ⟨_, hv, _⟩ | ⟨g1, h1⟩
      · exact hv
      · rcases h1 with ⟨_, hv, _⟩ | ⟨g2, h1⟩
        · exact hv
        · rcases h1 with ⟨_, hv, _⟩ | ⟨g3, h1⟩
          · exact hv
          · rcases h1 with ⟨g4, _⟩ | ⟨_, hv, _⟩
            · rw [a1] at g1
              rw [a2] at g2
              rw [a3] at g3
              rw [a4] at g4
              exact absurd ⟨⟨by omega, by omega⟩, by omega, g4⟩ c
            · exact hv
    have hu : u = kI (-1) := by
      rcases h2 with ⟨_, hu, _⟩ | ⟨g1, h2⟩
      · exact hu
      · rcases h2 with ⟨g2, _⟩ | ⟨_, hu, _⟩
        · exact absurd ⟨q1.mp g1, q2.mp g2⟩ c
        · exact hu
    rw [hv, hu]
/-! laws as they are read: codes (0 a number, 1 a fact, 2 .. 5 + - * /, 6 .. 8 < = >, 9 so many nots, 10 and, 11 or) -/
abbrev Cd : Type := Nat × Int32
abbrev Rs : Type := Nat × Nat × List Cd
def wqC (w : Int32) : List Cd := if w = kI 43 then [(2, kI 0)] else if w = kI 45 then [(3, kI 0)] else []
def mC (s : Int32) : List Cd := if s = kI 42 then [(4, kI 0)] else if s = kI 47 then [(5, kI 0)] else []
/-- one number or fact at token k (d: behind a /) -/
def unG (T V : Nat → Int32) (d : Prop) [Decidable d] (k : Nat) (o : List Cd) : Rs :=
  if T k = kI 100 then (if d ∧ V k = kI 0 then (2, k, o) else (0, k + 1, o ++ [(0, V k)]))
  else if 0 ≤ (T k).toInt ∧ (T k).toInt ≤ 13 ∧ ¬ d then (0, k + 1, o ++ [(1, T k)]) else (1, k, o)
/-- behind one: n bounds how many follow -/
def suG (T V : Nat → Int32) : Nat → Int32 → Nat → List Cd → Rs
  | 0, _, k, o => (9, k, o)
  | n + 1, w, k, o =>
    if T k = kI 42 ∨ T k = kI 47 then
      (if (unG T V (T k = kI 47) (k + 1) o).1 = 0 then suG T V n w (unG T V (T k = kI 47) (k + 1) o).2.1 ((unG T V (T k = kI 47) (k + 1) o).2.2 ++ mC (T k)) else unG T V (T k = kI 47) (k + 1) o)
    else if T k = kI 43 ∨ T k = kI 45 then
      (if (unG T V (T k = kI 47) (k + 1) (o ++ wqC w)).1 = 0 then suG T V n (T k) (unG T V (T k = kI 47) (k + 1) (o ++ wqC w)).2.1 ((unG T V (T k = kI 47) (k + 1) (o ++ wqC w)).2.2 ++ mC (T k)) else unG T V (T k = kI 47) (k + 1) (o ++ wqC w))
    else (0, k, o ++ wqC w)
theorem suG_up {T V : Nat → Int32} : ∀ {n : Nat} {w : Int32} {k : Nat} {o : List Cd} {r : Rs}, suG T V n w k o = r → r.1 ≠ 9 → suG T V (n + 1) w k o = r := by
  intro n
  induction n with
  | zero =>
    intro w k o r h h9
    rw [← h] at h9
    exact absurd rfl h9
  | succ n ih =>
    intro w k o r h h9
    unfold suG at h ⊢
    by_cases c1 : T k = kI 42 ∨ T k = kI 47
    · rw [if_pos c1] at h ⊢
      by_cases c2 : (unG T V (T k = kI 47) (k + 1) o).1 = 0
      · rw [if_pos c2] at h ⊢
        exact ih h h9
      · rw [if_neg c2] at h ⊢
        exact h
    · rw [if_neg c1] at h ⊢
      by_cases c3 : T k = kI 43 ∨ T k = kI 45
      · rw [if_pos c3] at h ⊢
        by_cases c2 : (unG T V (T k = kI 47) (k + 1) (o ++ wqC w)).1 = 0
        · rw [if_pos c2] at h ⊢
          exact ih h h9
        · rw [if_neg c2] at h ⊢
          exact h
      · rw [if_neg c3] at h ⊢
        exact h
theorem suG_le {T V : Nat → Int32} {n m : Nat} {w : Int32} {k : Nat} {o : List Cd} {r : Rs} (h : suG T V n w k o = r) (h9 : r.1 ≠ 9) (hm : n ≤ m) : suG T V m w k o = r := by
  obtain ⟨d, rfl⟩ := Nat.exists_eq_add_of_le hm
  induction d with
  | zero => exact h
  | succ d ih => exact suG_up (ih (by omega)) h9
/-- behind one number or fact; ahead of one -/
def suR (T V : Nat → Int32) (w : Int32) (k : Nat) (o : List Cd) (r : Rs) : Prop := r.1 ≠ 9 ∧ ∃ n, suG T V n w k o = r
def suP (T V : Nat → Int32) (w s : Int32) (k : Nat) (o : List Cd) (r : Rs) : Prop :=
  ((unG T V (s = kI 47) k o).1 ≠ 0 ∧ r = unG T V (s = kI 47) k o) ∨ ((unG T V (s = kI 47) k o).1 = 0 ∧ suR T V w (unG T V (s = kI 47) k o).2.1 ((unG T V (s = kI 47) k o).2.2 ++ mC s) r)
section SU
variable {T V : Nat → Int32} {w s : Int32} {k : Nat} {o : List Cd} {r r' : Rs}
theorem suR_det (h : suR T V w k o r) (h' : suR T V w k o r') : r = r' := by
  obtain ⟨a, n, e⟩ := h
  obtain ⟨b, m, e'⟩ := h'
  rw [← suG_le e a (Nat.le_max_left n m), ← suG_le e' b (Nat.le_max_right n m)]
theorem suP_det (h : suP T V w s k o r) (h' : suP T V w s k o r') : r = r' := by
  rcases h with ⟨a, e⟩ | ⟨a, e⟩ <;> rcases h' with ⟨a', e'⟩ | ⟨a', e'⟩
  · rw [e, e']
  · exact absurd a' a
  · exact absurd a a'
  · exact suR_det e e'
theorem unG_9 {d : Prop} [Decidable d] : (unG T V d k o).1 ≠ 9 := by
  unfold unG
  repeat' split
  all_goals first | exact (show (2 : Nat) ≠ 9 by decide) | exact (show (0 : Nat) ≠ 9 by decide) | exact (show (1 : Nat) ≠ 9 by decide)
theorem suP_9 (h : suP T V w s k o r) : r.1 ≠ 9 := by
  rcases h with ⟨_, e⟩ | ⟨_, e⟩
  · rw [e]
    exact unG_9
  · exact e.1
theorem suR_mul (c : T k = kI 42 ∨ T k = kI 47) (h : suP T V w (T k) (k + 1) o r) : suR T V w k o r := by
  refine ⟨suP_9 h, ?_⟩
  rcases h with ⟨a, e⟩ | ⟨a, _, n, e⟩
  · refine ⟨1, ?_⟩
    unfold suG
    rw [if_pos c, if_neg a, e]
  · refine ⟨n + 1, ?_⟩
    unfold suG
    rw [if_pos c, if_pos a]
    exact e
theorem suR_add (c : T k = kI 43 ∨ T k = kI 45) (h : suP T V (T k) (T k) (k + 1) (o ++ wqC w) r) : suR T V w k o r := by
  have c1 : ¬ (T k = kI 42 ∨ T k = kI 47) := by
    rcases c with c | c <;> rw [c] <;> decide
  refine ⟨suP_9 h, ?_⟩
  rcases h with ⟨a, e⟩ | ⟨a, _, n, e⟩
  · refine ⟨1, ?_⟩
    unfold suG
    rw [if_neg c1, if_pos c, if_neg a, e]
  · refine ⟨n + 1, ?_⟩
    unfold suG
    rw [if_neg c1, if_pos c, if_pos a]
    exact e
theorem suR_end (c1 : ¬ (T k = kI 42 ∨ T k = kI 47)) (c2 : ¬ (T k = kI 43 ∨ T k = kI 45)) : suR T V w k o (0, k, o ++ wqC w) := by
  refine ⟨show (0 : Nat) ≠ 9 by decide, 1, ?_⟩
  unfold suG
  rw [if_neg c1, if_neg c2]
end SU
/-- E; two with a sign between -/
def suS (T V : Nat → Int32) (k : Nat) (o : List Cd) (r : Rs) : Prop := suP T V (kI 102) (kI 102) k o r
theorem mC_no {s : Int32} (h1 : ¬ s = kI 42) (h2 : ¬ s = kI 47) : mC s = [] := by
  unfold mC
  rw [if_neg h1, if_neg h2]
/-! the class's steps -/
def stpC (q : Cd) : List Int32 := match q.1 with
  | 0 => [q.2]
  | 1 => [kI 10000 + q.2]
  | 2 => [kI (-43)]
  | 3 => [kI (-45)]
  | 4 => [kI (-42)]
  | 5 => [kI (-47)]
  | 6 => [kI (-60)]
  | 7 => [kI (-61)]
  | 8 => [kI (-62)]
  | 9 => if q.2.toInt % 2 = 1 then [kI (-23)] else []
  | 10 => [kI (-22)]
  | _ => [kI (-21)]
def stC (o : List Cd) : List Int32 := o.flatMap stpC
theorem stC_app {a b : List Cd} : stC (a ++ b) = stC a ++ stC b := List.flatMap_append ..
theorem stC_one {q : Cd} : stC [q] = stpC q := by
  show stpC q ++ [] = stpC q
  rw [List.append_nil]
/-- the draft's steps -/
def stp (M : pMem) (L : List Int32) : Prop := (M 7 1).toInt = L.length ∧ L.length ≤ 500 ∧ ∀ i x, L[i]? = some x → M 12 i = x
theorem D_155_s {M : pMem} {L : List Int32} (h : stp M L) (hl : L.length < 500) {x : Int32} {v : Unit} {N : pMem} (hD : D_155 7 x M v N) : stp N (L ++ [x]) ∧ N 6 = M 6 := by
  obtain ⟨h1, h2, h3⟩ := h
  have hD := tIf_n (show ¬ M 7 1 < 0 by rw [i_lt, h1, i_0]; omega) hD
  have hD := tIf_n (show ¬ kI 500 ≤ M 7 1 by rw [i_le, h1, kI_toInt (by decide) (by decide)]; omega) hD
  obtain ⟨_, M1, e1, M2, e2, _, hN⟩ := hD
  rw [ix_of h1] at e1
  rw [hN]
  refine ⟨⟨?_, ?_, fun i y hi => ?_⟩, ?_⟩
  · rw [e2, aPut_same, e1, aPut_cell (by decide), i_add1 (by omega), h1, List.length_append, List.length_singleton]
    omega
  · rw [List.length_append, List.length_singleton]
    omega
  · rw [e2, aPut_cell (by decide), e1, aPut_row]
    by_cases e : i = L.length
    · rw [if_pos e]
      rw [e, List.getElem?_append_right (Nat.le_refl _), Nat.sub_self] at hi
      exact (Option.some.inj hi)
    · rw [if_neg e]
      have hlt := (List.getElem?_eq_some_iff.mp hi).1
      rw [List.length_append, List.length_singleton] at hlt
      rw [List.getElem?_append_left (by omega)] at hi
      exact h3 i y hi
  · funext j
    rw [e2, aPut_cell (by decide), e1, aPut_cell (by decide)]
/-- the class stands at token k, its draft holds the steps of o, fewer than tokens were read -/
def cL (M : pMem) (B : Nat → Int32) (n c k : Nat) (o : List Cd) : Prop := rdR M B n c k ∧ stp M (stC o) ∧ (stC o).length ≤ k
theorem cL_put {M : pMem} {B : Nat → Int32} {n c k : Nat} {o : List Cd} {q : Cd} {x : Int32} (h : cL M B n c k o) (hq : stpC q = [x]) (h5 : (stC o).length < 500) {v : Unit} {N : pMem} (hD : D_155 7 x M v N) : rdR N B n c k ∧ stp N (stC (o ++ [q])) ∧ N 6 = M 6 ∧ (stC (o ++ [q])).length = (stC o).length + 1 := by
  obtain ⟨h1, h2, h3⟩ := h
  obtain ⟨s1, s2⟩ := D_155_s h2 h5 hD
  have f := F_155 (show pK 2 7 = true by decide +kernel) hD
  have e : stC (o ++ [q]) = stC o ++ [x] := by rw [stC_app, stC_one, hq]
  refine ⟨zR_fr h1 f (fun j => rfl) (by rw [s2]; exact h1.2.2.2.2.1), by rw [e]; exact s1, s2, by rw [e, List.length_append, List.length_singleton]⟩
theorem cl_adv {M M1 : pMem} {B : Nat → Int32} {n c k : Nat} {L : List Int32} (h : rdR M B n c k) (hs : stp M L) (hT : ¬ yT B n k = kI 101) (e : M1 = aPut M 6 3 (M 6 3 + kI 1)) : rdR M1 B n c (k + 1) ∧ stp M1 L ∧ M1 6 4 = M 6 4 ∧ M1 6 5 = M 6 5 ∧ k < 500 := by
  have hk := zR_k h hT
  obtain ⟨b1, b2, b3⟩ := at_put h.2.2.2.2.1 (by omega) e
  have f : pFr [(6, 3)] M M1 := fun a j _ _ q => by
    simp only [pOut_cons, pOut_nil, true_or, and_true] at q
    rw [e]
    by_cases ea : a = 6
    · subst ea
      exact aPut_at (by omega)
    · exact aPut_cell ea
  obtain ⟨s1, s2, s3⟩ := hs
  exact ⟨zR_fr h f (fun j => rfl) b1, ⟨by rw [e, aPut_cell (by decide)]; exact s1, s2, fun i y hi => by rw [e, aPut_cell (by decide)]; exact s3 i y hi⟩, b2, b3, hk⟩
/-- how a reading function of the class ends (x: so many steps wait) -/
def cX (M N : pMem) (B : Nat → Int32) (n c k : Nat) (o : List Cd) (x : Nat) (v : Int32) (r : Rs) : Prop :=
  (r.1 = 0 → v = kI 1 ∧ N 6 4 = M 6 4 ∧ N 6 5 = M 6 5 ∧ rdR N B n c r.2.1 ∧ stp N (stC r.2.2) ∧ (stC r.2.2).length + k ≤ (stC o).length + x + r.2.1 ∧ k ≤ r.2.1 ∧ r.2.1 ≤ 500) ∧ (r.1 ≠ 0 → rdNo B n N v r.1 r.2.1)
theorem cX_no {M N : pMem} {B : Nat → Int32} {n c k x : Nat} {o : List Cd} {v : Int32} {r : Rs} (h : cX M N B n c k o x v r) (h0 : v = 0) : r.1 ≠ 0 := fun e => by
  have := (h.1 e).1
  rw [h0] at this
  exact absurd this (by decide)
theorem cX_ok {M N : pMem} {B : Nat → Int32} {n c k x : Nat} {o : List Cd} {v : Int32} {r : Rs} (h : cX M N B n c k o x v r) (h0 : ¬ v = 0) : r.1 = 0 :=
  Classical.byContradiction fun e => h0 (h.2 e).1
/-- one after another -/
theorem cX_then {M M1 N : pMem} {B : Nat → Int32} {n c k k1 x x1 : Nat} {o o1 : List Cd} {v : Int32} {r : Rs} (h : cX M1 N B n c k1 o1 x1 v r) (e4 : M1 6 4 = M 6 4) (e5 : M1 6 5 = M 6 5) (hk : k ≤ k1) (hg : (stC o1).length + x1 + k ≤ (stC o).length + x + k1) : cX M N B n c k o x v r := by
  refine ⟨fun e => ?_, h.2⟩
  obtain ⟨a1, a2, a3, a4, a5, a6, a7, a8⟩ := h.1 e
  exact ⟨a1, a2.trans e4, a3.trans e5, a4, a5, by omega, by omega, a8⟩
theorem unG_cg {T V : Nat → Int32} {k : Nat} {o : List Cd} {d d' : Prop} [Decidable d] [Decidable d'] (h : d ↔ d') : unG T V d k o = unG T V d' k o := by
  unfold unG
  by_cases a : T k = kI 100
  · rw [if_pos a, if_pos a]
    by_cases b : d ∧ V k = kI 0
    · rw [if_pos b, if_pos ⟨h.mp b.1, b.2⟩]
    · rw [if_neg b, if_neg (fun q => b ⟨h.mpr q.1, q.2⟩)]
  · rw [if_neg a, if_neg a]
    by_cases b : 0 ≤ (T k).toInt ∧ (T k).toInt ≤ 13 ∧ ¬ d
    · rw [if_pos b, if_pos ⟨b.1, b.2.1, fun q => b.2.2 (h.mpr q)⟩]
    · rw [if_neg b, if_neg (fun q => b ⟨q.1, q.2.1, fun e => q.2.2 (h.mp e)⟩)]
theorem D_180_w {M : pMem} {B : Nat → Int32} {n c k : Nat} {o : List Cd} (h : cL M B n c k o) {p : Int32} {v : Int32} {N : pMem} (hD : D_180 p M v N) : cX M N B n c k o 0 v (unG (yT B n) (yV B n) (¬ p = 0) k o) ∧ (¬ v = 0 → (unG (yT B n) (yV B n) (¬ p = 0) k o).2.1 = k + 1 ∧ k < 500 ∧ (stC (unG (yT B n) (yV B n) (¬ p = 0) k o).2.2).length = (stC o).length + 1) := by
  obtain ⟨h1, h2, h3⟩ := h
  obtain ⟨ht, hv', _⟩ := zR_t h1
  have fail : ∀ {f : Nat} {v1 : Int32} {M1 : pMem}, D_173 (kI f) M v1 M1 → v = v1 → N = M1 → rdNo B n N v f k := fun hD hv hN => by
    obtain ⟨r1, r2, r3, r4⟩ := D_173_w h1 hD
    rw [hN, hv]
    exact ⟨r1, r3, r4⟩
  have bad : ∀ {f : Nat}, rdNo B n N v f k → f ≠ 0 → cX M N B n c k o 0 v (f, k, o) ∧ (¬ v = 0 → k = k + 1 ∧ k < 500 ∧ (stC o).length = (stC o).length + 1) := fun h hf => ⟨⟨fun e => absurd e hf, fun _ => h⟩, fun q => absurd h.1 q⟩
  have good : ∀ {q : Cd} {x : Int32} {u : Unit} {M1 M2 : pMem}, ¬ yT B n k = kI 101 → stpC q = [x] → D_155 7 x M u M1 → M2 = aPut M1 6 3 (M1 6 3 + kI 1) → v = kI 1 → N = M2 → cX M N B n c k o 0 v (0, k + 1, o ++ [q]) ∧ (¬ v = 0 → k + 1 = k + 1 ∧ k < 500 ∧ (stC (o ++ [q])).length = (stC o).length + 1) := by
    intro q x u M1 M2 hT hq h155 e2 hv hN
    have hk := zR_k h1 hT
    obtain ⟨a1, a2, a3, a4⟩ := cL_put ⟨h1, h2, h3⟩ hq (by omega) h155
    obtain ⟨b1, b2, b3, b4, _⟩ := cl_adv a1 a2 hT (hN.trans e2)
    exact ⟨⟨fun _ => ⟨hv, by rw [b3, a3], by rw [b4, a3], b1, b2, by show (stC (o ++ [q])).length + k ≤ (stC o).length + 0 + (k + 1); omega, by show k ≤ k + 1; omega, by show k + 1 ≤ 500; omega⟩, fun e => absurd rfl e⟩, fun _ => ⟨rfl, hk, a4⟩⟩
  rcases hD with ⟨g, hD⟩ | ⟨g, hD⟩
  · rw [ht] at g
    unfold unG
    rw [if_neg g]
    rcases hD with ⟨g2, v1, M1, hD, hv, hN⟩ | ⟨g2, hD⟩
    · rw [ht, i_lt, i_0] at g2
      rw [if_neg (fun q => by omega)]
      exact bad (fail (f := 1) hD hv hN) (by decide)
    · rw [ht, i_lt, i_0] at g2
      rcases hD with ⟨g3, v1, M1, hD, hv, hN⟩ | ⟨g3, hD⟩
      · rw [ht, i_lt, kI_toInt (by decide) (by decide)] at g3
        rw [if_neg (fun q => by omega)]
        exact bad (fail (f := 1) hD hv hN) (by decide)
      · rw [ht, i_lt, kI_toInt (by decide) (by decide)] at g3
        rcases hD with ⟨g4, v1, M1, hD, hv, hN⟩ | ⟨g4, u, M1, h155, M2, e2, hv, hN⟩
        · rw [if_neg (fun q => q.2.2 g4)]
          exact bad (fail (f := 1) hD hv hN) (by decide)
        · rw [if_pos ⟨by omega, by omega, g4⟩]
          rw [ht] at h155
          refine good (q := (1, yT B n k)) (fun e => by rw [e, kI_toInt (by decide) (by decide)] at g3; omega) ?_ h155 e2 hv hN
          show [kI 10000 + yT B n k] = [kI 10000 + yT B n k - kI 0]
          rw [kIz, Int32.sub_zero]
  · have g : yT B n k = kI 100 := by rw [← ht]; exact Classical.not_not.mp g
    have n101 : ¬ yT B n k = kI 101 := by rw [g]; decide
    unfold unG
    rw [if_pos g]
    rw [hv'] at hD
    rcases hD with ⟨g2, u, M1, h155, M2, e2, hv, hN⟩ | ⟨g2, hD⟩
    · rw [if_neg (fun q => q.1 g2)]
      exact good (q := (0, yV B n k)) n101 rfl h155 e2 hv hN
    · rcases hD with ⟨g3, u, M1, h155, M2, e2, hv, hN⟩ | ⟨g3, v1, M1, hD, hv, hN⟩
      · rw [if_neg (fun q => g3 q.2)]
        exact good (q := (0, yV B n k)) n101 rfl h155 e2 hv hN
      · rw [if_pos ⟨g2, Classical.not_not.mp g3⟩]
        exact bad (fail (f := 2) hD hv hN) (by decide)
/-! the class reads E -/
def okW (w : Int32) : Prop := w = kI 102 ∨ w = kI 43 ∨ w = kI 45
def okS (s : Int32) : Prop := s = kI 102 ∨ s = kI 42 ∨ s = kI 47 ∨ s = kI 43 ∨ s = kI 45
theorem mC_st {s : Int32} : (stC (mC s)).length = (mC s).length ∧ (mC s).length ≤ 1 := by
  unfold mC
  repeat' split
  all_goals exact ⟨rfl, by decide⟩
theorem wqC_st {w : Int32} : (stC (wqC w)).length = (wqC w).length ∧ (wqC w).length ≤ 1 := by
  unfold wqC
  repeat' split
  all_goals exact ⟨rfl, by decide⟩
def sQ1 (B : Nat → Int32) (n c : Nat) (x1 x2 x3 : Int32) (M : pMem) (v : Int32) (N : pMem) : Prop := ∀ (k i : Nat) (o : List Cd), x3.toInt = i → 2 * i ≤ k → k ≤ 500 → rdR M B n c k → stp M (stC o) → (stC o).length + (wqC x1).length + (mC x2).length ≤ k → okW x1 → okS x2 →
  ∃ r, suP (yT B n) (yV B n) x1 x2 k o r ∧ cX M N B n c k o ((wqC x1).length + (mC x2).length) v r
def sQ10 (B : Nat → Int32) (n c : Nat) (x1 x3 : Int32) (M : pMem) (v : Int32) (N : pMem) : Prop := ∀ (k i : Nat) (o : List Cd), x3.toInt = i → 2 * i + 1 ≤ k → k ≤ 500 → rdR M B n c k → stp M (stC o) → (stC o).length + (wqC x1).length ≤ k → okW x1 →
  ∃ r, suR (yT B n) (yV B n) x1 k o r ∧ cX M N B n c k o (wqC x1).length v r
theorem S_179_1w {B : Nat → Int32} {n c : Nat} {P1 : Int32 → Int32 → Int32 → pMem → pT Int32} {P10 : Int32 → Int32 → pMem → pT Int32} (h10 : ∀ x1 x3 M v N, P10 x1 x3 M v N → sQ10 B n c x1 x3 M v N) {x1 x2 x3 : Int32} {M : pMem} {v : Int32} {N : pMem} (hs : S_179_1 P1 P10 x1 x2 x3 M v N) : sQ1 B n c x1 x2 x3 M v N := by
  intro k i o hx hik hk hr hst hl hw hsg
  rcases hs with ⟨g, _⟩ | ⟨_, hs⟩
  · rw [i_le, hx, kI_toInt (by decide) (by decide)] at g
    omega
  · -- behind a number or a fact
    have go : ∀ {p v1 : Int32} {M1 : pMem}, (¬ p = 0 ↔ x2 = kI 47) → D_180 p M v1 M1 → (tIf (¬ v1 = 0) (tIf (x2 = (kI 42)) (tCall (D_155 7 (-x2) M1) fun _ M2 => P10 x1 x3 M2) (tIf (¬ x2 = (kI 47)) (P10 x1 x3 M1) (tCall (D_155 7 (-x2) M1) fun _ M2 => P10 x1 x3 M2))) (tRet (kI 0) M1)) v N →
        ∃ r, suP (yT B n) (yV B n) x1 x2 k o r ∧ cX M N B n c k o ((wqC x1).length + (mC x2).length) v r := by
      intro p v1 M1 hp h180 hs
      obtain ⟨u1, u2⟩ := D_180_w ⟨hr, hst, by omega⟩ h180
      rw [unG_cg hp] at u1 u2
      rcases hs with ⟨g1, hs⟩ | ⟨g1, hv, hN⟩
      · have r0 := cX_ok u1 g1
        obtain ⟨a1, a2, a3, a4, a5, a6, a7, a8⟩ := u1.1 r0
        obtain ⟨b1, b2, b3⟩ := u2 g1
        have hu : ∃ u, u = unG (yT B n) (yV B n) (x2 = kI 47) k o := ⟨_, rfl⟩
        obtain ⟨⟨uf, uk, uo⟩, hu⟩ := hu
        rw [← hu] at a4 a5 b1 b3 r0
        have b1 : uk = k + 1 := b1
        have b3 : (stC uo).length = (stC o).length + 1 := b3
        have a4 : rdR M1 B n c uk := a4
        have a5 : stp M1 (stC uo) := a5
        have r0 : uf = 0 := r0
        -- a sign joins at once
        have join : ∀ {q : Cd} {x : Int32} {w : Unit} {M2 : pMem}, mC x2 = [q] → stpC q = [x] → D_155 7 x M1 w M2 → P10 x1 x3 M2 v N → ∃ r, suP (yT B n) (yV B n) x1 x2 k o r ∧ cX M N B n c k o ((wqC x1).length + (mC x2).length) v r := by
          intro q x w M2 hm hq h155 hs
          rw [hm, List.length_singleton] at hl
          obtain ⟨c1, c2, c3, c4⟩ := cL_put ⟨a4, a5, by omega⟩ hq (by omega) h155
          obtain ⟨r, r1, r2⟩ := h10 _ _ _ _ _ hs uk i (uo ++ [q]) hx (by omega) (by omega) c1 c2 (by omega) hw
          refine ⟨r, Or.inr ⟨by rw [← hu]; exact r0, by rw [← hu, hm]; exact r1⟩, ?_⟩
          rw [hm, List.length_singleton]
          exact cX_then r2 (by rw [c3]; exact a2) (by rw [c3]; exact a3) (by omega) (by omega)
        rcases hs with ⟨g2, w, M2, h155, hs⟩ | ⟨g2, hs⟩
        · exact join (q := (4, kI 0)) (by unfold mC; rw [if_pos g2]) (by rw [g2]; rfl) h155 hs
        · rcases hs with ⟨g3, hs⟩ | ⟨g3, w, M2, h155, hs⟩
          · have hm := mC_no g2 g3
            rw [hm, List.length_nil] at hl
            obtain ⟨r, r1, r2⟩ := h10 _ _ _ _ _ hs uk i uo hx (by omega) (by omega) a4 a5 (by omega) hw
            refine ⟨r, Or.inr ⟨by rw [← hu]; exact r0, by rw [← hu, hm, List.append_nil]; exact r1⟩, ?_⟩
            rw [hm, List.length_nil]
            exact cX_then r2 a2 a3 (by omega) (by omega)
          · have g3 := Classical.not_not.mp g3
            exact join (q := (5, kI 0)) (by unfold mC; rw [if_neg g2, if_pos g3]) (by rw [g3]; rfl) h155 hs
      · have r1 := cX_no u1 (Classical.not_not.mp g1)
        refine ⟨_, Or.inl ⟨r1, rfl⟩, fun e => absurd e r1, fun _ => ?_⟩
        obtain ⟨d1, d2, d3⟩ := u1.2 r1
        rw [hN]
        exact ⟨hv, d2, d3⟩
    rcases hs with ⟨g, v1, M1, h180, hs⟩ | ⟨g, v1, M1, h180, hs⟩
    · exact go (p := kI 0) ⟨fun q => absurd rfl q, fun q => absurd q g⟩ h180 hs
    · exact go (p := kI 1) ⟨fun _ => Classical.not_not.mp g, fun _ => by decide⟩ h180 hs
theorem S_179_10w {B : Nat → Int32} {n c : Nat} {P1 : Int32 → Int32 → Int32 → pMem → pT Int32} {P10 : Int32 → Int32 → pMem → pT Int32} (h1 : ∀ x1 x2 x3 M v N, P1 x1 x2 x3 M v N → sQ1 B n c x1 x2 x3 M v N) {x1 x3 : Int32} {M : pMem} {v : Int32} {N : pMem} (hs : S_179_10 P1 P10 x1 x3 M v N) : sQ10 B n c x1 x3 M v N := by
  intro k i o hx hik hk hr hst hl hw
  obtain ⟨ht, _, _⟩ := zR_t hr
  unfold S_179_10 at hs
  rw [ht] at hs
  generalize ht' : yT B n k = t at *
  have nx : (x3 + kI 1).toInt = ((i + 1 : Nat) : Int) := by rw [i_add1 (by omega), hx]; omega
  have mul : (t = kI 42 ∨ t = kI 47) → ∀ {M1 : pMem}, M1 = aPut M 6 3 (M 6 3 + kI 1) → P1 x1 t (x3 + kI 1) M1 v N → ∃ r, suR (yT B n) (yV B n) x1 k o r ∧ cX M N B n c k o (wqC x1).length v r := by
    intro ct M1 e hs
    have hT : ¬ yT B n k = kI 101 := by rw [ht']; rcases ct with ct | ct <;> rw [ct] <;> decide
    obtain ⟨b1, b2, b3, b4, b5⟩ := cl_adv hr hst hT e
    have m1 := (mC_st (s := t)).2
    have ok : okS t := by rcases ct with ct | ct <;> rw [ct] <;> unfold okS <;> simp
    obtain ⟨r, r1, r2⟩ := h1 _ _ _ _ _ _ hs (k + 1) (i + 1) o nx (by omega) (by omega) b1 b2 (by omega) hw ok
    exact ⟨r, suR_mul (by rw [ht']; exact ct) (by rw [ht']; exact r1), cX_then r2 b3 b4 (by omega) (by omega)⟩
  -- + and -, or none of all
  have tail : ∀ {M' : pMem}, ¬ (t = kI 42 ∨ t = kI 47) → rdR M' B n c k → stp M' (stC (o ++ wqC x1)) → M' 6 4 = M 6 4 → M' 6 5 = M 6 5 → (tIf (t = (kI 43)) (tPut (aPut M' 6 3 ((M' 6 3) + (kI 1))) fun M1 => P1 t t (x3 + kI 1) M1) (tIf (t = (kI 45)) (tPut (aPut M' 6 3 ((M' 6 3) + (kI 1))) fun M1 => P1 t t (x3 + kI 1) M1) (tRet (kI 1) M'))) v N →
      ∃ r, suR (yT B n) (yV B n) x1 k o r ∧ cX M N B n c k o (wqC x1).length v r := by
    intro M' nm hr' hst' q4 q5 hs
    have ol : (stC (o ++ wqC x1)).length = (stC o).length + (wqC x1).length := by rw [stC_app, List.length_append, (wqC_st (w := x1)).1]
    have add : (t = kI 43 ∨ t = kI 45) → ∀ {M1 : pMem}, M1 = aPut M' 6 3 (M' 6 3 + kI 1) → P1 t t (x3 + kI 1) M1 v N → ∃ r, suR (yT B n) (yV B n) x1 k o r ∧ cX M N B n c k o (wqC x1).length v r := by
      intro ct M1 e hs
      have hT : ¬ yT B n k = kI 101 := by rw [ht']; rcases ct with ct | ct <;> rw [ct] <;> decide
      obtain ⟨b1, b2, b3, b4, b5⟩ := cl_adv hr' hst' hT e
      have m0 : mC t = [] := mC_no (fun q => nm (Or.inl q)) (fun q => nm (Or.inr q))
      have w1 := (wqC_st (w := t)).2
      have ok : okS t := by rcases ct with ct | ct <;> rw [ct] <;> unfold okS <;> simp
      have okw : okW t := by rcases ct with ct | ct <;> rw [ct] <;> unfold okW <;> simp
      have m0l : (mC t).length = 0 := by rw [m0]; rfl
      obtain ⟨r, r1, r2⟩ := h1 _ _ _ _ _ _ hs (k + 1) (i + 1) (o ++ wqC x1) nx (by omega) (by omega) b1 b2 (by omega) okw ok
      exact ⟨r, suR_add (by rw [ht']; exact ct) (by rw [ht']; exact r1), cX_then r2 (b3.trans q4) (b4.trans q5) (by omega) (by omega)⟩
    rcases hs with ⟨g, M1, e, hs⟩ | ⟨g, hs⟩
    · exact add (Or.inl g) e hs
    · rcases hs with ⟨g2, M1, e, hs⟩ | ⟨g2, hv, hN⟩
      · exact add (Or.inr g2) e hs
      · refine ⟨_, suR_end (by rw [ht']; exact nm) (by rw [ht']; exact fun q => q.elim g g2), fun _ => ⟨hv, by rw [hN]; exact q4, by rw [hN]; exact q5, by rw [hN]; exact hr', by rw [hN]; exact hst', ?_, Nat.le_refl _, hk⟩, fun e => absurd rfl e⟩
        show (stC (o ++ wqC x1)).length + k ≤ (stC o).length + (wqC x1).length + k
        omega
  rcases hs with ⟨g, M1, e, hs⟩ | ⟨g, hs⟩
  · exact mul (Or.inl g) e hs
  · rcases hs with ⟨g2, M1, e, hs⟩ | ⟨g2, hs⟩
    · exact mul (Or.inr g2) e hs
    · have nm : ¬ (t = kI 42 ∨ t = kI 47) := fun q => q.elim g g2
      rcases hs with ⟨g3, hs⟩ | ⟨g3, w, M1, h155, hs⟩
      · have w0 : wqC x1 = [] := by rw [g3]; rfl
        exact tail nm hr (by rw [w0, List.append_nil]; exact hst) rfl rfl hs
      · obtain ⟨q, hq, hx1⟩ : ∃ q, wqC x1 = [q] ∧ stpC q = [-x1] := by
          rcases hw with e | e | e
          · exact absurd e g3
          · rw [e]; exact ⟨(2, kI 0), rfl, rfl⟩
          · rw [e]; exact ⟨(3, kI 0), rfl, rfl⟩
        rw [hq, List.length_singleton] at hl
        obtain ⟨c1, c2, c3, c4⟩ := cL_put ⟨hr, hst, by omega⟩ hx1 (by omega) h155
        exact tail nm c1 (by rw [hq]; exact c2) (by rw [c3]) (by rw [c3]) hs
theorem D_179_w {M : pMem} {B : Nat → Int32} {n c k : Nat} {o : List Cd} (h : cL M B n c k o) (hk : k ≤ 500) {v : Int32} {N : pMem} (hD : D_179 M v N) : ∃ r, suS (yT B n) (yV B n) k o r ∧ cX M N B n c k o 0 v r :=
  hD (sQ1 B n c, sQ10 B n c) ⟨fun _ _ _ _ _ _ hs => S_179_1w (fun _ _ _ _ _ h => h) hs, fun _ _ _ _ _ hs => S_179_10w (fun _ _ _ _ _ _ h => h) hs⟩ k 0 o rfl (by omega) hk h.1 h.2.1 h.2.2 (Or.inl rfl) (Or.inl rfl)
/-! the reference reads E -/
def rcC (q : Cd) : List (Int32 × Int32) := match q.1 with
  | 9 => List.replicate q.2.toInt.toNat (kI 9, kI 0)
  | m => [(kI m, q.2)]
def rcO (o : List Cd) : List (Int32 × Int32) := o.flatMap rcC
theorem rcO_app {a b : List Cd} : rcO (a ++ b) = rcO a ++ rcO b := List.flatMap_append ..
theorem rcO_one {q : Cd} : rcO [q] = rcC q := by
  show rcC q ++ [] = rcC q
  rw [List.append_nil]
/-- the draft's codes -/
def rcd (M : pMem) (L : List (Int32 × Int32)) : Prop := (M 188 38).toInt = L.length ∧ ∀ i x, L[i]? = some x → M 210 (2000 + i) = x.1 ∧ M 211 (2000 + i) = x.2
theorem rcd_fr {M N : pMem} {L : List (Int32 × Int32)} {S : List (Nat × Nat)} (h : rcd M L) (f : pFr S M N) (k : (pOut S 188 38 && (pNo S 210 && pNo S 211)) = true) : rcd N L := by
  simp only [Bool.and_eq_true] at k
  refine ⟨by rw [f 188 38 (by decide) rfl k.1]; exact h.1, fun i x hi => ?_⟩
  rw [f 210 _ (by decide) rfl (pNo_out k.2.1 _), f 211 _ (by decide) rfl (pNo_out k.2.2 _)]
  exact h.2 i x hi
section RS
variable {M N : pMem} {B : Nat → Int32} {n k : Nat} {o : List Cd} {v : Int32}
theorem D_69_w {L : List (Int32 × Int32)} (h : rcd M L) {a b : Int32} {u : Unit} (hD : D_69 a b M u N) : rcd N (L ++ [(a, b)]) := by
  obtain ⟨g, M1, e1, _, M2, e2, M3, e3, _, hN⟩ := hD
  obtain ⟨h1, h2⟩ := h
  have hl : L.length < 500 := by
    obtain ⟨g1, g2⟩ := g
    have rg := i_rg (M 188 38)
    by_cases c : (M 188 38).toInt ≤ 2147481647
    · rw [i_add (by rw [kI_toInt (by decide) (by decide)]; omega) (by rw [kI_toInt (by decide) (by decide)]; omega), kI_toInt (by decide) (by decide), h1] at g2
      omega
    · exfalso
      have e : (kI 2000 + M 188 38).toInt = (M 188 38).toInt + 2000 - 4294967296 := by
        have q : kI 2000 + M 188 38 = Int32.ofInt (2000 + (M 188 38).toInt) := by rw [Int32.ofInt_add, Int32.ofInt_toInt]
        rw [q, Int32.toInt_ofInt, Int.bmod_def, show Int32.size = 4294967296 from rfl]
        omega
      rw [e] at g1
      omega
  have i1 : ix (kI 2000 + M 188 38) = 2000 + L.length := ix_of (by rw [i_add (by rw [kI_toInt (by decide) (by decide)]; omega) (by rw [kI_toInt (by decide) (by decide)]; omega), kI_toInt (by decide) (by decide), h1]; omega)
  have q1 : M1 188 38 = M 188 38 := by rw [e1, aPut_cell (by decide)]
  rw [q1, i1] at e2
  rw [i1] at e1
  rw [hN]
  refine ⟨?_, fun i x hi => ?_⟩
  · rw [e3, aPut_same, e2, aPut_cell (by decide), q1, i_add1 (by omega), h1, List.length_append, List.length_singleton]
    omega
  · rw [e3, aPut_cell (by decide), aPut_cell (by decide), e2, aPut_cell (by decide), aPut_row, e1, aPut_row, aPut_cell (by decide)]
    by_cases e : i = L.length
    · rw [if_pos (by omega), if_pos (by omega)]
      rw [e, List.getElem?_append_right (Nat.le_refl _), Nat.sub_self] at hi
      have := Option.some.inj hi
      rw [← this]
      exact ⟨rfl, rfl⟩
    · rw [if_neg (by omega), if_neg (by omega)]
      have hlt := (List.getElem?_eq_some_iff.mp hi).1
      rw [List.length_append, List.length_singleton] at hlt
      rw [List.getElem?_append_left (by omega)] at hi
      exact h2 i x hi
theorem D_69_c {q : Cd} (h : rcd M (rcO o)) (hr : rR M B n k) {a b : Int32} (hq : rcC q = [(a, b)]) {u : Unit} (hD : D_69 a b M u N) : rcd N (rcO (o ++ [q])) ∧ rR N B n k := by
  refine ⟨?_, rR_fr hr (F_69 hD) rfl (fun j => rfl)⟩
  rw [rcO_app, rcO_one, hq]
  exact D_69_w h hD
theorem D_65_c {u : Unit} (h : rcd M (rcO o)) (hr : rR M B n k) (hD : D_65 M u N) : rcd N (rcO o) ∧ rR N B n (k + 1) := ⟨rcd_fr h (F_65 hD) (by decide +kernel), rR_next hr hD⟩
/-- signs and words as the reference sees them -/
theorem rR_sg (h : rR M B n k) {s : Int} (h1 : 40 ≤ s) (h2 : s ≤ 62) : ¬ f_68 (kI s) M = 0 ↔ yT B n k = kI s := by
  have c := xRel_c (rR_t h).1
  unfold f_68
  rw [show (yT B n k = kI s) = ((yT B n k).toInt = s) from propext (yk (by omega) (by omega))]
  by_cases c1 : M 188 27 = kI 4
  · rw [if_neg (nn c1)]
    rw [yk (by decide) (by decide)] at c1
    by_cases c2 : M 188 28 = kI s
    · rw [if_neg (nn c2)]
      refine ⟨fun _ => ?_, fun _ => by decide⟩
      rcases c with c | c | ⟨r, _, c⟩ | c | ⟨_, _, _, c⟩
      · omega
      · omega
      · omega
      · omega
      · rw [← c, c2, kI_toInt (by omega) (by omega)]
    · rw [if_pos c2]
      refine ⟨fun q => absurd rfl q, fun e => ?_⟩
      rcases c with c | c | ⟨r, _, c⟩ | c | ⟨_, _, _, c⟩
      · omega
      · omega
      · omega
      · omega
      · rw [c, yk (by omega) (by omega)] at c2
        exact absurd e c2
  · rw [if_pos c1]
    refine ⟨fun q => absurd rfl q, fun e => ?_⟩
    rw [yk (by decide) (by decide)] at c1
    rcases c with c | c | ⟨r, c0, c⟩ | c | ⟨_, _, c, _⟩
    · omega
    · omega
    · omega
    · omega
    · exact absurd c c1
theorem rR_wd (h : rR M B n k) {r : Nat} (hr : r < 29) : ¬ f_67 (kI r) M = 0 ↔ yT B n k = kI (xCw r) := by
  have c := xRel_c (rR_t h).1
  have hx := xCw_lt r hr
  unfold f_67
  rw [show (yT B n k = kI (xCw r)) = ((yT B n k).toInt = (xCw r : Int)) from propext (yk (by omega) (by omega))]
  by_cases c1 : M 188 27 = kI 2
  · rw [if_neg (nn c1)]
    rw [yk (by decide) (by decide)] at c1
    by_cases c2 : M 188 28 = kI r
    · rw [if_neg (nn c2)]
      refine ⟨fun _ => ?_, fun _ => by decide⟩
      rw [yk (by omega) (by omega)] at c2
      rcases c with c | c | ⟨r', _, c, _, _, c'⟩ | c | c
      · omega
      · omega
      · rw [c, show r' = r by omega]
      · omega
      · omega
    · rw [if_pos c2]
      refine ⟨fun q => absurd rfl q, fun e => ?_⟩
      rw [yk (by omega) (by omega)] at c2
      rcases c with c | c | ⟨r', hr', c, _, _, c'⟩ | c | c
      · omega
      · omega
      · have hx' := xCw_lt r' hr'
        have : xCw r' = xCw r := by omega
        rw [← hx'.2, this, hx.2] at c'
        exact absurd c' c2
      · omega
      · omega
  · rw [if_pos c1]
    refine ⟨fun q => absurd rfl q, fun e => ?_⟩
    rw [yk (by decide) (by decide)] at c1
    rcases c with c | c | ⟨r', c0, c⟩ | c | c
    · omega
    · omega
    · omega
    · omega
    · omega
/-- how a reading function of the reference ends -/
def rE (N : pMem) (B : Nat → Int32) (n : Nat) (v : Int32) (r : Rs) : Prop := (r.1 = 0 → v = kI 0 ∧ rR N B n r.2.1 ∧ rcd N (rcO r.2.2)) ∧ (r.1 ≠ 0 → rNo B n N v r.1 r.2.1)
theorem rE_ok {r : Rs} (h : rE N B n v r) (h0 : ¬ v = kI (-1)) : r.1 = 0 := Classical.byContradiction fun e => h0 (h.2 e).1
theorem rE_no {r : Rs} (h : rE N B n v r) (h0 : v = kI (-1)) : r.1 ≠ 0 := fun e => by
  have := (h.1 e).1
  rw [h0] at this
  exact absurd this (by decide)
theorem rE_bad {f k' : Nat} {o' : List Cd} (h : rNo B n N v f k') (hf : f ≠ 0) : rE N B n v (f, k', o') := ⟨fun e => absurd e hf, fun _ => h⟩
theorem D_70_w (hr : rR M B n k) (ho : rcd M (rcO o)) (hD : D_70 M v N) : rE N B n v (unG (yT B n) (yV B n) False k o) := by
  have c := xRel_c (rR_t hr).1
  have e2 : M 188 27 = kI 2 ↔ (M 188 27).toInt = 2 := yk (by decide) (by decide)
  have e3 : M 188 27 = kI 3 ↔ (M 188 27).toInt = 3 := yk (by decide) (by decide)
  have e15 : M 188 28 < kI 15 ↔ (M 188 28).toInt < 15 := by rw [i_lt, kI_toInt (by decide) (by decide)]
  have t100 : yT B n k = kI 100 ↔ (yT B n k).toInt = 100 := yk (by decide) (by decide)
  have bad : ∀ {v1 : Int32} {M1 : pMem}, ¬ (yT B n k).toInt = 100 → ¬ (0 ≤ (yT B n k).toInt ∧ (yT B n k).toInt ≤ 13) → D_66 (kI 1) M v1 M1 → v = v1 → N = M1 → rE N B n v (unG (yT B n) (yV B n) False k o) := by
    intro v1 M1 q1 q2 hD hv hN
    unfold unG
    rw [if_neg (fun q => q1 (t100.mp q)), if_neg (fun q => q2 ⟨q.1, q.2.1⟩)]
    rw [hN, hv]
    exact rE_bad (D_66_w (f := 1) hr hD) (by decide)
  have num : ∀ {u1 u2 : Unit} {M1 M2 : pMem}, (M 188 27).toInt = 3 → D_69 (kI 0) (M 188 28) M u1 M1 → D_65 M1 u2 M2 → v = kI 0 → N = M2 → rE N B n v (unG (yT B n) (yV B n) False k o) := by
    intro u1 u2 M1 M2 q1 h69 h65 hv hN
    have q2 : (yT B n k).toInt = 100 ∧ M 188 28 = yV B n k := by
      rcases c with c | c | ⟨r, _, c⟩ | c | c
      · omega
      · omega
      · omega
      · exact ⟨c.1, c.2.2⟩
      · omega
    rw [q2.2] at h69
    obtain ⟨a1, a2⟩ := D_69_c (q := (0, yV B n k)) ho hr rfl h69
    obtain ⟨b1, b2⟩ := D_65_c a1 a2 h65
    unfold unG
    rw [if_pos (t100.mpr q2.1), if_neg (fun q => q.1)]
    rw [hN]
    exact ⟨fun _ => ⟨hv, b2, b1⟩, fun e => absurd rfl e⟩
  rcases hD with ⟨g, hD⟩ | ⟨g, hD⟩
  · rw [e2] at g
    rcases hD with ⟨g2, _, M1, h69, _, M2, h65, hv, hN⟩ | ⟨g2, v1, M1, hD, hv, hN⟩
    · exact num (e3.mp g2) h69 h65 hv hN
    · rw [e3] at g2
      refine bad ?_ ?_ hD hv hN
      · rcases c with c | c | ⟨r, _, c⟩ | c | c <;> omega
      · rcases c with c | c | ⟨r, _, c⟩ | c | c <;> omega
  · have g := e2.mp (Classical.not_not.mp g)
    obtain ⟨r, r29, cT, cx, _, cv⟩ : ∃ r : Nat, r < 29 ∧ (yT B n k).toInt = xCw r ∧ xCw r < 29 ∧ (M 188 27).toInt = 2 ∧ (M 188 28).toInt = r := by
      rcases c with c | c | c | c | c
      · omega
      · omega
      · exact c
      · omega
      · omega
    have cw := xCw_pl r r29
    rcases hD with ⟨g2, hD⟩ | ⟨g2, _, M1, h69, _, M2, h65, hv, hN⟩
    · rw [e15] at g2
      rcases hD with ⟨g3, _⟩ | ⟨_, v1, M1, hD, hv, hN⟩
      · rw [e3] at g3
        omega
      · refine bad (by omega) (fun q => ?_) hD hv hN
        have : ¬ 15 ≤ r := by omega
        exact this (cw.2.2.2.2.1.mpr (by omega))
    · rw [e15] at g2
      have r15 : 15 ≤ r := by omega
      have x13 := cw.2.2.2.2.1.mp r15
      have xr := cw.2.2.2.2.2.1 r15
      have ea : M 188 28 - kI 15 = yT B n k := by
        rw [i_eq, i_sub (by rw [kI_toInt (by decide) (by decide)]; omega) (by rw [kI_toInt (by decide) (by decide)]; omega), kI_toInt (by decide) (by decide)]
        omega
      rw [ea] at h69
      obtain ⟨a1, a2⟩ := D_69_c (q := (1, yT B n k)) ho hr rfl h69
      obtain ⟨b1, b2⟩ := D_65_c a1 a2 h65
      unfold unG
      rw [if_neg (fun q => by have := t100.mp q; omega), if_pos ⟨by omega, by omega, fun q => q⟩]
      rw [hN]
      exact ⟨fun _ => ⟨hv, b2, b1⟩, fun e => absurd rfl e⟩
end RS
/-- behind a number or a fact of the reference: as far as * and / go -/
def rQ2 (B : Nat → Int32) (n : Nat) (M : pMem) (v : Int32) (N : pMem) : Prop := ∀ (k : Nat) (o : List Cd), rR M B n k → rcd M (rcO o) →
  (v = kI 0 ∧ ∃ k' o', rR N B n k' ∧ rcd N (rcO o') ∧ ¬ (yT B n k' = kI 42 ∨ yT B n k' = kI 47) ∧ ∀ w r, suR (yT B n) (yV B n) w k' o' r → suR (yT B n) (yV B n) w k o r) ∨
  (∃ f k' o', f ≠ 0 ∧ rNo B n N v f k' ∧ ∀ w, suR (yT B n) (yV B n) w k o (f, k', o'))
theorem S_71_2w {B : Nat → Int32} {n : Nat} {P2 : pMem → pT Int32} (hP : ∀ M v N, P2 M v N → rQ2 B n M v N) {M : pMem} {v : Int32} {N : pMem} (hs : S_71_2 P2 M v N) : rQ2 B n M v N := by
  intro k o hr ho
  have s42 := rR_sg hr (s := 42) (by decide) (by decide)
  have s47 := rR_sg hr (s := 47) (by decide) (by decide)
  -- behind the sign t: u is what is read
  have unit : ∀ {t : Int32} {code : Nat} {M1 M2 : pMem} {v2 : Int32}, yT B n k = t → (t = kI 42 ∧ code = 4 ∨ t = kI 47 ∧ code = 5) → rR M1 B n (k + 1) → rcd M1 (rcO o) → (t = kI 47 → yT B n (k + 1) = kI 100 ∧ ¬ yV B n (k + 1) = kI 0) → D_70 M1 v2 M2 →
      (tIf (¬ v2 = (kI (-1))) (tCall (D_69 (kI code) (kI 0) M2) fun _ M3 => P2 M3) (tRet (kI (-1)) M2)) v N →
      (v = kI 0 ∧ ∃ k' o', rR N B n k' ∧ rcd N (rcO o') ∧ ¬ (yT B n k' = kI 42 ∨ yT B n k' = kI 47) ∧ ∀ w r, suR (yT B n) (yV B n) w k' o' r → suR (yT B n) (yV B n) w k o r) ∨
      (∃ f k' o', f ≠ 0 ∧ rNo B n N v f k' ∧ ∀ w, suR (yT B n) (yV B n) w k o (f, k', o')) := by
    intro t code M1 M2 v2 ht hc r1 o1 hd h70 hs
    have u := D_70_w r1 o1 h70
    have cm : yT B n k = kI 42 ∨ yT B n k = kI 47 := by rw [ht]; exact hc.elim (fun q => Or.inl q.1) (fun q => Or.inr q.1)
    -- a number that is no 0 is read alike behind a /
    have same : unG (yT B n) (yV B n) False (k + 1) o = unG (yT B n) (yV B n) (yT B n k = kI 47) (k + 1) o := by
      by_cases e : yT B n k = kI 47
      · obtain ⟨q1, q2⟩ := hd (by rw [← ht]; exact e)
        unfold unG
        rw [if_pos q1, if_pos q1, if_neg (fun q => q.1), if_neg (fun q => q2 q.2)]
      · exact unG_cg ⟨fun q => q.elim, fun q => e q⟩
    have hm : mC (yT B n k) = [(code, kI 0)] := by
      rw [ht]
      unfold mC
      rcases hc with ⟨q1, q2⟩ | ⟨q1, q2⟩
      · rw [if_pos q1, q2]
      · rw [if_neg (by rw [q1]; decide), if_pos q1, q2]
    rw [same] at u
    rcases hs with ⟨g, _, M3, h69, hs⟩ | ⟨g, hv, hN⟩
    · have r0 := rE_ok u g
      obtain ⟨_, a2, a3⟩ := u.1 r0
      obtain ⟨b1, b2⟩ := D_69_c (q := (code, kI 0)) a3 a2 (by rcases hc with ⟨_, q2⟩ | ⟨_, q2⟩ <;> rw [q2] <;> rfl) h69
      rw [← hm] at b1
      rcases hP _ _ _ hs _ _ b2 b1 with ⟨e1, k', o', e2, e3, e4, e5⟩ | ⟨f, k', o', e1, e2, e3⟩
      · exact Or.inl ⟨e1, k', o', e2, e3, e4, fun w r hr => suR_mul cm (Or.inr ⟨r0, e5 w r hr⟩)⟩
      · exact Or.inr ⟨f, k', o', e1, e2, fun w => suR_mul cm (Or.inr ⟨r0, e3 w⟩)⟩
    · have r1 := rE_no u (Classical.not_not.mp g)
      obtain ⟨d1, d2, d3⟩ := u.2 r1
      refine Or.inr ⟨_, _, _, r1, ?_, fun w => suR_mul cm (Or.inl ⟨r1, rfl⟩)⟩
      rw [hN]
      exact ⟨hv, d2, d3⟩
  -- behind / : no number, or 0
  have f68 : ∀ {x : Int32}, ¬ f_68 (kI 42) M = 0 → yT B n k = x → x = kI 42 := fun g e => by rw [← e]; exact s42.mp g
  rcases hs with ⟨g, _, M1, h65, hs⟩ | ⟨g, hs⟩
  · have tt := s42.mp g
    obtain ⟨o1, r1⟩ := D_65_c ho hr h65
    have hs := tIf_p g hs
    have hs := tIf_p g hs
    obtain ⟨v2, M2, h70, hs⟩ := hs
    refine unit (t := kI 42) (code := 4) tt (Or.inl ⟨rfl, rfl⟩) r1 o1 (fun e => absurd e (by decide)) h70 ?_
    rcases hs with ⟨g2, hs⟩ | ⟨g2, hs⟩
    · exact Or.inl ⟨g2, tIf_n g hs⟩
    · exact Or.inr ⟨g2, hs⟩
  · have n42 : ¬ yT B n k = kI 42 := fun e => absurd (s42.mpr e) g
    have g0 := Classical.not_not.mp g
    rcases hs with ⟨g2, hv, hN⟩ | ⟨g2, _, M1, h65, hs⟩
    · refine Or.inl ⟨hv, k, o, by rw [hN]; exact hr, by rw [hN]; exact ho, fun q => q.elim n42 (fun q => absurd g2 (s47.mpr q)), fun w r h => h⟩
    · have tt := s47.mp g2
      have cm : yT B n k = kI 42 ∨ yT B n k = kI 47 := Or.inr tt
      obtain ⟨o1, r1⟩ := D_65_c ho hr h65
      have hs := tIf_n g hs
      obtain ⟨m1, m2⟩ := rR_num r1
      rcases hs with ⟨g3, hs⟩ | ⟨g3, v2, M2, h66, hv, hN⟩
      · have hs := tIf_n g hs
        have t100 := m1.mp g3
        rcases hs with ⟨g4, v2, M2, h70, hs⟩ | ⟨g4, v2, M2, h66, hv, hN⟩
        · rw [m2 g3] at g4
          refine unit (t := kI 47) (code := 5) tt (Or.inr ⟨rfl, rfl⟩) r1 o1 (fun _ => ⟨t100, g4⟩) h70 ?_
          rcases hs with ⟨g5, hs⟩ | ⟨g5, hs⟩
          · exact Or.inl ⟨g5, tIf_p g0 hs⟩
          · exact Or.inr ⟨g5, hs⟩
        · have g4 := Classical.not_not.mp g4
          rw [m2 g3] at g4
          have e : unG (yT B n) (yV B n) (yT B n k = kI 47) (k + 1) o = (2, k + 1, o) := by
            unfold unG
            rw [if_pos t100, if_pos ⟨tt, g4⟩]
          refine Or.inr ⟨2, k + 1, o, by decide, ?_, fun w => suR_mul cm (Or.inl ⟨by rw [e]; exact (show (2 : Nat) ≠ 0 by decide), e.symm⟩)⟩
          rw [hN, hv]
          exact D_66_w (f := 2) r1 h66
      · have n100 : ¬ yT B n (k + 1) = kI 100 := fun q => g3 (m1.mpr q)
        have e : unG (yT B n) (yV B n) (yT B n k = kI 47) (k + 1) o = (1, k + 1, o) := by
          unfold unG
          rw [if_neg n100, if_neg (fun q => q.2.2 tt)]
        refine Or.inr ⟨1, k + 1, o, by decide, ?_, fun w => suR_mul cm (Or.inl ⟨by rw [e]; exact (show (1 : Nat) ≠ 0 by decide), e.symm⟩)⟩
        rw [hN, hv]
        exact D_66_w (f := 1) r1 h66
/-- numbers and facts with * and / between, of the reference -/
theorem D_71_w {M : pMem} {B : Nat → Int32} {n k : Nat} {o : List Cd} {v : Int32} {N : pMem} (hr : rR M B n k) (ho : rcd M (rcO o)) (hD : D_71 M v N) :
    (v = kI 0 ∧ ∃ k' o', rR N B n k' ∧ rcd N (rcO o') ∧ ¬ (yT B n k' = kI 42 ∨ yT B n k' = kI 47) ∧ ∀ w s r, ¬ s = kI 42 → ¬ s = kI 47 → suR (yT B n) (yV B n) w k' o' r → suP (yT B n) (yV B n) w s k o r) ∨
    (∃ f k' o', f ≠ 0 ∧ rNo B n N v f k' ∧ ∀ w s, ¬ s = kI 42 → ¬ s = kI 47 → suP (yT B n) (yV B n) w s k o (f, k', o')) := by
  obtain ⟨v1, M1, h70, hs⟩ := hD
  have u := D_70_w hr ho h70
  have cg : ∀ s : Int32, ¬ s = kI 47 → unG (yT B n) (yV B n) False k o = unG (yT B n) (yV B n) (s = kI 47) k o := fun s hs => unG_cg ⟨fun q => q.elim, fun q => hs q⟩
  rcases hs with ⟨g, hs⟩ | ⟨g, hv, hN⟩
  · have r0 := rE_ok u g
    obtain ⟨_, a2, a3⟩ := u.1 r0
    have q : rQ2 B n M1 v N := hs (rQ2 B n) (fun _ _ _ h => S_71_2w (fun _ _ _ h => h) h)
    rcases q _ _ a2 a3 with ⟨e1, k', o', e2, e3, e4, e5⟩ | ⟨f, k', o', e1, e2, e3⟩
    · refine Or.inl ⟨e1, k', o', e2, e3, e4, fun w s r n1 n2 h => Or.inr ⟨by rw [← cg s n2]; exact r0, ?_⟩⟩
      rw [← cg s n2, mC_no n1 n2, List.append_nil]
      exact e5 w r h
    · refine Or.inr ⟨f, k', o', e1, e2, fun w s n1 n2 => Or.inr ⟨by rw [← cg s n2]; exact r0, ?_⟩⟩
      rw [← cg s n2, mC_no n1 n2, List.append_nil]
      exact e3 w
  · have r1 := rE_no u (Classical.not_not.mp g)
    obtain ⟨d1, d2, d3⟩ := u.2 r1
    refine Or.inr ⟨_, _, _, r1, ?_, fun w s n1 n2 => Or.inl ⟨by rw [← cg s n2]; exact r1, (cg s n2)⟩⟩
    rw [hN]
    exact ⟨hv, d2, d3⟩
theorem suR_w {T V : Nat → Int32} {w : Int32} {k : Nat} {o : List Cd} {r : Rs} (hm : ¬ (T k = kI 42 ∨ T k = kI 47)) (h : suR T V (kI 102) k (o ++ wqC w) r) : suR T V w k o r := by
  obtain ⟨a, n, e⟩ := h
  refine ⟨a, n, ?_⟩
  cases n with
  | zero =>
    rw [← e] at a
    exact absurd rfl a
  | succ n =>
    unfold suG at e ⊢
    rw [if_neg hm] at e ⊢
    have w0 : wqC (kI 102) = [] := rfl
    rw [w0, List.append_nil] at e
    exact e
def rQ72 (B : Nat → Int32) (n : Nat) (M : pMem) (v : Int32) (N : pMem) : Prop := ∀ (k : Nat) (o : List Cd), rR M B n k → rcd M (rcO o) → ¬ (yT B n k = kI 42 ∨ yT B n k = kI 47) → ∃ r, suR (yT B n) (yV B n) (kI 102) k o r ∧ rE N B n v r
theorem S_72_2w {B : Nat → Int32} {n : Nat} {P2 : pMem → pT Int32} (hP : ∀ M v N, P2 M v N → rQ72 B n M v N) {M : pMem} {v : Int32} {N : pMem} (hs : S_72_2 P2 M v N) : rQ72 B n M v N := by
  intro k o hr ho hm
  have s43 := rR_sg hr (s := 43) (by decide) (by decide)
  have s45 := rR_sg hr (s := 45) (by decide) (by decide)
  have w0 : wqC (kI 102) = [] := rfl
  have prod : ∀ {t : Int32} {code : Nat} {M1 M2 : pMem} {v2 : Int32} {u : Unit}, yT B n k = t → (t = kI 43 ∧ code = 2 ∨ t = kI 45 ∧ code = 3) → D_65 M u M1 → D_71 M1 v2 M2 →
      (tIf (¬ v2 = (kI (-1))) (tCall (D_69 (kI code) (kI 0) M2) fun _ M3 => P2 M3) (tRet (kI (-1)) M2)) v N → ∃ r, suR (yT B n) (yV B n) (kI 102) k o r ∧ rE N B n v r := by
    intro t code M1 M2 v2 u ht hc h65 h71 hs
    obtain ⟨o1, r1⟩ := D_65_c ho hr h65
    have ca : yT B n k = kI 43 ∨ yT B n k = kI 45 := by rw [ht]; exact hc.elim (fun q => Or.inl q.1) (fun q => Or.inr q.1)
    have n1 : ¬ yT B n k = kI 42 := fun q => hm (Or.inl q)
    have n2 : ¬ yT B n k = kI 47 := fun q => hm (Or.inr q)
    have hw : wqC (yT B n k) = [(code, kI 0)] := by
      rw [ht]
      unfold wqC
      rcases hc with ⟨q1, q2⟩ | ⟨q1, q2⟩
      · rw [if_pos q1, q2]
      · rw [if_neg (by rw [q1]; decide), if_pos q1, q2]
    rcases D_71_w r1 o1 h71 with ⟨e1, k', o', e2, e3, e4, e5⟩ | ⟨f, k', o', e1, e2, e3⟩
    · have hs := tIf_p (show ¬ v2 = kI (-1) by rw [e1]; decide) hs
      obtain ⟨_, M3, h69, hs⟩ := hs
      obtain ⟨b1, b2⟩ := D_69_c (q := (code, kI 0)) e3 e2 (by rcases hc with ⟨_, q2⟩ | ⟨_, q2⟩ <;> rw [q2] <;> rfl) h69
      rw [← hw] at b1
      obtain ⟨r, c1, c2⟩ := hP _ _ _ hs _ _ b2 b1 e4
      refine ⟨r, suR_add ca ?_, c2⟩
      rw [w0, List.append_nil]
      exact e5 _ _ _ n1 n2 (suR_w e4 c1)
    · obtain ⟨hv, hN⟩ := tIf_n (nn e2.1) hs
      refine ⟨(f, k', o'), suR_add ca (by rw [w0, List.append_nil]; exact e3 _ _ n1 n2), rE_bad ?_ e1⟩
      obtain ⟨d1, d2, d3⟩ := e2
      rw [hN]
      exact ⟨hv, d2, d3⟩
  rcases hs with ⟨g, hs⟩ | ⟨g, hs⟩
  · have tt := s43.mp g
    have v43 : M 188 28 = kI 43 := by
      have c := xRel_c (rR_t hr).1
      rw [tt, kI_toInt (by decide) (by decide)] at c
      rcases c with c | c | ⟨r, r29, c, c', _⟩ | c | c
      · omega
      · omega
      · omega
      · omega
      · exact c.2.2.2
    have hs := tIf_n (nn v43) hs
    obtain ⟨_, M1, h65, v2, M2, h71, hs⟩ := hs
    exact prod (code := 2) tt (Or.inl ⟨rfl, rfl⟩) h65 h71 hs
  · rcases hs with ⟨g2, hv, hN⟩ | ⟨g2, hs⟩
    · have c1 : ¬ (yT B n k = kI 43 ∨ yT B n k = kI 45) := fun q => q.elim (fun q => absurd (s43.mpr q) g) (fun q => absurd g2 (s45.mpr q))
      have e := suR_end (V := yV B n) (w := kI 102) (o := o) hm c1
      rw [w0, List.append_nil] at e
      exact ⟨_, e, fun _ => ⟨hv, by rw [hN]; exact hr, by rw [hN]; exact ho⟩, fun q => absurd rfl q⟩
    · have tt := s45.mp g2
      have v45 : ¬ M 188 28 = kI 43 := by
        have c := xRel_c (rR_t hr).1
        rw [yk (by decide) (by decide)]
        rw [tt, kI_toInt (by decide) (by decide)] at c
        rcases c with c | c | ⟨r, r29, c, c', _⟩ | c | c
        · omega
        · omega
        · omega
        · omega
        · rw [c.2.2.2, kI_toInt (by decide) (by decide)]
          omega
      have hs := tIf_p v45 hs
      obtain ⟨_, M1, h65, v2, M2, h71, hs⟩ := hs
      exact prod (code := 3) tt (Or.inr ⟨rfl, rfl⟩) h65 h71 hs
/-- E -/
theorem D_72_w {M : pMem} {B : Nat → Int32} {n k : Nat} {o : List Cd} {v : Int32} {N : pMem} (hr : rR M B n k) (ho : rcd M (rcO o)) (hD : D_72 M v N) : ∃ r, suS (yT B n) (yV B n) k o r ∧ rE N B n v r := by
  obtain ⟨v1, M1, h71, hs⟩ := hD
  have n1 : ¬ kI 102 = kI 42 := by decide
  have n2 : ¬ kI 102 = kI 47 := by decide
  rcases D_71_w hr ho h71 with ⟨e1, k', o', e2, e3, e4, e5⟩ | ⟨f, k', o', e1, e2, e3⟩
  · have hs := tIf_p (show ¬ v1 = kI (-1) by rw [e1]; decide) hs
    have q : rQ72 B n M1 v N := hs (rQ72 B n) (fun _ _ _ h => S_72_2w (fun _ _ _ h => h) h)
    obtain ⟨r, c1, c2⟩ := q _ _ e2 e3 e4
    exact ⟨r, e5 _ _ _ n1 n2 c1, c2⟩
  · obtain ⟨hv, hN⟩ := tIf_n (nn e2.1) hs
    obtain ⟨d1, d2, d3⟩ := e2
    refine ⟨(f, k', o'), e3 _ _ n1 n2, rE_bad ?_ e1⟩
    rw [hN]
    exact ⟨hv, d2, d3⟩
/-! B as it is read: a machine on tokens. mode 0: a claim is due; 1: behind one; 2: done; 3: a fault -/
abbrev Sm : Type := Nat × Nat × List Nat × List Cd × Nat
theorem suG_le_k {T V : Nat → Int32} : ∀ {n : Nat} {w : Int32} {k : Nat} {o : List Cd}, (suG T V n w k o).1 = 0 → k ≤ (suG T V n w k o).2.1 := by
  intro n
  induction n with
  | zero => intro w k o h; exact absurd h (by decide : ¬ (9 : Nat) = 0)
  | succ n ih =>
    intro w k o h
    have u1 : ∀ {d : Prop} [Decidable d] {k : Nat} {o : List Cd}, (unG T V d k o).1 = 0 → (unG T V d k o).2.1 = k + 1 := by
      intro d _ k o h
      unfold unG at h ⊢
      split
      · rename_i c1
        rw [if_pos c1] at h
        split
        · rename_i c2
          rw [if_pos c2] at h
          exact absurd h (by decide : ¬ (2 : Nat) = 0)
        · rfl
      · rename_i c1
        rw [if_neg c1] at h
        split
        · rfl
        · rename_i c2
          rw [if_neg c2] at h
          exact absurd h (by decide : ¬ (1 : Nat) = 0)
    unfold suG at h ⊢
    by_cases c1 : T k = kI 42 ∨ T k = kI 47
    · rw [if_pos c1] at h ⊢
      by_cases c2 : (unG T V (T k = kI 47) (k + 1) o).1 = 0
      · rw [if_pos c2] at h ⊢
        have := ih h
        have e := u1 c2
        omega
      · rw [if_neg c2] at h
        exact absurd h c2
    · rw [if_neg c1] at h ⊢
      by_cases c3 : T k = kI 43 ∨ T k = kI 45
      · rw [if_pos c3] at h ⊢
        by_cases c2 : (unG T V (T k = kI 47) (k + 1) (o ++ wqC w)).1 = 0
        · rw [if_pos c2] at h ⊢
          have := ih h
          have e := u1 c2
          omega
        · rw [if_neg c2] at h
          exact absurd h c2
      · rw [if_neg c3] at h ⊢
        exact Nat.le_refl _
theorem unG_k {T V : Nat → Int32} {d : Prop} [Decidable d] {k : Nat} {o : List Cd} (h : (unG T V d k o).1 = 0) : (unG T V d k o).2.1 = k + 1 := by
  unfold unG at h ⊢
  split
  · rename_i c1
    rw [if_pos c1] at h
    split
    · rename_i c2
      rw [if_pos c2] at h
      exact absurd h (by decide : ¬ (2 : Nat) = 0)
    · rfl
  · rename_i c1
    rw [if_neg c1] at h
    split
    · rfl
    · rename_i c2
      rw [if_neg c2] at h
      exact absurd h (by decide : ¬ (1 : Nat) = 0)
theorem suS_lt {T V : Nat → Int32} {k : Nat} {o : List Cd} {r : Rs} (h : suS T V k o r) (h0 : r.1 = 0) : k < r.2.1 := by
  rcases h with ⟨a, e⟩ | ⟨a, _, n, e⟩
  · rw [e] at h0
    exact absurd h0 a
  · rw [← e] at h0 ⊢
    have := suG_le_k h0
    have e := unG_k a
    omega
/-- E with a sign and E behind -/
def cmR (T V : Nat → Int32) (k : Nat) (o : List Cd) (r : Rs) : Prop := ∃ r1, suS T V k o r1 ∧ ((r1.1 ≠ 0 ∧ r = r1) ∨ (r1.1 = 0 ∧ ((¬ (60 ≤ (T r1.2.1).toInt ∧ (T r1.2.1).toInt ≤ 62) ∧ r = (1, r1.2.1, r1.2.2)) ∨
  ((60 ≤ (T r1.2.1).toInt ∧ (T r1.2.1).toInt ≤ 62) ∧ ∃ r2, suS T V (r1.2.1 + 1) r1.2.2 r2 ∧ ((r2.1 ≠ 0 ∧ r = r2) ∨ (r2.1 = 0 ∧ r = (0, r2.2.1, r2.2.2 ++ [((T r1.2.1).toInt.toNat - 54, kI 0)])))))))
theorem cmR_det {T V : Nat → Int32} {k : Nat} {o : List Cd} {r r' : Rs} (h : cmR T V k o r) (h' : cmR T V k o r') : r = r' := by
  obtain ⟨r1, a1, a2⟩ := h
  obtain ⟨r2, b1, b2⟩ := h'
  obtain rfl := suP_det a1 b1
  rcases a2 with ⟨c1, c2⟩ | ⟨c1, c2⟩ <;> rcases b2 with ⟨d1, d2⟩ | ⟨d1, d2⟩
  · rw [c2, d2]
  · exact absurd d1 c1
  · exact absurd c1 d1
  · rcases c2 with ⟨c2, c3⟩ | ⟨c2, q1, c3, c4⟩ <;> rcases d2 with ⟨d2, d3⟩ | ⟨d2, q2, d3, d4⟩
    · rw [c3, d3]
    · exact absurd d2 c2
    · exact absurd c2 d2
    · obtain rfl := suP_det c3 d3
      rcases c4 with ⟨c4, c5⟩ | ⟨c4, c5⟩ <;> rcases d4 with ⟨d4, d5⟩ | ⟨d4, d5⟩
      · rw [c5, d5]
      · exact absurd d4 c4
      · exact absurd c4 d4
      · rw [c5, d5]
def opn (S : List Nat) : Nat := S.countP fun x => x == 9 || x == 12
def lead (x : Nat) (S : List Nat) : Nat := (S.takeWhile (· == x)).length
def nC (c : Nat) : List Cd := if c = 0 then [] else [(9, kI (c : Nat))]
def rep (a : Nat) (x : Nat) : List Cd := List.replicate a (x, kI 0)
/-- behind a claim: what waits is put, the rest of the stack -/
def stA (S : List Nat) (o : List Cd) : List Nat × List Cd := (S.dropWhile (· == 10), o ++ rep (lead 10 S) 10)
def stO (S : List Nat) (o : List Cd) : List Nat × List Cd := ((stA S o).1.dropWhile (· == 11), (stA S o).2 ++ rep (lead 11 (stA S o).1) 11)
def stN (S : List Nat) (o : List Cd) : List Nat × List Cd := (S.dropWhile (· == 9), o ++ nC (lead 9 S))
/-- a step -/
def stM (T V : Nat → Int32) (s t : Sm) : Prop :=
  (s.1 = 0 ∧ (((T s.2.1 = kI 23 ∨ T s.2.1 = kI 40) ∧ opn s.2.2.1 = 8 ∧ t = (3, s.2.1, s.2.2.1, s.2.2.2.1, 3)) ∨
    ((T s.2.1 = kI 23 ∨ T s.2.1 = kI 40) ∧ ¬ opn s.2.2.1 = 8 ∧ t = (0, s.2.1 + 1, (if T s.2.1 = kI 23 then 9 else 12) :: s.2.2.1, s.2.2.2.1, 0)) ∨
    (¬ (T s.2.1 = kI 23 ∨ T s.2.1 = kI 40) ∧ ∃ r, cmR T V s.2.1 s.2.2.2.1 r ∧ ((r.1 ≠ 0 ∧ t = (3, r.2.1, s.2.2.1, r.2.2, r.1)) ∨ (r.1 = 0 ∧ t = (1, r.2.1, (stN s.2.2.1 r.2.2).1, (stN s.2.2.1 r.2.2).2, 0)))))) ∨
  (s.1 = 1 ∧ t = (if T s.2.1 = kI 22 then (0, s.2.1 + 1, 10 :: (stA s.2.2.1 s.2.2.2.1).1, (stA s.2.2.1 s.2.2.2.1).2, 0)
    else if T s.2.1 = kI 21 then (0, s.2.1 + 1, 11 :: (stO s.2.2.1 s.2.2.2.1).1, (stO s.2.2.1 s.2.2.2.1).2, 0)
    else if ¬ 12 ∈ (stO s.2.2.1 s.2.2.2.1).1 then (2, s.2.1, (stO s.2.2.1 s.2.2.2.1).1, (stO s.2.2.1 s.2.2.2.1).2, 0)
    else if ¬ T s.2.1 = kI 41 then (3, s.2.1, (stO s.2.2.1 s.2.2.2.1).1, (stO s.2.2.1 s.2.2.2.1).2, 1)
    else (1, s.2.1 + 1, (stN (stO s.2.2.1 s.2.2.2.1).1.tail (stO s.2.2.1 s.2.2.2.1).2).1, (stN (stO s.2.2.1 s.2.2.2.1).1.tail (stO s.2.2.1 s.2.2.2.1).2).2, 0)))
theorem stM_det {T V : Nat → Int32} {s t t' : Sm} (h : stM T V s t) (h' : stM T V s t') : t = t' := by
  rcases h with ⟨a, h⟩ | ⟨a, h⟩ <;> rcases h' with ⟨a', h'⟩ | ⟨a', h'⟩
  · rcases h with ⟨b1, b2, b3⟩ | ⟨b1, b2, b3⟩ | ⟨b1, r, b2, b3⟩ <;> rcases h' with ⟨c1, c2, c3⟩ | ⟨c1, c2, c3⟩ | ⟨c1, r', c2, c3⟩
    · rw [b3, c3]
    · exact absurd b2 c2
    · exact absurd b1 c1
    · exact absurd c2 b2
    · rw [b3, c3]
    · exact absurd b1 c1
    · exact absurd c1 b1
    · exact absurd c1 b1
    · obtain rfl := cmR_det b2 c2
      rcases b3 with ⟨d1, d2⟩ | ⟨d1, d2⟩ <;> rcases c3 with ⟨e1, e2⟩ | ⟨e1, e2⟩
      · rw [d2, e2]
      · exact absurd e1 d1
      · exact absurd d1 e1
      · rw [d2, e2]
  · omega
  · omega
  · rw [h, h']
def anS (T V : Nat → Int32) : Nat → Sm → Sm → Prop
  | 0, s, t => s = t
  | n + 1, s, t => ∃ u, stM T V s u ∧ anS T V n u t
def sR (T V : Nat → Int32) (s t : Sm) : Prop := ∃ n, anS T V n s t
section SR
variable {T V : Nat → Int32} {s t u : Sm}
theorem sR_rfl : sR T V s s := ⟨0, rfl⟩
theorem anS_app : ∀ {n m : Nat} {s t u : Sm}, anS T V n s t → anS T V m t u → anS T V (n + m) s u := by
  intro n
  induction n with
  | zero =>
    intro m s t u h1 h2
    rw [Nat.zero_add]
    have h1 : s = t := h1
    rw [h1]
    exact h2
  | succ n ih =>
    intro m s t u h1 h2
    obtain ⟨w, a, b⟩ := h1
    rw [show n + 1 + m = (n + m) + 1 by omega]
    exact ⟨w, a, ih b h2⟩
theorem sR_tr (h1 : sR T V s t) (h2 : sR T V t u) : sR T V s u := by
  obtain ⟨n, a⟩ := h1
  obtain ⟨m, b⟩ := h2
  exact ⟨n + m, anS_app a b⟩
theorem sR_one (h : stM T V s t) : sR T V s t := ⟨1, t, h, rfl⟩
/-- where it ends it ends -/
def fin (s : Sm) : Prop := s.1 = 2 ∨ s.1 = 3
theorem fin_no (h : fin s) : ¬ stM T V s t := by
  rintro (⟨a, _⟩ | ⟨a, _⟩) <;> rcases h with h | h <;> omega
theorem sR_det (h1 : sR T V s t) (h2 : sR T V s u) (f1 : fin t) (f2 : fin u) : t = u := by
  obtain ⟨n, a⟩ := h1
  obtain ⟨m, b⟩ := h2
  induction n generalizing s m with
  | zero =>
    have a : s = t := a
    cases m with
    | zero =>
      have b : s = u := b
      rw [← a, b]
    | succ m =>
      obtain ⟨w, c, _⟩ := b
      rw [a] at c
      exact absurd c (fin_no f1)
  | succ n ih =>
    obtain ⟨w, c, d⟩ := a
    cases m with
    | zero =>
      have b : s = u := b
      rw [b] at c
      exact absurd c (fin_no f2)
    | succ m =>
      obtain ⟨w', c', d'⟩ := b
      obtain rfl := stM_det c c'
      exact ih d m d'
end SR
/-! the class reads B -/
def rpl (c : Nat) (S : List Nat) : List Nat := List.replicate c 9 ++ S
theorem rpl_lead {S : List Nat} (h : lead 9 S = 0) : ∀ c, lead 9 (rpl c S) = c ∧ (rpl c S).dropWhile (· == 9) = S := by
  intro c
  induction c with
  | zero =>
    refine ⟨h, ?_⟩
    show S.dropWhile (· == 9) = S
    cases S with
    | nil => rfl
    | cons a r =>
      unfold lead at h
      rw [List.takeWhile_cons] at h
      rw [List.dropWhile_cons]
      by_cases e : (a == 9) = true
      · rw [if_pos e] at h
        exact absurd h (by simp)
      · rw [if_neg e]
  | succ c ih =>
    have e : rpl (c + 1) S = 9 :: rpl c S := rfl
    rw [e]
    refine ⟨?_, ih.2⟩
    show ((9 :: rpl c S).takeWhile (· == 9)).length = c + 1
    rw [List.takeWhile_cons, if_pos (show ((9 : Nat) == 9) = true from rfl), List.length_cons]
    have := ih.1
    unfold lead at this
    rw [this]
theorem opn_rpl {S : List Nat} : ∀ c, opn (rpl c S) = c + opn S := by
  intro c
  induction c with
  | zero => rw [Nat.zero_add]; rfl
  | succ c ih =>
    have e : rpl (c + 1) S = 9 :: rpl c S := rfl
    rw [e]
    unfold opn at ih ⊢
    rw [List.countP_cons, ih, if_pos (show ((9 : Nat) == 9 || (9 : Nat) == 12) = true from rfl)]
    omega
theorem opn_cons {x : Nat} {S : List Nat} : opn (x :: S) = opn S + if x == 9 || x == 12 then 1 else 0 := by
  unfold opn
  rw [List.countP_cons]
def okWd (W : List Nat) : Prop := W = [] ∨ W = [10] ∨ W = [11] ∨ W = [10, 11]
def sW (W : List Nat) : List Cd := W.map fun x => (x, kI 0)
def top12 (S : List Nat) : Prop := S = [] ∨ ∃ R, S = 12 :: R
theorem stO_W {W S : List Nat} {o : List Cd} (hW : okWd W) (hS : top12 S) : stO (W ++ S) o = (S, o ++ sW W) := by
  rcases hW with rfl | rfl | rfl | rfl <;> rcases hS with rfl | ⟨R, rfl⟩
  all_goals simp [stO, stA, sW, lead, rep, List.replicate, List.dropWhile_cons, List.takeWhile_cons]
theorem stA_W {W S : List Nat} {o : List Cd} (hW : W = [] ∨ W = [11]) (hS : top12 S) : stA (W ++ S) o = (W ++ S, o) ∧ stA (10 :: (W ++ S)) o = (W ++ S, o ++ [(10, kI 0)]) := by
  rcases hW with rfl | rfl <;> rcases hS with rfl | ⟨R, rfl⟩
  all_goals (refine ⟨?_, ?_⟩ <;> simp [stA, lead, rep, List.replicate, List.dropWhile_cons, List.takeWhile_cons])
theorem opn_W {W S : List Nat} (hW : okWd W) : opn (W ++ S) = opn S := by
  rcases hW with rfl | rfl | rfl | rfl
  · rfl
  · show opn (10 :: S) = _; rw [opn_cons]; rfl
  · show opn (11 :: S) = _; rw [opn_cons]; rfl
  · show opn (10 :: 11 :: S) = _; rw [opn_cons, opn_cons]; rfl
theorem lead_W {W S : List Nat} (hW : okWd W) (hS : top12 S) : lead 9 (W ++ S) = 0 := by
  rcases hW with rfl | rfl | rfl | rfl <;> rcases hS with rfl | ⟨R, rfl⟩ <;> rfl
def qF (B : Nat → Int32) (n : Nat) (N : pMem) (v : Int32) (s : Sm) : Prop := ∃ k' S' o' f, sR (yT B n) (yV B n) s (3, k', S', o', f) ∧ f ≠ 0 ∧ rdNo B n N v f k'
theorem qF_tr {B : Nat → Int32} {n : Nat} {N : pMem} {v : Int32} {s t : Sm} (h : sR (yT B n) (yV B n) s t) (q : qF B n N v t) : qF B n N v s := by
  obtain ⟨a, b, c, d, e, f⟩ := q
  exact ⟨a, b, c, d, sR_tr h e, f⟩
/-- it was read: at token k', with the steps of o'; x steps waited -/
def qK (M N : pMem) (B : Nat → Int32) (n c k : Nat) (o : List Cd) (x : Nat) (v : Int32) (k' : Nat) (o' : List Cd) : Prop :=
  v = kI 1 ∧ N 6 4 = M 6 4 ∧ N 6 5 = M 6 5 ∧ rdR N B n c k' ∧ stp N (stC o') ∧ (stC o').length + k ≤ (stC o).length + x + k' ∧ k < k' ∧ k' ≤ 500
theorem qK_then {M M1 N : pMem} {B : Nat → Int32} {n c k k1 x x1 k' : Nat} {o o1 o' : List Cd} {v : Int32} (h : qK M1 N B n c k1 o1 x1 v k' o') (e4 : M1 6 4 = M 6 4) (e5 : M1 6 5 = M 6 5) (hk : k ≤ k1) (hg : (stC o1).length + x1 + k ≤ (stC o).length + x + k1) : qK M N B n c k o x v k' o' := by
  obtain ⟨a1, a2, a3, a4, a5, a6, a7, a8⟩ := h
  exact ⟨a1, a2.trans e4, a3.trans e5, a4, a5, by omega, by omega, a8⟩
def q178 (B : Nat → Int32) (n c : Nat) (p : Int32) (M : pMem) (v : Int32) (N : pMem) : Prop := ∀ (k : Nat) (o : List Cd) (S : List Nat), rdR M B n c k → stp M (stC o) → (stC o).length ≤ k → k ≤ 500 → p.toInt = opn S → opn S ≤ 8 → lead 9 S = 0 →
  (∃ k' o', sR (yT B n) (yV B n) (0, k, S, o, 0) (1, k', S, o', 0) ∧ qK M N B n c k o 0 v k' o') ∨ qF B n N v (0, k, S, o, 0)
def q1781 (B : Nat → Int32) (n c : Nat) (p x2 : Int32) (M : pMem) (v : Int32) (N : pMem) : Prop := ∀ (k : Nat) (o : List Cd) (S : List Nat) (d : Nat), rdR M B n c k → stp M (stC o) → (stC o).length + d ≤ k → k ≤ 500 → p.toInt = opn S → x2.toInt = ((d + opn S : Nat) : Int) → d + opn S ≤ 8 → lead 9 S = 0 →
  (∃ k' o', sR (yT B n) (yV B n) (0, k, rpl d S, o, 0) (1, k', S, o', 0) ∧ qK M N B n c k o d v k' o') ∨ qF B n N v (0, k, rpl d S, o, 0)
def q17811 (B : Nat → Int32) (n c : Nat) (p x2 x3 : Int32) (M : pMem) (v : Int32) (N : pMem) : Prop := ∀ (k : Nat) (o : List Cd) (S : List Nat) (d : Nat), rdR M B n c k → stp M (stC o) → (stC o).length + d ≤ k → k ≤ 500 → p.toInt = opn S → x2.toInt = ((d + opn S : Nat) : Int) → d + opn S ≤ 8 → lead 9 S = 0 →
  (x3 = 0 → ¬ yT B n k = kI 23 ∧ ¬ yT B n k = kI 40) → (¬ x3 = 0 → yT B n k = kI 40 ∧ d + opn S < 8) →
  (∃ k' o', sR (yT B n) (yV B n) (0, k, rpl d S, o, 0) (1, k', S, o', 0) ∧ qK M N B n c k o d v k' o') ∨ qF B n N v (0, k, rpl d S, o, 0)
def q177 (B : Nat → Int32) (n c : Nat) (p : Int32) (M : pMem) (v : Int32) (N : pMem) : Prop := ∀ (k : Nat) (o : List Cd) (S : List Nat), rdR M B n c k → stp M (stC o) → (stC o).length ≤ k → k ≤ 500 → p.toInt = opn S → opn S ≤ 8 → top12 S →
  (∃ k' o' W, okWd W ∧ sR (yT B n) (yV B n) (0, k, S, o, 0) (1, k', W ++ S, o', 0) ∧ ¬ yT B n k' = kI 22 ∧ ¬ yT B n k' = kI 21 ∧ qK M N B n c k o 0 v k' (o' ++ sW W)) ∨ qF B n N v (0, k, S, o, 0)
def wqW (x2 x3 : Int32) : List Nat := (if x3 = kI 22 then [10] else []) ++ (if x2 = 0 then [] else [11])
theorem wW_ok {x2 x3 : Int32} : okWd (wqW x2 x3) := by
  unfold wqW okWd
  by_cases a : x3 = kI 22 <;> by_cases b : x2 = 0 <;> simp [a, b]
def q1771 (B : Nat → Int32) (n c : Nat) (p x2 x3 x4 : Int32) (M : pMem) (v : Int32) (N : pMem) : Prop := ∀ (k i : Nat) (o : List Cd) (S : List Nat), x4.toInt = i → i ≤ k → rdR M B n c k → stp M (stC o) → (stC o).length + (wqW x2 x3).length ≤ k → k ≤ 500 → p.toInt = opn S → opn S ≤ 8 → top12 S → (k = 500 → i < 500) →
  (∃ k' o' W, okWd W ∧ sR (yT B n) (yV B n) (0, k, wqW x2 x3 ++ S, o, 0) (1, k', W ++ S, o', 0) ∧ ¬ yT B n k' = kI 22 ∧ ¬ yT B n k' = kI 21 ∧ qK M N B n c k o (wqW x2 x3).length v k' (o' ++ sW W)) ∨ qF B n N v (0, k, wqW x2 x3 ++ S, o, 0)
section QS
variable {B : Nat → Int32} {n c : Nat} {E177 : Int32 → pMem → pT Int32} {P1771 : Int32 → Int32 → Int32 → Int32 → pMem → pT Int32} {E178 : Int32 → pMem → pT Int32} {P1781 : Int32 → Int32 → pMem → pT Int32} {P17811 : Int32 → Int32 → Int32 → pMem → pT Int32}
theorem S_177_ew (h1 : ∀ p x2 x3 x4 M v N, P1771 p x2 x3 x4 M v N → q1771 B n c p x2 x3 x4 M v N) {p v : Int32} {M N : pMem} (hs : S_177_e E177 P1771 E178 P1781 P17811 p M v N) : q177 B n c p M v N := by
  intro k o S a1 a2 a3 a4 a5 a6 a7
  exact h1 _ _ _ _ _ _ _ hs k 0 o S rfl (Nat.zero_le _) a1 a2 a3 a4 a5 a6 a7 (fun _ => by decide)
theorem S_178_ew (h1 : ∀ p x2 M v N, P1781 p x2 M v N → q1781 B n c p x2 M v N) {p v : Int32} {M N : pMem} (hs : S_178_e E177 P1771 E178 P1781 P17811 p M v N) : q178 B n c p M v N := by
  intro k o S a1 a2 a3 a4 a5 a6 a7
  exact h1 _ _ _ _ _ hs k o S 0 a1 a2 a3 a4 a5 (by rw [a5, Nat.zero_add]) (by omega) a7
theorem S_177_1w (h1 : ∀ p x2 x3 x4 M v N, P1771 p x2 x3 x4 M v N → q1771 B n c p x2 x3 x4 M v N) (h178 : ∀ p M v N, E178 p M v N → q178 B n c p M v N) {p x2 x3 x4 v : Int32} {M N : pMem} (hs : S_177_1 E177 P1771 E178 P1781 P17811 p x2 x3 x4 M v N) : q1771 B n c p x2 x3 x4 M v N := by
  intro k i o S hx4 hik hr hst hl hk hp hp8 hS h5
  rcases hs with ⟨g, _⟩ | ⟨_, v1, M1, hE, hs⟩
  · rw [i_le, hx4, kI_toInt (by decide) (by decide)] at g
    have : k = 500 := by omega
    have := h5 this
    omega
  · rcases h178 _ _ _ _ hE k o (wqW x2 x3 ++ S) hr hst (by omega) hk (by rw [opn_W wW_ok]; exact hp) (by rw [opn_W wW_ok]; exact hp8) (lead_W wW_ok hS) with ⟨k1, o1, s1, b1, b2, b3, b4, b5, b6, b7, b8⟩ | bad
    · have hs := tIf_p (show ¬ v1 = 0 by rw [b1]; decide) hs
      obtain ⟨ht, _, _⟩ := zR_t b4
      have nx : (x4 + kI 1).toInt = ((i + 1 : Nat) : Int) := by rw [i_add1 (by omega), hx4]; omega
      -- on it goes: behind and / or
      have more : ∀ {M2 M3 : pMem} {y2 y3 : Int32} {o2 : List Cd}, rdR M2 B n c k1 → stp M2 (stC o2) → M2 6 4 = M1 6 4 → M2 6 5 = M1 6 5 → (stC o2).length + (wqW y2 y3).length ≤ (stC o1).length + (wqW x2 x3).length + 1 → ¬ yT B n k1 = kI 101 → M3 = aPut M2 6 3 (M2 6 3 + kI 1) →
          stM (yT B n) (yV B n) (1, k1, wqW x2 x3 ++ S, o1, 0) (0, k1 + 1, wqW y2 y3 ++ S, o2, 0) → P1771 p y2 y3 (x4 + kI 1) M3 v N →
          (∃ k' o' W, okWd W ∧ sR (yT B n) (yV B n) (0, k, wqW x2 x3 ++ S, o, 0) (1, k', W ++ S, o', 0) ∧ ¬ yT B n k' = kI 22 ∧ ¬ yT B n k' = kI 21 ∧ qK M N B n c k o (wqW x2 x3).length v k' (o' ++ sW W)) ∨ qF B n N v (0, k, wqW x2 x3 ++ S, o, 0) := by
        intro M2 M3 y2 y3 o2 r2 t2 e4 e5 hl2 hT e3 hst2 hs
        obtain ⟨c1, c2, c3, c4, c5⟩ := cl_adv r2 t2 hT e3
        rcases h1 _ _ _ _ _ _ _ hs (k1 + 1) (i + 1) o2 S nx (by omega) c1 c2 (by omega) (by omega) hp hp8 hS (fun e => by omega) with ⟨k', o', W, d1, d2, d3, d4, d5⟩ | bad
        · exact Or.inl ⟨k', o', W, d1, sR_tr s1 (sR_tr (sR_one hst2) d2), d3, d4, qK_then d5 (c3.trans (e4.trans b2)) (c4.trans (e5.trans b3)) (by omega) (by omega)⟩
        · exact Or.inr (qF_tr (sR_tr s1 (sR_one hst2)) bad)
      -- the end
      have done : ∀ {M2 : pMem}, rdR M2 B n c k1 → stp M2 (stC (o1 ++ sW (wqW x2 x3))) → M2 6 4 = M1 6 4 → M2 6 5 = M1 6 5 → (stC (o1 ++ sW (wqW x2 x3))).length ≤ (stC o1).length + (wqW x2 x3).length → ¬ yT B n k1 = kI 22 → ¬ yT B n k1 = kI 21 → v = kI 1 → N = M2 →
          (∃ k' o' W, okWd W ∧ sR (yT B n) (yV B n) (0, k, wqW x2 x3 ++ S, o, 0) (1, k', W ++ S, o', 0) ∧ ¬ yT B n k' = kI 22 ∧ ¬ yT B n k' = kI 21 ∧ qK M N B n c k o (wqW x2 x3).length v k' (o' ++ sW W)) ∨ qF B n N v (0, k, wqW x2 x3 ++ S, o, 0) := by
        intro M2 r2 t2 e4 e5 hl2 n22 n21 hv hN
        exact Or.inl ⟨k1, o1, _, wW_ok, s1, n22, n21, hv, by rw [hN, e4, b2], by rw [hN, e5, b3], by rw [hN]; exact r2, by rw [hN]; exact t2, by omega, by omega, b8⟩
      have step22 : ∀ {o2 : List Cd} {W2 : List Nat}, yT B n k1 = kI 22 → stA (wqW x2 x3 ++ S) o1 = (W2 ++ S, o2) → stM (yT B n) (yV B n) (1, k1, wqW x2 x3 ++ S, o1, 0) (0, k1 + 1, (10 :: W2) ++ S, o2, 0) := by
        intro o2 W2 t22 e
        refine Or.inr ⟨rfl, ?_⟩
        show _ = if yT B n k1 = kI 22 then _ else _
        rw [if_pos t22, e]
        rfl
      have step21 : yT B n k1 = kI 21 → stM (yT B n) (yV B n) (1, k1, wqW x2 x3 ++ S, o1, 0) (0, k1 + 1, [11] ++ S, o1 ++ sW (wqW x2 x3), 0) := by
        intro t21
        refine Or.inr ⟨rfl, ?_⟩
        show _ = if yT B n k1 = kI 22 then _ else _
        rw [if_neg (by rw [t21]; decide), if_pos t21, stO_W wW_ok hS]
        rfl
      have w21 : wqW (kI 1) (kI 21) = [11] := rfl
      have f22 : yT B n k1 = kI 22 → ¬ yT B n k1 = kI 101 := fun e => by rw [e]; decide
      have f21 : yT B n k1 = kI 21 → ¬ yT B n k1 = kI 101 := fun e => by rw [e]; decide
      rcases hs with ⟨gx3, hs⟩ | ⟨gx3, hs⟩
      · have ww : wqW x2 x3 = if x2 = 0 then [] else [11] := by unfold wqW; rw [if_neg gx3, List.nil_append]
        have ww11 : wqW x2 x3 = [] ∨ wqW x2 x3 = [11] := by
          rw [ww]
          by_cases e : x2 = 0
          · rw [if_pos e]; exact Or.inl rfl
          · rw [if_neg e]; exact Or.inr rfl
        have w22 : wqW x2 (kI 22) = 10 :: wqW x2 x3 := by rw [ww]; rfl
        rw [ht] at hs
        rcases hs with ⟨g, M2, e2, hs⟩ | ⟨g, hs⟩
        · refine more (y2 := x2) (y3 := yT B n k1) (o2 := o1) b4 b5 rfl rfl ?_ (f22 g) e2 ?_ hs
          · rw [g, w22, List.length_cons]; omega
          · rw [g, w22]
            exact step22 g (stA_W ww11 hS).1
        · rcases hs with ⟨g2, hs⟩ | ⟨g2, w, M2, h155, hs⟩
          · have w0 : wqW x2 x3 = [] := by rw [ww, if_pos g2]
            have s0 : o1 ++ sW (wqW x2 x3) = o1 := by rw [w0]; exact List.append_nil _
            rcases hs with ⟨g3, M2, e2, hs⟩ | ⟨g3, hv, hN⟩
            · refine more (y2 := kI 1) (y3 := yT B n k1) (o2 := o1 ++ sW (wqW x2 x3)) b4 (by rw [s0]; exact b5) rfl rfl ?_ (f21 g3) e2 ?_ hs
              · rw [g3, w21, s0, List.length_singleton]; omega
              · rw [g3, w21]
                exact step21 g3
            · exact done b4 (by rw [s0]; exact b5) rfl rfl (by rw [s0]; omega) g g3 hv hN
          · have w1 : wqW x2 x3 = [11] := by rw [ww, if_neg g2]
            rw [w1, List.length_singleton] at hl
            obtain ⟨c1, c2, c3, c4⟩ := cL_put (q := (11, kI 0)) ⟨b4, b5, by omega⟩ rfl (by omega) h155
            have s1' : o1 ++ sW (wqW x2 x3) = o1 ++ [(11, kI 0)] := by rw [w1]; rfl
            rcases hs with ⟨g3, M3, e3, hs⟩ | ⟨g3, hv, hN⟩
            · refine more (y2 := kI 1) (y3 := yT B n k1) (o2 := o1 ++ sW (wqW x2 x3)) c1 (by rw [s1']; exact c2) (by rw [c3]) (by rw [c3]) ?_ (f21 g3) e3 ?_ hs
              · rw [g3, w21, s1', w1]
                simp only [List.length_singleton]
                omega
              · rw [g3, w21]
                exact step21 g3
            · exact done c1 (by rw [s1']; exact c2) (by rw [c3]) (by rw [c3]) (by rw [s1', w1, List.length_singleton]; omega) g g3 hv hN
      · have gx3 := Classical.not_not.mp gx3
        obtain ⟨w, M2, h155, hs⟩ := hs
        have ww : wqW x2 x3 = 10 :: (if x2 = 0 then [] else [11]) := by unfold wqW; rw [if_pos gx3]; rfl
        have lw : 1 ≤ (wqW x2 x3).length := by rw [ww, List.length_cons]; omega
        obtain ⟨c1, c2, c3, c4⟩ := cL_put (q := (10, kI 0)) ⟨b4, b5, by omega⟩ rfl (by omega) h155
        obtain ⟨ht2, _, _⟩ := zR_t c1
        rw [ht2] at hs
        have w22 : wqW x2 (kI 22) = 10 :: (if x2 = 0 then [] else [11]) := rfl
        have wf : (if x2 = 0 then ([] : List Nat) else [11]) = [] ∨ (if x2 = 0 then ([] : List Nat) else [11]) = [11] := by
          by_cases e : x2 = 0
          · rw [if_pos e]; exact Or.inl rfl
          · rw [if_neg e]; exact Or.inr rfl
        rcases hs with ⟨g, M3, e3, hs⟩ | ⟨g, hs⟩
        · refine more (y2 := x2) (y3 := yT B n k1) (o2 := o1 ++ [(10, kI 0)]) c1 c2 (by rw [c3]) (by rw [c3]) ?_ (f22 g) e3 ?_ hs
          · rw [g, w22, ww]; omega
          · rw [g, w22]
            refine step22 g ?_
            rw [ww]
            exact (stA_W wf hS).2
        · rcases hs with ⟨g2, hs⟩ | ⟨g2, w', M3, h155b, hs⟩
          · have w1 : wqW x2 x3 = [10] := by rw [ww, if_pos g2]
            have s1' : o1 ++ sW (wqW x2 x3) = o1 ++ [(10, kI 0)] := by rw [w1]; rfl
            rcases hs with ⟨g3, M3, e3, hs⟩ | ⟨g3, hv, hN⟩
            · refine more (y2 := kI 1) (y3 := yT B n k1) (o2 := o1 ++ sW (wqW x2 x3)) c1 (by rw [s1']; exact c2) (by rw [c3]) (by rw [c3]) ?_ (f21 g3) e3 ?_ hs
              · rw [g3, w21, s1', w1]
                simp only [List.length_singleton]
                omega
              · rw [g3, w21]
                exact step21 g3
            · exact done c1 (by rw [s1']; exact c2) (by rw [c3]) (by rw [c3]) (by rw [s1', w1, List.length_singleton]; omega) g g3 hv hN
          · have w2 : wqW x2 x3 = [10, 11] := by rw [ww, if_neg g2]
            have l2 : (wqW x2 x3).length = 2 := by rw [w2]; rfl
            obtain ⟨d1, d2, d3, d4⟩ := cL_put (q := (11, kI 0)) ⟨c1, c2, by omega⟩ rfl (by omega) h155b
            have s2' : o1 ++ sW (wqW x2 x3) = o1 ++ [(10, kI 0)] ++ [(11, kI 0)] := by rw [w2, List.append_assoc]; rfl
            rcases hs with ⟨g3, M4, e4, hs⟩ | ⟨g3, hv, hN⟩
            · refine more (y2 := kI 1) (y3 := yT B n k1) (o2 := o1 ++ sW (wqW x2 x3)) d1 (by rw [s2']; exact d2) (by rw [d3, c3]) (by rw [d3, c3]) ?_ (f21 g3) e4 ?_ hs
              · rw [g3, w21, s2', List.length_singleton]; omega
              · rw [g3, w21]
                exact step21 g3
            · exact done d1 (by rw [s2']; exact d2) (by rw [d3, c3]) (by rw [d3, c3]) (by rw [s2']; omega) g g3 hv hN
    · obtain ⟨k', S', o', f, e1, e2, e3, e4, e5⟩ := bad
      obtain ⟨hv, hN⟩ := tIf_n (nn e3) hs
      exact Or.inr ⟨k', S', o', f, e1, e2, hv, by rw [hN]; exact e4, by rw [hN]; exact e5⟩
end QS
