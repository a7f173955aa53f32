/-! what is told by each of these calls comes to the same on both sides -/
theorem ap_eq {M N : pMem} {a j b i : Nat} {x : Int32} (h : N b i = M b i) : aPut N a j x b i = aPut M a j x b i := by
  by_cases e : b = a
  · subst e
    rw [aPut_row, aPut_row, h]
  · rw [aPut_cell e, aPut_cell e, h]
theorem cpC_of' {t : Nat} {M N : pMem} (h : ∀ a j, t ≤ a → a < t + 56 → a ≠ t + 9 → N a j = M a j) : cpC t t M N := by
  refine ⟨fun j _ => ?_, fun i _ => ⟨?_, ?_⟩, fun i _ => ?_, fun i _ => ?_, fun k hk => ⟨?_, fun i _ => ⟨?_, ?_, ?_, ?_⟩, fun i _ => ?_⟩, fun i _ => ?_, fun i _ => ⟨?_, ?_⟩, ?_, ?_⟩
  all_goals (refine h _ _ (by omega) (by omega) (by omega))
theorem pl_hi {a j : Nat} (h : plT a j) : 188 ≤ a ∧ a < 230 ∧ a ≠ 223 ∧ ¬ (a = 188 ∧ j = 0) := by
  unfold plT at h
  omega
theorem rT_to {M V N U : pMem} (h : rT 18 M V) (c : ∀ a j, 18 ≤ a → a < 74 ∧ a ≠ 27 → N a j = M a j) (v : ∀ a j, 188 ≤ a ∧ a ≠ 223 → ¬ (a = 188 ∧ j = 0) → U a j = V a j) : rT 18 N U :=
  rT_mv h (cpC_of' fun a j h1 h2 h3 => c a j h1 (by omega)) (agT_of fun a j hp => v a j ⟨(pl_hi hp).1, (pl_hi hp).2.2.1⟩ (pl_hi hp).2.2.2)
theorem p0_at {M : pMem} {a j : Nat} {x : Int32} (h : ¬ (a = 188 ∧ j = 0)) : aPut M 188 0 x a j = M a j := by
  by_cases e : a = 188
  · subst e
    exact aPut_at (fun q => h ⟨rfl, q⟩)
  · exact aPut_cell e
theorem rT_0 {M : pMem} {x : Int32} (h : rT 18 M M) : rT 18 (aPut M 188 0 x) (aPut M 188 0 x) := rT_to h (fun a j _ h2 => aPut_cell (by omega)) fun a j _ h => p0_at h
theorem f222_i {w : Nat} {x : Int32} {M : pMem} : ¬ f_222 w x M = 0 ↔ 0 ≤ x.toInt ∧ x.toInt < (M w 0).toInt := by
  unfold f_222
  by_cases a : x < 0
  · rw [if_pos a]
    rw [i_lt, i_0] at a
    exact ⟨fun q => absurd rfl q, fun q => by omega⟩
  · rw [if_neg a]
    rw [i_lt, i_0] at a
    by_cases b : M w 0 ≤ x
    · rw [if_pos b]
      rw [i_le] at b
      exact ⟨fun q => absurd rfl q, fun q => by omega⟩
    · rw [if_neg b]
      rw [i_le] at b
      exact ⟨fun _ => by omega, fun _ => by decide⟩
theorem f223_i {w : Nat} {x y : Int32} {M : pMem} (h : ¬ f_223 w x y M = 0) : ¬ f_222 w x M = 0 ∧ ¬ f_222 w y M = 0 ∧ ¬ x = y := by
  unfold f_223 at h
  by_cases a : f_222 w x M = 0
  · rw [if_pos a] at h
    exact absurd rfl h
  · rw [if_neg a] at h
    by_cases b : f_222 w y M = 0
    · rw [if_pos b] at h
      exact absurd rfl h
    · rw [if_neg b] at h
      by_cases c : x = y
      · rw [if_pos c] at h
        exact absurd rfl h
      · exact ⟨a, b, c⟩
/-- one of the boys told of -/
theorem boyN {M : pMem} (hA : rA M) {x : Int32} (h : ¬ f_222 19 x M = 0) : ∃ i : Nat, x.toInt = i ∧ i < 24 := by
  have q := f222_i.mp h
  have q2 := hA.2.1.2.2.2.1.2
  exact ⟨x.toInt.toNat, by omega, by omega⟩
theorem k01 : ¬ (kI 0 = kI 1) := by decide
theorem op_like_T {p1 p2 p3 v u : Int32} {M M1 M2 : pMem} (hA : rA M) (h : rT 18 M M) (h1 : D_2 p1 p2 p3 M v M1) (h2 : D_48 p1 p2 p3 M1 u M2) : rT 18 M2 M2 := by
  have vu := (op_like hA h1 h2).1
  have c1 : (v = kI 0 ∧ M1 = M) ∨ (v = kI 1 ∧ ¬ f_223 19 p1 p2 M = 0 ∧ M1 = aPut M 22 (ix (p1 * kI 24 + p2)) p3) := by
    rcases h1 with ⟨_, hv, hM⟩ | ⟨g, h1⟩
    · exact Or.inl ⟨hv, hM⟩
    · rcases h1 with ⟨_, _, Mb, eb, hv, hM⟩ | ⟨_, hv, hM⟩
      · exact Or.inr ⟨hv, g, by rw [hM, eb]⟩
      · exact Or.inl ⟨hv, hM⟩
  have c2 : (u = kI 0 ∧ M2 = aPut M1 188 0 (kI 0)) ∨ (u = kI 1 ∧ M2 = aPut (aPut M1 188 0 (kI 0)) 194 (ix (kI 24 * p1 + p2)) p3) := by
    obtain ⟨Ma, ea, h2⟩ := h2
    rw [← ea]
    rcases h2 with ⟨_, hu, hM⟩ | ⟨_, h2⟩
    · exact Or.inl ⟨hu, hM⟩
    · rcases h2 with ⟨_, hu, hM⟩ | ⟨_, h2⟩
      · exact Or.inl ⟨hu, hM⟩
      · rcases h2 with ⟨_, hu, hM⟩ | ⟨_, h2⟩
        · exact Or.inl ⟨hu, hM⟩
        · rcases h2 with ⟨_, _, Mb, eb, hu, hM⟩ | ⟨_, hu, hM⟩
          · exact Or.inr ⟨hu, by rw [hM, eb]⟩
          · exact Or.inl ⟨hu, hM⟩
  rcases c1 with ⟨v1, e1⟩ | ⟨v1, g, e1⟩
  · rcases c2 with ⟨u1, e2⟩ | ⟨u1, e2⟩
    · rw [e2, e1]; exact rT_0 h
    · exact absurd (v1.symm.trans (vu.trans u1)) k01
  · rcases c2 with ⟨u1, e2⟩ | ⟨u1, e2⟩
    · exact absurd (u1.symm.trans (vu.symm.trans v1)) k01
    · obtain ⟨g1, g2, _⟩ := f223_i g
      obtain ⟨i, hi, hi24⟩ := boyN hA g1
      obtain ⟨j, hj, hj24⟩ := boyN hA g2
      obtain ⟨x1, x2⟩ := ix24 hi hj hi24 hj24
      rw [x1] at e1
      rw [x2, e1] at e2
      rw [e2]
      refine rT_to (rT_like h hi24 hj24 (x := p3)) (fun a b q1 q2 => ?_) fun a b q1 q2 => ap_eq ?_
      · rw [aPut_cell (by omega), aPut_cell (by omega)]
      · rw [p0_at q2, aPut_cell (by omega)]
theorem op_state_T {p1 v u : Int32} {M M1 M2 : pMem} (h : rT 18 M M) (h1 : D_4 p1 M v M1) (h2 : D_50 p1 M1 u M2) : rT 18 M2 M2 := by
  obtain ⟨Ma, ea, hv, hM⟩ := h1
  obtain ⟨Mb, eb, Mc, ec, hu, hN⟩ := h2
  rw [hN, ec, eb, hM, ea]
  refine rT_to (rT_state h (x := p1)) (fun a b q1 q2 => ?_) fun a b q1 q2 => ap_eq ?_
  · rw [aPut_cell (by omega), aPut_cell (by omega)]
  · rw [p0_at q2, aPut_cell (by omega)]
theorem op_number_T {p1 p2 v u : Int32} {M M1 M2 : pMem} (hA : rA M) (h : rT 18 M M) (h1 : D_25 p1 p2 M v M1) (h2 : D_52 p1 p2 M1 u M2) : rT 18 M2 M2 := by
  have vu := (op_number hA h1 h2).1
  have c1 : (v = kI 0 ∧ M1 = M) ∨ (v = kI 1 ∧ (0 ≤ p2.toInt ∧ p2.toInt ≤ 99) ∧ M1 = aPut M 29 (ix p1) p2) := by
    rcases h1 with ⟨_, hv, hM⟩ | ⟨g, h1⟩
    · exact Or.inl ⟨hv, hM⟩
    · rcases h1 with ⟨_, hv, hM⟩ | ⟨g1, h1⟩
      · exact Or.inl ⟨hv, hM⟩
      · rcases h1 with ⟨g2, _, Mb, eb, hv, hM⟩ | ⟨_, hv, hM⟩
        · rw [i_lt, i_0] at g1
          rw [i_le, kI_toInt (by decide) (by decide)] at g2
          exact Or.inr ⟨hv, ⟨by omega, g2⟩, by rw [hM, eb]⟩
        · exact Or.inl ⟨hv, hM⟩
  have c2 : (u = kI 0 ∧ M2 = aPut M1 188 0 (kI 0)) ∨ (u = kI 1 ∧ M2 = aPut (aPut M1 188 0 (kI 0)) 193 (ix p1) p2) := by
    obtain ⟨Ma, ea, h2⟩ := h2
    rw [← ea]
    rcases h2 with ⟨_, hu, hM⟩ | ⟨_, h2⟩
    · exact Or.inl ⟨hu, hM⟩
    · rcases h2 with ⟨_, _, Mb, eb, hu, hM⟩ | ⟨_, hu, hM⟩
      · exact Or.inr ⟨hu, by rw [hM, eb]⟩
      · exact Or.inl ⟨hu, hM⟩
  rcases c1 with ⟨v1, e1⟩ | ⟨v1, g, e1⟩
  · rcases c2 with ⟨u1, e2⟩ | ⟨u1, e2⟩
    · rw [e2, e1]; exact rT_0 h
    · exact absurd (v1.symm.trans (vu.trans u1)) k01
  · rcases c2 with ⟨u1, e2⟩ | ⟨u1, e2⟩
    · exact absurd (u1.symm.trans (vu.symm.trans v1)) k01
    · rw [e2, e1]
      refine rT_to (rT_number h g (i := ix p1)) (fun a b q1 q2 => ?_) fun a b q1 q2 => ap_eq ?_
      · rw [aPut_cell (by omega), aPut_cell (by omega)]
      · rw [p0_at q2, aPut_cell (by omega)]
theorem f35_i {x : Int32} (h : ¬ f_35 x = 0) : -50 ≤ x.toInt ∧ x.toInt ≤ 50 := by
  have q := f_42_iff.mp (show ¬ f_42 x (kI (-50)) (kI 50) = 0 from h)
  rw [i_le, i_le, kI_toInt (by decide) (by decide), kI_toInt (by decide) (by decide)] at q
  exact q
theorem op_told_T {p1 p2 v u : Int32} {M M1 M2 : pMem} (h : rT 18 M M) (h1 : D_22 p1 p2 M v M1) (h2 : D_117 p1 p2 M1 u M2) : rT 18 M2 M2 ∧ v = u := by
  have c1 : (v = kI 0 ∧ M1 = M ∧ ¬ ((1 ≤ p1.toInt ∧ p1.toInt ≤ 24) ∧ (p2 = kI (-100) ∨ (-50 ≤ p2.toInt ∧ p2.toInt ≤ 50)))) ∨ (v = kI 1 ∧ M1 = aPut M 28 (ix (p1 - kI 1)) p2 ∧ ((1 ≤ p1.toInt ∧ p1.toInt ≤ 24) ∧ (p2 = kI (-100) ∨ (-50 ≤ p2.toInt ∧ p2.toInt ≤ 50)))) := by
    rcases h1 with ⟨g, hv, hM⟩ | ⟨g, h1⟩
    · rw [i_lt, kI1] at g
      exact Or.inl ⟨hv, hM, fun q => by omega⟩
    · rw [i_lt, kI1] at g
      rcases h1 with ⟨g2, hv, hM⟩ | ⟨g2, h1⟩
      · rw [i_lt, kI_toInt (by decide) (by decide)] at g2
        exact Or.inl ⟨hv, hM, fun q => by omega⟩
      · rw [i_lt, kI_toInt (by decide) (by decide)] at g2
        rcases h1 with ⟨g3, _, Mb, eb, hv, hM⟩ | ⟨g3, h1⟩
        · exact Or.inr ⟨hv, by rw [hM, eb], ⟨by omega, by omega⟩, Or.inr (f35_i g3)⟩
        · rcases h1 with ⟨g4, _, Mb, eb, hv, hM⟩ | ⟨g4, hv, hM⟩
          · exact Or.inr ⟨hv, by rw [hM, eb], ⟨by omega, by omega⟩, Or.inl g4⟩
          · refine Or.inl ⟨hv, hM, fun q => ?_⟩
            rcases q.2 with q | q
            · exact g4 q
            · refine g3 ((f_42_iff (v := p2) (a := kI (-50)) (b := kI 50)).mpr ?_)
              rw [i_le, i_le, kI_toInt (by decide) (by decide), kI_toInt (by decide) (by decide)]
              exact q
  have c2 : (u = kI 0 ∧ M2 = aPut M1 188 0 (kI 0) ∧ ¬ ((1 ≤ p1.toInt ∧ p1.toInt ≤ 24) ∧ (p2 = kI (-100) ∨ (-50 ≤ p2.toInt ∧ p2.toInt ≤ 50)))) ∨ (u = kI 1 ∧ ∃ b, ((b = 0 ∧ p2 = kI (-100)) ∨ (b = kI 1 ∧ -50 ≤ p2.toInt ∧ p2.toInt ≤ 50)) ∧ M2 = aPut (aPut (aPut M1 188 0 (kI 0)) 226 (ix (p1 - kI 1)) b) 227 (ix (p1 - kI 1)) p2) := by
    obtain ⟨Ma, ea, h2⟩ := h2
    rw [← ea]
    rcases h2 with ⟨g, hu, hM⟩ | ⟨g, h2⟩
    · refine Or.inl ⟨hu, hM, fun q => absurd g (f_42_iff.mpr ?_)⟩
      rw [i_le, i_le, kI1, kI_toInt (by decide) (by decide)]
      exact q.1
    · rcases h2 with ⟨g2, h2⟩ | ⟨g2, h2⟩
      · obtain ⟨_, Mb, eb, _, Mc, ec, hu, hM⟩ := tIf_p g2 h2
        exact Or.inr ⟨hu, kI 0, Or.inl ⟨rfl, g2⟩, by rw [hM, ec, eb]⟩
      · rcases h2 with ⟨g3, h2⟩ | ⟨g3, hu, hM⟩
        · obtain ⟨_, Mb, eb, _, Mc, ec, hu, hM⟩ := tIf_n g2 h2
          exact Or.inr ⟨hu, kI 1, Or.inr ⟨rfl, f35_i (x := p2) g3⟩, by rw [hM, ec, eb]⟩
        · refine Or.inl ⟨hu, hM, fun q => ?_⟩
          rcases q.2 with q | q
          · exact g2 q
          · refine g3 (f_42_iff.mpr ?_)
            rw [i_le, i_le, kI_toInt (by decide) (by decide), kI_toInt (by decide) (by decide)]
            exact q
  rcases c1 with ⟨v1, e1, n1⟩ | ⟨v1, e1, n1⟩
  · rcases c2 with ⟨u1, e2, _⟩ | ⟨u1, b, hb, e2⟩
    · rw [e2, e1, v1, u1]; exact ⟨rT_0 h, rfl⟩
    · exfalso
      obtain ⟨Ma, ea, h2⟩ := h2
      rcases h2 with ⟨g, hu, hM⟩ | ⟨g, _⟩
      · exact k01 (hu.symm.trans u1)
      · have q := f_42_iff.mp g
        rw [i_le, i_le, kI1, kI_toInt (by decide) (by decide)] at q
        refine n1 ⟨q, ?_⟩
        rcases hb with ⟨_, b1⟩ | ⟨_, b1⟩
        · exact Or.inl b1
        · exact Or.inr b1
  · rcases c2 with ⟨u1, e2, n2⟩ | ⟨u1, b, hb, e2⟩
    · exact absurd n1 n2
    · refine ⟨?_, by rw [v1, u1]⟩
      rw [e2, e1]
      refine rT_to (rT_told h hb (i := ix (p1 - kI 1))) (fun a j q1 q2 => ?_) fun a j q1 q2 => ap_eq (ap_eq ?_)
      · rw [aPut_cell (by omega), aPut_cell (by omega), aPut_cell (by omega)]
      · rw [p0_at q2, aPut_cell (by omega)]
theorem op_force_T {p1 v u : Int32} {M M1 M2 : pMem} (h : rT 18 M M) (h1 : D_9 p1 M v M1) (h2 : D_103 p1 M1 u M2) : rT 18 M2 M2 ∧ v = u := by
  obtain ⟨Ma, ea, h2⟩ := h2
  have f7 : M 18 7 = M 188 4 := h.2.2.2.2.1.1
  by_cases c : 0 ≤ p1.toInt ∧ p1.toInt < 4
  · obtain ⟨Mb, eb, hv, hM⟩ := tIf_p (f_33_iff.mpr c) h1
    obtain ⟨Mc, ec, hu, hN⟩ := tIf_p (f_42_iff.mpr (by rw [i_le, i_le, kI0, kI_toInt (by decide) (by decide)]; omega)) h2
    refine ⟨?_, ?_⟩
    · rw [hN, ec, ea, hM, eb]
      refine rT_to (rT_force h c) (fun a j q1 q2 => ?_) fun a j q1 q2 => ap_eq ?_
      · rw [aPut_cell (by omega), aPut_cell (by omega)]
      · rw [p0_at q2, aPut_cell (by omega)]
    · rw [hv, hu, ea, aPut_at (by decide), hM, eb, aPut_cell (by decide)]
      exact f7
  · obtain ⟨hv, hM⟩ := tIf_n (fun q => c (f_33_iff.mp q)) h1
    obtain ⟨hu, hN⟩ := tIf_n (fun q => c (by have q := f_42_iff.mp q; rw [i_le, i_le, kI0, kI_toInt (by decide) (by decide)] at q; omega)) h2
    rw [hN, ea, hM, hv, hu]
    exact ⟨rT_0 h, rfl⟩
theorem op_row_T {p1 v u : Int32} {M M1 M2 : pMem} (h : rT 18 M M) (h1 : D_20 p1 M v M1) (h2 : D_113 p1 M1 u M2) : rT 18 M2 M2 ∧ v = u := by
  obtain ⟨Ma, ea, h2⟩ := h2
  obtain ⟨f8, f9, f10⟩ : M 18 8 = M 188 71 ∧ 0 ≤ (M 188 71).toInt ∧ (M 188 71).toInt ≤ 5 := h.2.2.2.2.2.1
  have m71 : M1 188 71 = M 188 71 → Ma 188 71 = M 188 71 := fun e => by rw [ea, aPut_at (by decide)]; exact e
  by_cases c : p1 = kI (-1)
  · obtain ⟨Mb, eb, hv, hM⟩ := tIf_n (nn c) h1
    obtain ⟨Mc, ec, hu, hN⟩ := tIf_n (nn c) h2
    refine ⟨?_, by rw [hv, hu]⟩
    rw [hN, ec, ea, hM, eb]
    refine rT_to (rT_row h (x := kI 0) (by decide)) (fun a j q1 q2 => ?_) fun a j q1 q2 => ap_eq ?_
    · rw [aPut_cell (by omega), aPut_cell (by omega)]
    · rw [p0_at q2, aPut_cell (by omega)]
  · have h1 := tIf_p c h1
    have h2 := tIf_p c h2
    by_cases c2 : f_34 p1 = 0
    · obtain ⟨hv, hM⟩ := tIf_p c2 h1
      obtain ⟨hu, hN⟩ := tIf_p (show f_42 p1 (kI 0) (kI 3) = 0 from c2) h2
      rw [hN, ea, hM, hv, hu]
      exact ⟨rT_0 h, rfl⟩
    · have h1 := tIf_n c2 h1
      have h2 := tIf_n (show ¬ f_42 p1 (kI 0) (kI 3) = 0 from c2) h2
      by_cases c3 : M 18 8 < kI 5
      · obtain ⟨_, Mb, eb, Mc, ec, hv, hM⟩ := tIf_p c3 h1
        rw [i_lt, kI_toInt (by decide) (by decide), f8] at c3
        have e71 : Ma 188 71 = M 188 71 := m71 (by rw [hM, ec, aPut_cell (by decide), eb, aPut_cell (by decide)])
        have h2 := tIf_p (show ¬ Ma 188 71 = kI 5 by rw [e71, yk (by decide) (by decide)]; omega) h2
        obtain ⟨_, Md, ed, Me, ee, hu, hN⟩ := h2
        have b8 : Mb 18 8 = M 188 71 := by rw [eb, aPut_cell (by decide)]; exact f8
        have d71 : Md 188 71 = M 188 71 := by rw [ed, aPut_cell (by decide)]; exact e71
        rw [b8] at ec
        rw [d71] at ee
        have n1 : (M 188 71 + kI 1).toInt = (M 188 71).toInt + 1 := i_add1 (by omega)
        refine ⟨?_, by rw [hv, hu, ec, ee, aPut_same, aPut_same]⟩
        rw [hN]
        refine rT_to (rT_row h (x := M 188 71 + kI 1) ⟨by rw [n1]; omega, by rw [n1]; omega⟩) (fun a j q1 q2 => ?_) fun a j q1 q2 => ?_
        · rw [ee, aPut_cell (by omega), ed, aPut_cell (by omega), ea, aPut_cell (by omega), hM, ec]
          exact ap_eq (by rw [eb, aPut_cell (by omega)])
        · rw [ee]
          exact ap_eq (by rw [ed, aPut_cell (by omega), ea, p0_at q2, hM, ec, aPut_cell (by omega), eb, aPut_cell (by omega)])
      · obtain ⟨hv, hM⟩ := tIf_n c3 h1
        rw [i_lt, kI_toInt (by decide) (by decide), f8] at c3
        have e71 : Ma 188 71 = M 188 71 := m71 (by rw [hM])
        obtain ⟨hu, hN⟩ := tIf_n (show ¬ ¬ Ma 188 71 = kI 5 from nn (by rw [e71, yk (by decide) (by decide)]; omega)) h2
        rw [hN, ea, hM, hv, hu]
        exact ⟨rT_0 h, rfl⟩
theorem D_224_c {i j : Nat} {p1 p2 p3 : Int32} (hi : p1.toInt = i) (hj : p2.toInt = j) (hi24 : i < 24) (hj24 : j < 24) (ne : ¬ i = j) {M : pMem} {v : Unit} {N : pMem} (h : D_224 19 p1 p2 p3 M v N) :
    ∃ x y, (∀ k, k < 24 → bt x k = if k = j then !decide (p3 = 0) else bt (M 21 i) k) ∧ (∀ k, k < 24 → bt y k = if k = i then !decide (p3 = 0) else bt (M 21 j) k) ∧ N = aPut (aPut M 21 i x) 21 j y := by
  have o : ∀ {x : Int32}, aPut M 21 i x 21 j = M 21 j := fun {x} => by rw [aPut_row, if_neg (fun e => ne e.symm)]
  by_cases c : p3 = 0
  · obtain ⟨_, _, M1, e1, h⟩ := tIf_p c h
    obtain ⟨_, _, M2, e2, _, hN⟩ := tIf_p c h
    have e1 : M1 = aPut M 21 i (M 21 i &&& ((kI 1 <<< (p2 &&& 31)) ^^^ kI (-1))) := by rw [← ix_of hi]; exact e1
    have e2 : M2 = aPut M1 21 j (M1 21 j &&& ((kI 1 <<< (p1 &&& 31)) ^^^ kI (-1))) := by rw [← ix_of hj]; exact e2
    have d : (!decide (p3 = 0)) = false := by rw [decide_eq_true c]; rfl
    rw [d]
    refine ⟨_, _, fun k hk => bt_clr hj hj24 hk, fun k hk => bt_clr hi hi24 hk, ?_⟩
    rw [hN, e2, e1, o]
  · obtain ⟨_, _, M1, e1, h⟩ := tIf_n c h
    obtain ⟨_, _, M2, e2, _, hN⟩ := tIf_n c h
    have e1 : M1 = aPut M 21 i (M 21 i ||| (kI 1 <<< (p2 &&& 31))) := by rw [← ix_of hi]; exact e1
    have e2 : M2 = aPut M1 21 j (M1 21 j ||| (kI 1 <<< (p1 &&& 31))) := by rw [← ix_of hj]; exact e2
    have d : (!decide (p3 = 0)) = true := by rw [decide_eq_false c]; rfl
    rw [d]
    refine ⟨_, _, fun k hk => bt_set hj hj24 hk, fun k hk => bt_set hi hi24 hk, ?_⟩
    rw [hN, e2, e1, o]
theorem op_knew_T {p1 p2 p3 v u : Int32} {M M1 M2 : pMem} (hA : rA M) (h : rT 18 M M) (h1 : D_3 p1 p2 p3 M v M1) (h2 : D_49 p1 p2 p3 M1 u M2) : rT 18 M2 M2 := by
  have vu := (op_knew hA h1 h2).1
  have c1 : (v = kI 0 ∧ M1 = M) ∨ (v = kI 1 ∧ ¬ f_223 19 p1 p2 M = 0 ∧ ∃ w, D_224 19 p1 p2 p3 M w M1) := by
    rcases h1 with ⟨g, w, Mb, hb, hv, hM⟩ | ⟨g, hv, hM⟩
    · exact Or.inr ⟨hv, g, w, by rw [hM]; exact hb⟩
    · exact Or.inl ⟨hv, hM⟩
  have c2 : (u = kI 0 ∧ M2 = aPut M1 188 0 (kI 0)) ∨ (u = kI 1 ∧ ∃ b, (b = if (!decide (p3 = 0)) = true then kI 1 else kI 0) ∧ M2 = aPut (aPut (aPut M1 188 0 (kI 0)) 195 (ix (kI 24 * p1 + p2)) b) 195 (ix (kI 24 * p2 + p1)) b) := by
    obtain ⟨Ma, ea, h2⟩ := h2
    rw [← ea]
    rcases h2 with ⟨_, hu, hM⟩ | ⟨_, h2⟩
    · exact Or.inl ⟨hu, hM⟩
    · rcases h2 with ⟨_, hu, hM⟩ | ⟨_, h2⟩
      · exact Or.inl ⟨hu, hM⟩
      · rcases h2 with ⟨_, h2⟩ | ⟨_, hu, hM⟩
        · by_cases c : p3 = 0
          · obtain ⟨_, Mb, eb, h2⟩ := tIf_p c h2
            obtain ⟨_, Mc, ec, hu, hM⟩ := tIf_p c h2
            exact Or.inr ⟨hu, kI 0, by rw [decide_eq_true c]; rfl, by rw [hM, ec, eb]⟩
          · obtain ⟨_, Mb, eb, h2⟩ := tIf_n c h2
            obtain ⟨_, Mc, ec, hu, hM⟩ := tIf_n c h2
            exact Or.inr ⟨hu, kI 1, by rw [decide_eq_false c]; rfl, by rw [hM, ec, eb]⟩
        · exact Or.inl ⟨hu, hM⟩
  rcases c1 with ⟨v1, e1⟩ | ⟨v1, g, w, h224⟩
  · rcases c2 with ⟨u1, e2⟩ | ⟨u1, _⟩
    · rw [e2, e1]; exact rT_0 h
    · exact absurd (v1.symm.trans (vu.trans u1)) k01
  · rcases c2 with ⟨u1, e2⟩ | ⟨u1, b, hb, e2⟩
    · exact absurd (u1.symm.trans (vu.symm.trans v1)) k01
    · obtain ⟨g1, g2, ne⟩ := f223_i g
      obtain ⟨i, hi, hi24⟩ := boyN hA g1
      obtain ⟨j, hj, hj24⟩ := boyN hA g2
      have nij : ¬ i = j := fun e => ne (Int32.toInt_inj.mp (by rw [hi, hj, e]))
      rw [(ix24 hi hj hi24 hj24).2, (ix24 hj hi hj24 hi24).2] at e2
      obtain ⟨x, y, hx, hy, eN⟩ := D_224_c hi hj hi24 hj24 nij h224
      have r1 := rT_know h hi24 hj24 hx hb
      have hy' : ∀ k, k < 24 → bt y k = if k = i then !decide (p3 = 0) else bt (aPut M 21 i x 21 j) k := fun k hk => by
        rw [aPut_row, if_neg (show ¬ j = i from fun e => nij e.symm)]
        exact hy k hk
      have r2 := rT_know r1 hj24 hi24 hy' hb
      rw [e2, eN]
      refine rT_to r2 (fun a c q1 q2 => ?_) fun a c q1 q2 => ap_eq (ap_eq ?_)
      · rw [aPut_cell (by omega), aPut_cell (by omega), aPut_cell (by omega)]
      · rw [p0_at q2, aPut_cell (by omega), aPut_cell (by omega)]
theorem op_boy_T {p1 p2 v u : Int32} {M M1 M2 : pMem} (hA : rA M) (h : rT 18 M M) (h1 : D_1 p1 p2 M v M1) (h2 : D_47 p1 p2 M1 u M2) : rT 18 M2 M2 := by
  have vu := (op_boy hA h1 h2).1
  obtain ⟨_, ⟨n1, n2, n3, ⟨n4, n4'⟩, n5⟩, _⟩ := hA
  obtain ⟨n, hn⟩ : ∃ n : Nat, (M 19 0).toInt = n := ⟨(M 19 0).toInt.toNat, by omega⟩
  have nm1 : ∀ x : Int32, x.toInt = n → ¬ x = kI (-1) := fun x hx e => by
    rw [e, kI_toInt (by decide) (by decide)] at hx
    omega
  have c1 : (v = kI (-1) ∧ M1 = M) ∨ (v = M 19 0 ∧ n < 24 ∧ (p1 = 0 ∨ p1 = kI 1) ∧ M1 = aPut (aPut (aPut (aPut (aPut M 19 0 (M 19 0 + kI 1)) 20 n p2) 19 1 (M 19 1 ||| (p1 <<< (M 19 0 &&& 31)))) 19 2 (M 19 2 ||| (kI 1 <<< (M 19 0 &&& 31)))) 19 3 (M 19 3 ||| (kI 1 <<< (M 19 0 &&& 31)))) := by
    rcases h1 with ⟨_, hv, hM⟩ | ⟨g1, h1⟩
    · exact Or.inl ⟨hv, hM⟩
    · rcases h1 with ⟨_, hv, hM⟩ | ⟨_, h1⟩
      · exact Or.inl ⟨hv, hM⟩
      · rcases h1 with ⟨_, hv, hM⟩ | ⟨_, h1⟩
        · exact Or.inl ⟨hv, hM⟩
        · rcases h1 with ⟨_, hv, hM⟩ | ⟨g2, h1⟩
          · exact Or.inl ⟨hv, hM⟩
          · rcases h1 with ⟨_, va, Mb, h221, hv, hM⟩ | ⟨_, hv, hM⟩
            · rw [hM, hv]
              rw [i_le, kI_toInt (by decide) (by decide)] at g2
              have h221 := tIf_n (by rw [i_lt, i_0]; omega) h221
              have h221 := tIf_p (by rw [i_lt, kI_toInt (by decide) (by decide)]; omega) h221
              obtain ⟨Mc, ec, _, Md, ed, Me, ee, Mf, ef, Mg, eg, hva, hMb⟩ := h221
              refine Or.inr ⟨hva, by omega, ?_, ?_⟩
              · rcases f_32_iff.mp g1 with q | q
                · exact Or.inl (by rw [i_eq, i_0]; exact q)
                · exact Or.inr (kI_inj q)
              · rw [hMb, eg]
                have ed : Md = aPut Mc 20 n p2 := by rw [← ix_of hn]; exact ed
                have d : ∀ j, j ≠ 0 → Md 19 j = M 19 j := fun j hj => by rw [ed, aPut_cell (by decide), ec, aPut_at hj]
                rw [d 1 (by decide)] at ee
                have e2 : Me 19 2 = M 19 2 := by rw [ee, aPut_at (by decide)]; exact d 2 (by decide)
                rw [e2] at ef
                have e3 : Mf 19 3 = M 19 3 := by rw [ef, aPut_at (by decide), ee, aPut_at (by decide)]; exact d 3 (by decide)
                rw [e3, ef, ee, ed, ec]
            · exact Or.inl ⟨hv, hM⟩
  have c2 : (u = kI (-1) ∧ M2 = aPut M1 188 0 (kI 0)) ∨ (u = (M1 188 2 + kI 1) - kI 1 ∧ M2 = aPut (aPut (aPut (aPut (aPut (aPut M1 188 0 (kI 0)) 189 (ix (M1 188 2)) p1) 190 (ix (M1 188 2)) p2) 191 (ix (M1 188 2)) (kI 1)) 192 (ix (M1 188 2)) (kI 1)) 188 2 (M1 188 2 + kI 1)) := by
    obtain ⟨Ma, ea, h2⟩ := h2
    rw [← ea]
    have a2 : Ma 188 2 = M1 188 2 := by rw [ea, aPut_at (by decide)]
    rcases h2 with ⟨_, hu, hM⟩ | ⟨_, h2⟩
    · exact Or.inl ⟨hu, hM⟩
    · rcases h2 with ⟨_, hu, hM⟩ | ⟨_, h2⟩
      · exact Or.inl ⟨hu, hM⟩
      · rcases h2 with ⟨_, hu, hM⟩ | ⟨_, h2⟩
        · exact Or.inl ⟨hu, hM⟩
        · rcases h2 with ⟨_, _, Mb, eb, _, Mc, ec, _, Md, ed, _, Me, ee, Mf, ef, hu, hM⟩ | ⟨_, hu, hM⟩
          · have b2 : Mb 188 2 = M1 188 2 := by rw [eb, aPut_cell (by decide)]; exact a2
            have c2 : Mc 188 2 = M1 188 2 := by rw [ec, aPut_cell (by decide)]; exact b2
            have d2 : Md 188 2 = M1 188 2 := by rw [ed, aPut_cell (by decide)]; exact c2
            have e2 : Me 188 2 = M1 188 2 := by rw [ee, aPut_cell (by decide)]; exact d2
            rw [a2] at eb
            rw [b2] at ec
            rw [c2] at ed
            rw [d2] at ee
            rw [e2] at ef
            exact Or.inr ⟨by rw [hu, ef, aPut_same], by rw [hM, ef, ee, ed, ec, eb]⟩
          · exact Or.inl ⟨hu, hM⟩
  have f1 := F_1 h1
  have m2 : M1 188 2 = M 19 0 := (f1 188 2 (by decide) rfl rfl).trans n1.symm
  have un : ((M1 188 2 + kI 1) - kI 1).toInt = n := by
    have t1 : (M1 188 2 + kI 1).toInt = (M1 188 2).toInt + 1 := i_add1 (by rw [m2]; omega)
    rw [i_sub (by rw [t1, kI1, m2]; omega) (by rw [t1, kI1, m2]; omega), t1, kI1, m2]
    omega
  rcases c1 with ⟨v1, e1⟩ | ⟨v1, n24, hp, e1⟩
  · rcases c2 with ⟨u1, e2⟩ | ⟨u1, e2⟩
    · rw [e2, e1]; exact rT_0 h
    · exact absurd (u1.symm.trans (vu.symm.trans v1)) (nm1 _ un)
  · rcases c2 with ⟨u1, e2⟩ | ⟨u1, e2⟩
    · exact absurd (v1.symm.trans (vu.trans u1)) (nm1 _ hn)
    · have ixn : ix (M1 188 2) = n := ix_of (by rw [m2]; exact hn)
      rw [ixn, m2] at e2
      have cl : ∀ a j, a < 188 → M2 a j = M1 a j := fun a j ha => by rw [e2, aPut_cell (by omega), aPut_cell (by omega), aPut_cell (by omega), aPut_cell (by omega), aPut_cell (by omega), aPut_cell (by omega)]
      have oth : ∀ a, a ≠ 19 → a ≠ 20 → M1 a = M a := fun a q1 q2 => by rw [e1, apR q1, apR q1, apR q1, apR q2, apR q1]
      refine rT_boy (q := p2) h (n := n) (p := p1) (by rw [← n1]; exact hn) n24 hp ?_ ?_ ?_ ?_ (fun j hj => ?_) (fun i => ?_) (fun b q1 q2 q3 q4 => funext fun j => ?_) ?_ (fun j q1 q2 => ?_) (fun i => ?_) (fun i => ?_) (fun i => ?_) (fun i => ?_) (fun b q1 q2 => ?_)
      · rw [cl 19 0 (by decide), e1, aPut_at (by decide), aPut_at (by decide), aPut_at (by decide), aPut_cell (by decide), aPut_same]
      · rw [cl 19 1 (by decide), e1, aPut_at (by decide), aPut_at (by decide), aPut_same]
      · rw [cl 19 2 (by decide), e1, aPut_at (by decide), aPut_same]
      · rw [cl 19 3 (by decide), e1, aPut_same]
      · rw [cl 19 j (by decide), e1, aPut_at (by omega), aPut_at (by omega), aPut_at (by omega), aPut_cell (by decide), aPut_at (by omega)]
      · rw [cl 20 i (by decide), e1, aPut_cell (by decide), aPut_cell (by decide), aPut_cell (by decide), aPut_row, aPut_cell (by decide)]
      · rw [cl b j (by omega), oth b q3 q4]
      · rw [e2, aPut_same, n1]
      · rw [e2, aPut_at q2, aPut_cell (by decide), aPut_cell (by decide), aPut_cell (by decide), aPut_cell (by decide), aPut_at (by omega), oth 188 (by decide) (by decide)]
      · rw [e2, aPut_cell (by decide), aPut_cell (by decide), aPut_cell (by decide), aPut_cell (by decide), aPut_row, aPut_cell (by decide), oth 189 (by decide) (by decide)]
      · rw [e2, aPut_cell (by decide), aPut_cell (by decide), aPut_cell (by decide), aPut_row, aPut_cell (by decide), aPut_cell (by decide), oth 190 (by decide) (by decide)]
      · rw [e2, aPut_cell (by decide), aPut_cell (by decide), aPut_row, aPut_cell (by decide), aPut_cell (by decide), aPut_cell (by decide), oth 191 (by decide) (by decide)]
      · rw [e2, aPut_cell (by decide), aPut_row, aPut_cell (by decide), aPut_cell (by decide), aPut_cell (by decide), aPut_cell (by decide), oth 192 (by decide) (by decide)]
      · rw [e2, apR (by omega), apR (by omega), apR (by omega), apR (by omega), apR (by omega), apR (by omega), oth b (by omega) (by omega)]
