/-! the other calls, over what both sides have in common -/
theorem op_frame {L1 L2 : List (Nat × Nat)} {M M1 M2 : pMem} (h : rA M) (f1 : pFr L1 M M1) (f2 : pFr L2 M1 M2) (k1 : kAll L1 = true) (k2 : kAll L2 = true) : rA M2 := rA_fr f2 k2 (rA_fr f1 k1 h)
def kThk (L : List (Nat × Nat)) : Bool := kTape L && ((pOut L 19 0 && (pOut L 19 4 && (pOut L 19 5 && pOut L 188 2))) && (kImg L && (kTk L && (kPn L && kPi L))))
theorem op_think {L1 L2 : List (Nat × Nat)} {M M1 M2 : pMem} (h : rA M) (f1 : pFr L1 M M1) (f2 : pFr L2 M1 M2) (k1 : kAll L1 = true) (k2 : kThk L2 = true) (s : rS M1 M2) : rA M2 := by
  have h1 := rA_fr f1 k1 h
  unfold kThk at k2
  simp only [Bool.and_eq_true] at k2
  obtain ⟨q1, ⟨n0, n4, n5, n2⟩, q3, q4, q5, q6⟩ := k2
  obtain ⟨t, n, i, k, p, r⟩ := h1
  refine ⟨rTape_fr f2 q1 t, ?_, rImg_fr f2 q3 i, rTk_fr f2 q4 k, rPn_fr f2 q5 p, rPi_fr f2 q6 r⟩
  obtain ⟨s1, s3⟩ := rS_13 s
  unfold rNow
  rw [f2 19 0 (by decide) rfl n0, f2 19 4 (by decide) rfl n4, f2 19 5 (by decide) rfl n5, f2 188 2 (by decide) rfl n2, s1, s3]
  exact n
theorem f_45_at {M M' : pMem} (h : M' 188 2 = M 19 0) (x : Int32) : f_45 x M' = f_222 19 x M := by
  unfold f_45 f_222
  rw [h]
theorem f_32_iff {x : Int32} : ¬ f_32 x = 0 ↔ x.toInt = 0 ∨ x.toInt = 1 := by
  unfold f_32
  by_cases a : x = 0
  · rw [if_pos a, a]
    exact ⟨fun _ => Or.inl rfl, fun _ => by decide⟩
  · rw [if_neg a]
    by_cases b : x = kI 1
    · rw [if_neg (nn b), b]
      exact ⟨fun _ => Or.inr rfl, fun _ => by decide⟩
    · rw [if_pos b]
      refine ⟨fun q => absurd rfl q, fun q => ?_⟩
      rw [i_eq, i_0] at a
      rw [yk (by decide) (by decide)] at b
      exact absurd q (by omega)
theorem f_34_iff {x : Int32} : ¬ f_34 x = 0 ↔ 0 ≤ x.toInt ∧ x.toInt ≤ 3 := by
  have e : f_34 x = f_42 x (kI 0) (kI 3) := rfl
  rw [e, f_42_iff, i_le, i_le, kI0, kI_toInt (by decide) (by decide)]
theorem op_like {p1 p2 p3 v u : Int32} {M M1 M2 : pMem} (h : rA M) (h1 : D_2 p1 p2 p3 M v M1) (h2 : D_48 p1 p2 p3 M1 u M2) : v = u ∧ rA M2 := by
  have f1 := F_2 h1
  refine ⟨?_, op_frame h f1 (F_48 h2) (by decide +kernel) (by decide +kernel)⟩
  obtain ⟨Ma, ea, h2⟩ := h2
  have e := f_45_at (M := M) (M' := Ma) (by rw [ea, aPut_at (by decide), f1 188 2 (by decide) rfl rfl]; exact h.2.1.1.symm)
  rw [e p1, e p2] at h2
  by_cases a1 : f_222 19 p1 M = 0
  · have z : f_223 19 p1 p2 M = 0 := by unfold f_223; rw [if_pos a1]; rfl
    rw [(tIf_p z h1).1, (tIf_p a1 h2).1]
  · have h2 := tIf_n a1 h2
    by_cases a2 : f_222 19 p2 M = 0
    · have z : f_223 19 p1 p2 M = 0 := by unfold f_223; rw [if_neg a1, if_pos a2]; rfl
      rw [(tIf_p z h1).1, (tIf_p a2 h2).1]
    · have h2 := tIf_n a2 h2
      by_cases a3 : p1 = p2
      · have z : f_223 19 p1 p2 M = 0 := by unfold f_223; rw [if_neg a1, if_neg a2, if_pos a3]; rfl
        rw [(tIf_p z h1).1, (tIf_p a3 h2).1]
      · have h2 := tIf_n a3 h2
        have z : ¬ f_223 19 p1 p2 M = 0 := by unfold f_223; rw [if_neg a1, if_neg a2, if_neg a3]; decide
        have h1 := tIf_n z h1
        by_cases a4 : f_35 p3 = 0
        · have z4 : ¬ ¬ f_42 p3 (kI (-50)) (kI 50) = 0 := nn a4
          rw [(tIf_n (nn a4) h1).1, (tIf_n z4 h2).1]
        · have z4 : ¬ f_42 p3 (kI (-50)) (kI 50) = 0 := a4
          obtain ⟨_, Mb, _, hv, _⟩ := tIf_p a4 h1
          obtain ⟨_, Mc, _, hu, _⟩ := tIf_p z4 h2
          rw [hv, hu]
theorem op_knew {p1 p2 p3 v u : Int32} {M M1 M2 : pMem} (h : rA M) (h1 : D_3 p1 p2 p3 M v M1) (h2 : D_49 p1 p2 p3 M1 u M2) : v = u ∧ rA M2 := by
  have f1 := F_3 h1
  refine ⟨?_, op_frame h f1 (F_49 h2) (by decide +kernel) (by decide +kernel)⟩
  obtain ⟨Ma, ea, h2⟩ := h2
  have e := f_45_at (M := M) (M' := Ma) (by rw [ea, aPut_at (by decide), f1 188 2 (by decide) rfl rfl]; exact h.2.1.1.symm)
  rw [e p1, e p2] at h2
  by_cases a1 : f_222 19 p1 M = 0
  · have z : f_223 19 p1 p2 M = 0 := by unfold f_223; rw [if_pos a1]; rfl
    rw [(tIf_n (nn z) h1).1, (tIf_p a1 h2).1]
  · have h2 := tIf_n a1 h2
    by_cases a2 : f_222 19 p2 M = 0
    · have z : f_223 19 p1 p2 M = 0 := by unfold f_223; rw [if_neg a1, if_pos a2]; rfl
      rw [(tIf_n (nn z) h1).1, (tIf_p a2 h2).1]
    · have h2 := tIf_n a2 h2
      by_cases a3 : p1 = p2
      · have z : f_223 19 p1 p2 M = 0 := by unfold f_223; rw [if_neg a1, if_neg a2, if_pos a3]; rfl
        rw [(tIf_n (nn z) h1).1, (tIf_n (nn a3) h2).1]
      · have h2 := tIf_p a3 h2
        have z : ¬ f_223 19 p1 p2 M = 0 := by unfold f_223; rw [if_neg a1, if_neg a2, if_neg a3]; decide
        obtain ⟨_, Mb, _, hv, _⟩ := tIf_p z h1
        rw [hv]
        rcases h2 with ⟨_, _, Mc, _, h2⟩ | ⟨_, _, Mc, _, h2⟩
        · rcases h2 with ⟨_, _, Md, _, hu, _⟩ | ⟨_, _, Md, _, hu, _⟩
          · exact hu.symm
          · exact hu.symm
        · rcases h2 with ⟨_, _, Md, _, hu, _⟩ | ⟨_, _, Md, _, hu, _⟩
          · exact hu.symm
          · exact hu.symm
theorem op_number {p1 p2 v u : Int32} {M M1 M2 : pMem} (h : rA M) (h1 : D_25 p1 p2 M v M1) (h2 : D_52 p1 p2 M1 u M2) : v = u ∧ rA M2 := by
  have f1 := F_25 h1
  refine ⟨?_, op_frame h f1 (F_52 h2) (by decide +kernel) (by decide +kernel)⟩
  obtain ⟨Ma, ea, h2⟩ := h2
  have e := f_45_at (M := M) (M' := Ma) (by rw [ea, aPut_at (by decide), f1 188 2 (by decide) rfl rfl]; exact h.2.1.1.symm)
  rw [e p1] at h2
  by_cases a1 : f_222 19 p1 M = 0
  · rw [(tIf_p a1 h1).1, (tIf_p a1 h2).1]
  · have h1 := tIf_n a1 h1
    have h2 := tIf_n a1 h2
    by_cases a2 : p2 < 0
    · have z : ¬ ¬ f_42 p2 (kI 0) (kI 99) = 0 := nn (by unfold f_42; rw [if_pos (show p2 < kI 0 from a2)]; rfl)
      rw [(tIf_p a2 h1).1, (tIf_n z h2).1]
    · have h1 := tIf_n a2 h1
      by_cases a3 : p2 ≤ kI 99
      · have z : ¬ f_42 p2 (kI 0) (kI 99) = 0 := f_42_iff.mpr ⟨by rw [i_lt, i_0] at a2; rw [i_le, kI0]; omega, a3⟩
        obtain ⟨_, Mb, _, hv, _⟩ := tIf_p a3 h1
        obtain ⟨_, Mc, _, hu, _⟩ := tIf_p z h2
        rw [hv, hu]
      · have z : ¬ ¬ f_42 p2 (kI 0) (kI 99) = 0 := fun q => a3 (f_42_iff.mp q).2
        rw [(tIf_n a3 h1).1, (tIf_n z h2).1]
theorem op_told {p1 p2 v u : Int32} {M M1 M2 : pMem} (h : rA M) (h1 : D_22 p1 p2 M v M1) (h2 : D_117 p1 p2 M1 u M2) : rA M2 := by
  have hr := rA_fr (F_22 h1) (by decide +kernel) h
  have f2 := F_117 h2
  have k2 : (kTape l_117 && (kNow l_117 && (kImg l_117 && (kTk l_117 && kPn l_117)))) = true := by decide +kernel
  simp only [Bool.and_eq_true] at k2
  obtain ⟨t, n, i, k, p, r⟩ := hr
  refine ⟨rTape_fr f2 k2.1 t, rNow_fr f2 k2.2.1 n, rImg_fr f2 k2.2.2.1 i, rTk_fr f2 k2.2.2.2.1 k, rPn_fr f2 k2.2.2.2.2 p, ⟨fun a ha => ?_, fun b hb => ⟨?_, ?_⟩⟩⟩
  · have c : ∀ o j, o < 4 → M2 (93 + 11 * a + o) j = M1 (93 + 11 * a + o) j := fun o j ho => f2 _ j (by omega) (pi_scr ha ho) (by simp only [l_117, pOut_cons, pOut_nil, true_or, and_true]; omega)
    have q : ∀ j, M2 229 j = M1 229 j := fun j => f2 229 j (by decide) rfl (by simp only [l_117, pOut_cons, pOut_nil, true_or, and_true]; omega)
    exact rPlan_eq (r.1 a ha) (q _) (c 0 0 (by omega)) (fun i => ⟨c 1 i (by omega), c 2 i (by omega), c 3 i (by omega)⟩) (fun i _ => ⟨q _, q _⟩)
  · obtain ⟨Ma, ea, h2⟩ := h2
    have b0 : bo (Ma 226 b) := by rw [ea, aPut_cell (by decide)]; exact (r.2 b hb).1
    have one : ∀ {x : Int32} {j j2 : Nat} {y : Int32} {Mb Mc : pMem}, bo x → Mb = aPut Ma 226 j x → Mc = aPut Mb 227 j2 y → M2 = Mc → bo (M2 226 b) := by
      intro x j j2 y Mb Mc hx e1 e2 e3
      rw [e3, e2, aPut_cell (by decide), e1, aPut_row]
      by_cases q : b = j
      · rw [if_pos q]; exact hx
      · rw [if_neg q]; exact b0
    rcases h2 with ⟨_, _, hN⟩ | ⟨_, h2⟩
    · rw [hN]; exact b0
    · rcases h2 with ⟨_, h2⟩ | ⟨_, h2⟩
      · rcases h2 with ⟨_, _, Mb, e1, _, Mc, e2, _, e3⟩ | ⟨_, _, Mb, e1, _, Mc, e2, _, e3⟩
        · exact one (Or.inl rfl) e1 e2 e3
        · exact one (Or.inr rfl) e1 e2 e3
      · rcases h2 with ⟨_, h2⟩ | ⟨_, _, hN⟩
        · rcases h2 with ⟨_, _, Mb, e1, _, Mc, e2, _, e3⟩ | ⟨_, _, Mb, e1, _, Mc, e2, _, e3⟩
          · exact one (Or.inl rfl) e1 e2 e3
          · exact one (Or.inr rfl) e1 e2 e3
        · rw [hN]; exact b0
  · rw [f2 229 _ (by decide) rfl (by simp only [l_117, pOut_cons, pOut_nil, true_or, and_true]; omega)]
    exact (r.2 b hb).2
/-! days -/
def dDo (p1 p2 p3 : Int32) (d : Int) : Prop := (0 ≤ p1.toInt ∧ p1.toInt ≤ 3) ∧ (0 ≤ p2.toInt ∧ p2.toInt ≤ 9) ∧ (p1.toInt = 1 ∨ p2.toInt = 0) ∧ (p3.toInt = -1 ∨ p3.toInt = 0 ∨ p3.toInt = 1) ∧ d < 60
theorem D_10_c {p1 p2 p3 v : Int32} {M M1 : pMem} (h : D_10 p1 p2 p3 M v M1) : (dDo p1 p2 p3 (M 19 4).toInt ∧ D_30 p1 p2 p3 M v M1) ∨ (¬ dDo p1 p2 p3 (M 19 4).toInt ∧ v = kI (-1) ∧ M1 = M) := by
  have e1 : p1 = kI 1 ↔ p1.toInt = 1 := yk (by decide) (by decide)
  have e3 : p3 = kI (-1) ↔ p3.toInt = -1 := yk (by decide) (by decide)
  have e2 : p2 = 0 ↔ p2.toInt = 0 := by rw [i_eq, i_0]
  have e6 : M 19 4 < kI 60 ↔ (M 19 4).toInt < 60 := by rw [i_lt, kI_toInt (by decide) (by decide)]
  have n2 : p2 < 0 ↔ p2.toInt < 0 := by rw [i_lt, i_0]
  have m2 : kI 9 < p2 ↔ 9 < p2.toInt := by rw [i_lt, kI_toInt (by decide) (by decide)]
  have q32 := f_32_iff (x := p3)
  have q34 := f_34_iff (x := p1)
  unfold dDo
  rcases h with ⟨g, h⟩ | ⟨g, h⟩
  · exact Or.inr ⟨fun q => q34.mpr q.1 g, h⟩
  · have g := q34.mp g
    rcases h with ⟨g2, h⟩ | ⟨g2, h⟩
    · rw [n2] at g2
      exact Or.inr ⟨fun q => by omega, h⟩
    · rw [n2] at g2
      rcases h with ⟨g3, h⟩ | ⟨g3, h⟩
      · rw [m2] at g3
        exact Or.inr ⟨fun q => by omega, h⟩
      · rw [m2] at g3
        have day : (p1.toInt = 1 ∨ p2.toInt = 0) → (p3.toInt = -1 ∨ p3.toInt = 0 ∨ p3.toInt = 1) → (tIf ((M 19 4) < (kI 60)) (tCall (D_30 p1 p2 p3 M) fun v1 M1 => tRet v1 M1) (tRet (kI (-1)) M)) v M1 →
            (((0 ≤ p1.toInt ∧ p1.toInt ≤ 3) ∧ (0 ≤ p2.toInt ∧ p2.toInt ≤ 9) ∧ (p1.toInt = 1 ∨ p2.toInt = 0) ∧ (p3.toInt = -1 ∨ p3.toInt = 0 ∨ p3.toInt = 1) ∧ (M 19 4).toInt < 60) ∧ D_30 p1 p2 p3 M v M1) ∨ (¬ ((0 ≤ p1.toInt ∧ p1.toInt ≤ 3) ∧ (0 ≤ p2.toInt ∧ p2.toInt ≤ 9) ∧ (p1.toInt = 1 ∨ p2.toInt = 0) ∧ (p3.toInt = -1 ∨ p3.toInt = 0 ∨ p3.toInt = 1) ∧ (M 19 4).toInt < 60) ∧ v = kI (-1) ∧ M1 = M) := by
          rintro a b (⟨g6, v1, M2, h30, hv, hN⟩ | ⟨g6, h⟩)
          · rw [e6] at g6
            rw [hv, hN]
            exact Or.inl ⟨⟨g, ⟨by omega, by omega⟩, a, b, g6⟩, h30⟩
          · rw [e6] at g6
            exact Or.inr ⟨fun q => by omega, h⟩
        have wr : (p1.toInt = 1 ∨ p2.toInt = 0) → (tIf (p3 = (kI (-1))) (tIf ((M 19 4) < (kI 60)) (tCall (D_30 p1 p2 p3 M) fun v1 M1 => tRet v1 M1) (tRet (kI (-1)) M)) (tIf ((f_32 p3) = 0) (tRet (kI (-1)) M) (tIf ((M 19 4) < (kI 60)) (tCall (D_30 p1 p2 p3 M) fun v1 M1 => tRet v1 M1) (tRet (kI (-1)) M)))) v M1 →
            (((0 ≤ p1.toInt ∧ p1.toInt ≤ 3) ∧ (0 ≤ p2.toInt ∧ p2.toInt ≤ 9) ∧ (p1.toInt = 1 ∨ p2.toInt = 0) ∧ (p3.toInt = -1 ∨ p3.toInt = 0 ∨ p3.toInt = 1) ∧ (M 19 4).toInt < 60) ∧ D_30 p1 p2 p3 M v M1) ∨ (¬ ((0 ≤ p1.toInt ∧ p1.toInt ≤ 3) ∧ (0 ≤ p2.toInt ∧ p2.toInt ≤ 9) ∧ (p1.toInt = 1 ∨ p2.toInt = 0) ∧ (p3.toInt = -1 ∨ p3.toInt = 0 ∨ p3.toInt = 1) ∧ (M 19 4).toInt < 60) ∧ v = kI (-1) ∧ M1 = M) := by
          rintro a (⟨g5, h⟩ | ⟨g5, h⟩)
          · exact day a (Or.inl (e3.mp g5)) h
          · rw [e3] at g5
            rcases h with ⟨g7, h⟩ | ⟨g7, h⟩
            · exact Or.inr ⟨fun q => q32.mpr (q.2.2.2.1.resolve_left g5) g7, h⟩
            · exact day a (Or.inr (q32.mp g7)) h
        rcases h with ⟨g4, h⟩ | ⟨g4, h⟩
        · exact wr (Or.inl (e1.mp g4)) h
        · rw [e1] at g4
          rcases h with ⟨g5, h⟩ | ⟨g5, h⟩
          · rw [e2] at g5
            exact Or.inr ⟨fun q => by omega, h⟩
          · have g5 := e2.mp (Classical.not_not.mp g5)
            exact wr (Or.inr g5) h
theorem D_104_c {p1 p2 p3 v : Int32} {M M1 : pMem} (h : D_104 p1 p2 p3 M v M1) (h3 : (M 188 3).toInt ≤ 60) : ∃ Ma, Ma = aPut M 188 0 (kI 0) ∧ ((dDo p1 p2 p3 (M 188 3).toInt ∧ (∃ u, D_101 p1 p2 p3 Ma u M1) ∧ v = f_102 M1) ∨ (¬ dDo p1 p2 p3 (M 188 3).toInt ∧ v = kI (-1) ∧ M1 = Ma)) := by
  obtain ⟨Ma, ea, h⟩ := h
  refine ⟨Ma, ea, ?_⟩
  have a3 : Ma 188 3 = M 188 3 := by rw [ea, aPut_at (by decide)]
  have e1 : p1 = kI 1 ↔ p1.toInt = 1 := yk (by decide) (by decide)
  have e6 : Ma 188 3 = kI 60 ↔ (M 188 3).toInt = 60 := by rw [a3, yk (by decide) (by decide)]
  have q1 : ¬ f_42 p1 (kI 0) (kI 3) = 0 ↔ 0 ≤ p1.toInt ∧ p1.toInt ≤ 3 := by rw [f_42_iff, i_le, i_le, kI0, kI_toInt (by decide) (by decide)]
  have q2 : ¬ f_42 p2 (kI 0) (kI 0) = 0 ↔ 0 ≤ p2.toInt ∧ p2.toInt ≤ 0 := by rw [f_42_iff, i_le, i_le, kI0]
  have q9 : ¬ f_42 p2 (kI 0) (kI 9) = 0 ↔ 0 ≤ p2.toInt ∧ p2.toInt ≤ 9 := by rw [f_42_iff, i_le, i_le, kI0, kI_toInt (by decide) (by decide)]
  have q3 : ¬ f_42 p3 (kI (-1)) (kI 1) = 0 ↔ -1 ≤ p3.toInt ∧ p3.toInt ≤ 1 := by rw [f_42_iff, i_le, i_le, kI_toInt (by decide) (by decide), kI_toInt (by decide) (by decide)]
  unfold dDo
  rcases h with ⟨g, h⟩ | ⟨g, h⟩
  · exact Or.inr ⟨fun q => q1.mpr q.1 g, h⟩
  · have g := q1.mp g
    have tail : (0 ≤ p2.toInt ∧ p2.toInt ≤ 9) → (p1.toInt = 1 ∨ p2.toInt = 0) → (tIf ((f_42 p3 (kI (-1)) (kI 1)) = 0) (tRet (kI (-1)) Ma) (tIf (¬ (Ma 188 3) = (kI 60)) (tCall (D_101 p1 p2 p3 Ma) fun _ M2 => tRet (f_102 M2) M2) (tRet (kI (-1)) Ma))) v M1 →
        (((0 ≤ p1.toInt ∧ p1.toInt ≤ 3) ∧ (0 ≤ p2.toInt ∧ p2.toInt ≤ 9) ∧ (p1.toInt = 1 ∨ p2.toInt = 0) ∧ (p3.toInt = -1 ∨ p3.toInt = 0 ∨ p3.toInt = 1) ∧ (M 188 3).toInt < 60) ∧ (∃ u, D_101 p1 p2 p3 Ma u M1) ∧ v = f_102 M1) ∨ (¬ ((0 ≤ p1.toInt ∧ p1.toInt ≤ 3) ∧ (0 ≤ p2.toInt ∧ p2.toInt ≤ 9) ∧ (p1.toInt = 1 ∨ p2.toInt = 0) ∧ (p3.toInt = -1 ∨ p3.toInt = 0 ∨ p3.toInt = 1) ∧ (M 188 3).toInt < 60) ∧ v = kI (-1) ∧ M1 = Ma) := by
      rintro b c (⟨g3, h⟩ | ⟨g3, h⟩)
      · refine Or.inr ⟨fun q => q3.mpr ?_ g3, h⟩
        have := q.2.2.2.1
        omega
      · have g3 := q3.mp g3
        rcases h with ⟨g4, u, M2, h101, hv, hN⟩ | ⟨g4, h⟩
        · rw [e6] at g4
          rw [hv, hN]
          exact Or.inl ⟨⟨g, b, c, by omega, by omega⟩, ⟨u, h101⟩, rfl⟩
        · have g4 := e6.mp (Classical.not_not.mp g4)
          exact Or.inr ⟨fun q => by omega, h⟩
    rcases h with ⟨g2, h⟩ | ⟨g2, h⟩
    · rw [e1] at g2
      rcases h with ⟨g5, h⟩ | ⟨g5, h⟩
      · refine Or.inr ⟨fun q => q2.mpr ?_ g5, h⟩
        have := q.2.2.1
        omega
      · have g5 := q2.mp g5
        exact tail (by omega) (by omega) h
    · have g2 := e1.mp (Classical.not_not.mp g2)
      rcases h with ⟨g5, h⟩ | ⟨g5, h⟩
      · exact Or.inr ⟨fun q => q9.mpr q.2.1 g5, h⟩
      · exact tail (q9.mp g5) (Or.inl g2) h
theorem op_day {p1 p2 p3 v u : Int32} {M M1 M2 : pMem} (h : rA M) (h1 : D_10 p1 p2 p3 M v M1) (h2 : D_104 p1 p2 p3 M1 u M2) : rA M2 := by
  have f1 := F_10 h1
  have f2 := F_104 h2
  obtain ⟨t, n, i, k, p, r⟩ := h
  have k1 : (kTape l_10 && (kImg l_10 && (kTk l_10 && (kPn l_10 && kPi l_10)))) = true := by decide +kernel
  have k2 : (kTape l_104 && (kImg l_104 && (kTk l_104 && (kPn l_104 && kPi l_104)))) = true := by decide +kernel
  simp only [Bool.and_eq_true] at k1 k2
  refine ⟨rTape_fr f2 k2.1 (rTape_fr f1 k1.1 t), ?_, rImg_fr f2 k2.2.1 (rImg_fr f1 k1.2.1 i), rTk_fr f2 k2.2.2.1 (rTk_fr f1 k1.2.2.1 k), rPn_fr f2 k2.2.2.2.1 (rPn_fr f1 k1.2.2.2.1 p), rPi_fr f2 k2.2.2.2.2 (rPi_fr f1 k1.2.2.2.2 r)⟩
  obtain ⟨n1, n2, n3, n4, n5⟩ := n
  have c : ∀ j, M2 19 j = M1 19 j := fun j => f2 19 j (by decide) (pScr_of rfl (by decide) j) (by simp only [l_104, pOut_cons, pOut_nil, true_or, and_true]; omega)
  have m1 : M1 188 1 = M 188 1 := f1 188 1 (by decide) rfl (by simp only [l_10, pOut_cons, pOut_nil, true_or, and_true]; omega)
  have m2 : M1 188 2 = M 188 2 := f1 188 2 (by decide) rfl (by simp only [l_10, pOut_cons, pOut_nil, true_or, and_true]; omega)
  have m3 : M1 188 3 = M 188 3 := f1 188 3 (by decide) rfl (by simp only [l_10, pOut_cons, pOut_nil, true_or, and_true]; omega)
  obtain ⟨Ma, ea, h2⟩ := D_104_c h2 (by rw [m3, ← n2]; exact n5.2)
  have a : ∀ j, j ≠ 0 → Ma 188 j = M1 188 j := fun j hj => by rw [ea, aPut_at hj]
  unfold rNow
  rw [c 0, c 4, c 5]
  rw [m3, ← n2] at h2
  rcases D_10_c h1 with ⟨d1, h30⟩ | ⟨d1, _, hM⟩
  · rcases h2 with ⟨_, ⟨u', h101⟩, _⟩ | ⟨d2, _⟩
    · obtain ⟨w0, w4, w5⟩ := D_30_w h30
      obtain ⟨x2, x3, x1⟩ := D_101_w h101
      rw [w0, w4, w5, x2, x3, x1, a 2 (by decide), a 3 (by decide), a 1 (by decide), m2, m3, m1, ← n1, ← n2, ← n3]
      have t4 : (M 19 4 + kI 1).toInt = (M 19 4).toInt + 1 := i_add1 (by omega)
      refine ⟨rfl, rfl, rfl, n4, by rw [t4]; omega, ?_⟩
      rw [t4]
      have := d1.2.2.2.2
      omega
    · exact absurd d1 d2
  · rcases h2 with ⟨d2, _⟩ | ⟨_, _, hN⟩
    · exact absurd d2 d1
    · rw [hN, hM, a 2 (by decide), a 3 (by decide), a 1 (by decide), m2, m3, m1]
      exact ⟨n1, n2, n3, n4, n5⟩
theorem op_plan {p1 v u : Int32} {M M1 M2 : pMem} (h : rA M) (h1 : D_11 p1 M v M1) (h2 : D_106 p1 M1 u M2) : v = u ∧ rA M2 := by
  have f1 := F_11 h1
  have f2 := F_106 h2
  obtain ⟨t, n, i, k, p, r⟩ := h
  have k1 : (kTape l_11 && (kImg l_11 && (kTk l_11 && (kPn l_11 && kPi l_11)))) = true := by decide +kernel
  have k2 : (kTape l_106 && (kImg l_106 && (kTk l_106 && (kPn l_106 && kPi l_106)))) = true := by decide +kernel
  simp only [Bool.and_eq_true] at k1 k2
  have rest : rNow M2 → rA M2 := fun q => ⟨rTape_fr f2 k2.1 (rTape_fr f1 k1.1 t), q, rImg_fr f2 k2.2.1 (rImg_fr f1 k1.2.1 i), rTk_fr f2 k2.2.2.1 (rTk_fr f1 k1.2.2.1 k), rPn_fr f2 k2.2.2.2.1 (rPn_fr f1 k1.2.2.2.1 p), rPi_fr f2 k2.2.2.2.2 (rPi_fr f1 k1.2.2.2.2 r)⟩
  obtain ⟨n1, n2, n3, n4, n5⟩ := n
  have c : ∀ j, M2 19 j = M1 19 j := fun j => f2 19 j (by decide) (pScr_of rfl (by decide) j) (by simp only [l_106, pOut_cons, pOut_nil, true_or, and_true]; omega)
  have m1 : M1 188 1 = M 188 1 := f1 188 1 (by decide) rfl (by simp only [l_11, pOut_cons, pOut_nil, true_or, and_true]; omega)
  have m2 : M1 188 2 = M 188 2 := f1 188 2 (by decide) rfl (by simp only [l_11, pOut_cons, pOut_nil, true_or, and_true]; omega)
  have m3 : M1 188 3 = M 188 3 := f1 188 3 (by decide) rfl (by simp only [l_11, pOut_cons, pOut_nil, true_or, and_true]; omega)
  obtain ⟨Ma, ea, h2⟩ := h2
  have a : ∀ b j, ¬ (b = 188 ∧ j = 0) → Ma b j = M1 b j := fun b j hj => by
    by_cases eb : b = 188
    · subst eb
      rw [ea, aPut_at (fun e => hj ⟨rfl, e⟩)]
    · rw [ea, aPut_cell eb]
  by_cases g : 0 ≤ p1.toInt ∧ p1.toInt < 4
  · obtain ⟨q, hq⟩ : ∃ q : Nat, p1.toInt = q := ⟨p1.toInt.toNat, by omega⟩
    have hq4 : q < 4 := by omega
    obtain ⟨_, M3, h105, hu, hN⟩ := tIf_p (f_42_iff.mpr ⟨by rw [i_le, kI0]; exact g.1, by rw [i_le, kI_toInt (by decide) (by decide)]; omega⟩) h2
    obtain ⟨l, l1, l2, l3, l4⟩ := p q hq4
    obtain ⟨w1, w2, w3, w4⟩ := D_11_w hq hq4 l4 n5.2 h1
    have rr : ∀ b j, (b = 213 ∨ b = 214 ∨ b = 215) → Ma b j = M b j := fun b j hb => by
      rw [a b j (by omega), f1 b j (by omega) (by rcases hb with rfl | rfl | rfl <;> rfl) (by simp only [l_11, pOut_cons, pOut_nil, true_or, and_true]; omega)]
    obtain ⟨x1, x2, x3, x4⟩ := D_105_w (l := l) hq hq4 l1 (by rw [rr 213 q (by omega)]; exact l2) (by
      rw [show Ma 214 = M 214 from funext fun j => rr 214 j (by omega), show Ma 215 = M 215 from funext fun j => rr 215 j (by omega)]
      exact l3) (by rw [a 188 3 (by omega), m3, ← n2]; exact n5.2) h105
    rw [ksL_days, List.map_nil, List.nil_append] at w1 w3
    rw [a 188 3 (by omega), a 188 1 (by omega), m3, m1, ← n2, ← n3] at x1 x3
    rw [a 188 2 (by omega), m2] at x2
    refine ⟨by rw [hu, i_eq, w1, x1], rest ?_⟩
    rw [← hN] at x2 x3 x4
    obtain ⟨y4, y5⟩ := Prod.mk.inj (w3.trans x3.symm)
    unfold rNow
    rw [c 0, c 4, c 5, w2, x2]
    refine ⟨n1, y4, y5, n4, ?_, w4⟩
    -- days don't become fewer
    have dn : ∀ (l : List Int32) (q : Int32 × Int32), 0 ≤ q.1.toInt → q.1.toInt ≤ 60 → 0 ≤ (dyG l q).2.1.toInt := by
      intro l
      induction l with
      | nil => intro q h _; exact h
      | cons kk r ih =>
        intro q h hb
        by_cases e : kI 60 ≤ q.1
        · rw [dyG_full e]; exact h
        · rw [dyG_day e]
          rw [i_le, kI_toInt (by decide) (by decide)] at e
          exact ih _ (by show 0 ≤ (q.1 + kI 1).toInt; rw [i_add1 (by omega)]; omega) (by show (q.1 + kI 1).toInt ≤ 60; rw [i_add1 (by omega)]; omega)
    have := dn (ksL l) (M 19 4, M 19 5) n5.1 n5.2
    rw [← w3] at this
    exact this
  · have z : ¬ ¬ f_42 p1 (kI 0) (kI 3) = 0 := fun e => g (by
      have := f_42_iff.mp e
      rw [i_le, i_le, kI0, kI_toInt (by decide) (by decide)] at this
      omega)
    obtain ⟨hu, hN⟩ := tIf_n z h2
    obtain ⟨hv, hM⟩ := tIf_n (fun e => g (f_33_iff.mp e)) h1
    refine ⟨by rw [hv, hu], rest ?_⟩
    unfold rNow
    rw [c 0, c 4, c 5, hN, a 188 1 (by omega), a 188 2 (by omega), a 188 3 (by omega), hM]
    exact ⟨n1, n2, n3, n4, n5⟩
