/-! lot: both sides say the same -/
noncomputable def acT (o : List Cd) (L : List Ln) (V : pMem) (p : Int32) (i : Nat) : Int32 := if inL V p i = true then acr o L V i else 0
theorem acT_y {o : List Cd} {L : List Ln} {V : pMem} {p : Int32} {i : Nat} (h : inL V p i = true) : acT o L V p i = acr o L V i := if_pos h
theorem acT_n {o : List Cd} {L : List Ln} {V : pMem} {p : Int32} {i : Nat} (h : inL V p i = false) : acT o L V p i = 0 := if_neg (by rw [h]; decide)
theorem D_188_v {l : Nat} (hl : pK 2 l = true) {M V : pMem} (hV : rV V) (h : rW 19 M V) {o : List Cd} {L : List Ln} (hc : cLk M l o L) {p3 : Int32} (hp : bo p3) {v : Int32} {N : pMem} (hD : D_188 19 l p3 M v N) : v = sm (acT o L V p3) 24 := by
  have hw : pK 10 19 = true := by decide +kernel
  have cl := lCell hl
  have nl : ∀ j, j < 5 → 19 + j ≠ l + 6 := fun j hj e => lwCell hl hw 6 (by decide) j hj e.symm
  have r := hD (fun x4 x5 M' v _ => ∀ i : Nat, x5.toInt = i → i ≤ 24 → (∀ a, (a < 132 ∨ 137 < a) → a ≠ l + 6 → M' a = M a) → x4 = sm (acT o L V p3) i → v = sm (acT o L V p3) 24) ?_
  · exact r 0 rfl (Nat.zero_le _) (fun _ _ _ => rfl) rfl
  · intro x4 x5 M' v N hs i hi hi24 hM hx
    have hW : rW 19 M' V := rW_eq h fun j hj => hM _ (by omega) (nl j hj)
    have hcl : cLk M' l o L := cLk_c hc fun b q1 q2 => hM b (by omega) (by omega)
    rcases hs with ⟨g, hv, _⟩ | ⟨g, hs⟩
    · rw [i_le, hi, kI_toInt (by decide) (by decide)] at g
      have e : i = 24 := by omega
      rw [hv, hx, e]
    · rw [i_le, hi, kI_toInt (by decide) (by decide)] at g
      have i24 : i < 24 := by omega
      obtain ⟨m1, m2⟩ := mem_w hV hW hp
      have nx : (x5 + kI 1).toInt = ((i + 1 : Nat) : Int) := n_add1 hi (by omega)
      rcases hs with ⟨g2, hs⟩ | ⟨g2, _, M1, h185, v2, M2, h187, hs⟩
      · have b := (f37_n hi (by omega)).mp g2
        rw [m1 i i24] at b
        refine hs (i + 1) nx (by omega) hM ?_
        rw [sm_s, acT_n b, ← hx]
        exact (Int32.add_zero x4).symm
      · have b := (f37_y hi (by omega)).mp g2
        rw [m1 i i24] at b
        obtain ⟨f1, f2, f3⟩ := D_185_v hw hl hV hW hcl hi i24 h185
        have hW1 : rW 19 M1 V := rW_eq hW fun j hj => f3 _ (by omega) (nl j hj)
        obtain ⟨e1, e2⟩ := D_187_v hV hW1 f2 hi i24 h187
        refine hs (i + 1) nx (by omega) (fun a q1 q2 => by rw [e2, f3 a q1 q2]; exact hM a q1 q2) ?_
        rw [sm_s, acT_y b, ← hx, e1]
        unfold acr
        rw [acF_cg f1]
theorem L_122_v {k : Nat} {o : List Cd} {L : List Ln} {M V : pMem} (hs0 : sc V M) (hV : rV V) (hc : rLk V k o L) {n : Nat} (hn : rNb V n) {p1 p2 x3 x4 v : Int32} {N : pMem} (h : L_122_21 p1 p2 x3 x4 M v N) (h4 : x4.toInt = 0) (h3 : x3 = 0) : v = sm (acT o L V p1) 24 := by
  obtain ⟨n24, hn2, hn3⟩ := id hn
  have r := h (fun x3 x4 M' v _ => ∀ i : Nat, x4.toInt = i → i ≤ n → sc V M' → x3 = sm (acT o L V p1) i → v = sm (acT o L V p1) 24) ?_
  · exact r 0 h4 (Nat.zero_le _) hs0 h3
  · intro x3 x4 M' v N hs i hi hin hM hx
    obtain ⟨s189, _, s191, _, _, s8⟩ := sc_rows hM
    have e2 : M' 188 2 = V 188 2 := s8 2 (by decide) (by decide)
    rcases hs with ⟨g, hv, _⟩ | ⟨g, _, hs⟩
    · rw [i_le, e2, hn2, hi] at g
      have e : i = n := by omega
      rw [hv, hx, e, sm_ext n24 fun j q1 q2 => acT_n (inL_0 hn q1 q2)]
    · rw [i_le, e2, hn2, hi] at g
      have i24 : i < 24 := by omega
      rw [ix_of hi, s191, s189] at hs
      have nx : (x4 + kI 1).toInt = ((i + 1 : Nat) : Int) := n_add1 hi (by omega)
      have skip : ∀ {P : Int32 → Int32 → pMem → pT Int32}, inL V p1 i = false → x3 = sm (acT o L V p1) (i + 1) := fun b => by
        rw [sm_s, acT_n b, ← hx]
        exact (Int32.add_zero x3).symm
      rcases hs with ⟨g2, hs⟩ | ⟨g2, _, hs⟩
      · refine hs (i + 1) nx (by omega) hM (skip (P := fun _ _ _ _ _ => True) ?_)
        unfold inL
        rw [thV_y hV i24, decide_eq_false g2, Bool.false_and]
      · have g2 := Classical.not_not.mp g2
        rcases hs with ⟨g3, hs⟩ | ⟨g3, v1, M1, h97, hs⟩
        · refine hs (i + 1) nx (by omega) hM (skip (P := fun _ _ _ _ _ => True) ?_)
          unfold inL
          rw [decide_eq_false g3, Bool.and_false]
        · have g3 := Classical.not_not.mp g3
          obtain ⟨a1, a2⟩ := D_97_v hM hV hc hn hi (by omega) h97
          refine hs (i + 1) nx (by omega) (sc_t hM (sc_96 a2)) ?_
          have b : inL V p1 i = true := by
            unfold inL
            rw [thV_y hV i24, decide_eq_true g2, decide_eq_true g3]
            rfl
          rw [sm_s, acT_y b, ← hx, a1]
theorem op_lot_v {p1 p2 v u : Int32} {M M1 M2 : pMem} (h : rF M) (h1 : D_13 p1 p2 M v M1) (h2 : D_122 p1 p2 M1 u M2) : v = u := by
  obtain ⟨hA, hT, _⟩ := h
  obtain ⟨k, o, L, hk, hk4, cl, rl⟩ := force_T hT
  obtain ⟨⟨hV, _⟩, ⟨hW, _⟩, _⟩ := hT
  have hW : rW 19 M M := hW
  have f1 := F_13 h1
  obtain ⟨Ma, ea, h2⟩ := h2
  by_cases c : f_32 p1 = 0
  · rw [(tIf_n (nn c) h1).1, (tIf_n (show ¬ ¬ f_46 p1 = 0 from nn c) h2).1]
  have h1 := tIf_p c h1
  have h2 := tIf_p (show ¬ f_46 p1 = 0 from c) h2
  have hp : bo p1 := by
    rcases f_32_iff.mp c with q | q
    · exact Or.inl (kI_inj q)
    · exact Or.inr (kI_inj q)
  obtain ⟨m, hm, hm2⟩ : ∃ m : Nat, p1.toInt = m ∧ m < 2 := by
    rcases f_32_iff.mp c with q | q
    · exact ⟨0, q, by decide⟩
    · exact ⟨1, q, by decide⟩
  have m8 : ∀ j, j ≠ 0 → j ≠ 51 → Ma 188 j = M 188 j := fun j q1 q2 => by
    rw [ea, aPut_at q1]
    refine f1 188 j (by decide) ?_ (by simp only [l_13, pOut_nil])
    unfold pScr
    rw [show Nat.beq j 0 = false from Bool.eq_false_iff.mpr fun q => q1 (Nat.eq_of_beq_eq_true q), show Nat.beq j 51 = false from Bool.eq_false_iff.mpr fun q => q2 (Nat.eq_of_beq_eq_true q)]
    rfl
  have mR : ∀ a, a < 230 → pScrA a = false → a ≠ 188 → Ma a = M a := fun a q1 q2 q3 => funext fun j => by
    rw [ea, aPut_cell q3]
    exact f1 a j q1 (pScr_of q2 q3 j) (by simp only [l_13, pOut_nil])
  obtain ⟨n, hn⟩ := hV.1
  have hna : rNb Ma n := ⟨hn.1, by rw [m8 2 (by decide) (by decide)]; exact hn.2.1, by rw [mR 191 (by decide) rfl (by decide)]; exact hn.2.2⟩
  have il : inL Ma = inL M := funext fun q => inL_c (mR 191 (by decide) rfl (by decide)) (mR 189 (by decide) rfl (by decide))
  have lk : lkV Ma = lkV M := lkV_c (mR 194 (by decide) rfl (by decide))
  obtain ⟨z1, z2⟩ := mem_w hV hW hp
  obtain ⟨y1, y2⟩ := mem_w hV hW (bo_o hp)
  have row : ∀ {q : Int32} {t : Nat}, q.toInt = (t : Nat) → t < 9 → ix (q * kI 2 + p1) = 2 * t + m := fun hq ht => ix_of (by
    rw [i_add (by rw [i_mul (by rw [hq, kI_toInt (by decide) (by decide)]; omega) (by rw [hq, kI_toInt (by decide) (by decide)]; omega), hq, kI_toInt (by decide) (by decide)]; omega) (by rw [i_mul (by rw [hq, kI_toInt (by decide) (by decide)]; omega) (by rw [hq, kI_toInt (by decide) (by decide)]; omega), hq, kI_toInt (by decide) (by decide)]; omega), i_mul (by rw [hq, kI_toInt (by decide) (by decide)]; omega) (by rw [hq, kI_toInt (by decide) (by decide)]; omega), hq, kI_toInt (by decide) (by decide), hm]
    omega)
  obtain ⟨w196, w197, w198, w199, w200⟩ := hW.2.2.2.2.2 m hm2
  have tb : ∀ {q : Int32} {t : Nat}, q.toInt = (t : Nat) → t < 9 → M 23 (ix (q * kI 2 + p1)) = M (19 + 4) (2 * t + m) := fun hq ht => by rw [row hq ht]
  by_cases c0 : p2 = kI 0
  · obtain ⟨v1, X, h53, hu, _⟩ := tIf_n (nn c0) h2
    obtain ⟨b1, _⟩ := D_53_w hna (fun i hi => by rw [mR 191 (by decide) rfl (by decide)]; exact (hV.2.1 i hi).2) h53
    rw [(tIf_p c0 h1).1, hu, b1, il]
    show f_239 (f_226 19 p1 M) = _
    rw [f239_24 z2, cN_cg z1]
  have h1 := tIf_n c0 h1
  have h2 := tIf_p (show ¬ p2 = 0 from c0) h2
  by_cases c1 : p2 = kI 1
  · obtain ⟨v1, X, h228, hv, _⟩ := tIf_p c1 h1
    obtain ⟨v2, Y, h231, hv2, _⟩ := h228
    obtain ⟨b1, _⟩ := D_231_w z2 z2 h231
    obtain ⟨v3, Z, h54, hu, _⟩ := tIf_n (nn c1) h2
    obtain ⟨d1, _⟩ := D_54_w hna h54
    rw [hv, hv2, b1, mn_w hW z1 z1, hu, d1, il, lk]
  have h1 := tIf_n c1 h1
  have h2 := tIf_p c1 h2
  by_cases c2 : p2 = kI 2
  · obtain ⟨v1, X, h229, hv, _⟩ := tIf_p c2 h1
    obtain ⟨v2, Y, h231, hv2, _⟩ := h229
    obtain ⟨b1, _⟩ := D_231_w z2 y2 h231
    obtain ⟨v3, Z, h54, hu, _⟩ := tIf_n (nn c2) h2
    obtain ⟨d1, _⟩ := D_54_w hna h54
    rw [hv, hv2, b1, mn_w hW z1 y1, hu, d1, il, lk]
  have h1 := tIf_n c2 h1
  have h2 := tIf_p c2 h2
  by_cases c3 : p2 = kI 3
  · obtain ⟨_, hv, _⟩ := tIf_p c3 h1
    obtain ⟨_, hu, _⟩ := tIf_n (nn c3) h2
    rw [hv, tb (q := p2) (t := 3) (by rw [c3]; rfl) (by decide), hu, ix_of hm, mR 196 (by decide) rfl (by decide)]
    exact w196
  have h1 := tIf_n c3 h1
  have h2 := tIf_p c3 h2
  by_cases c4 : p2 = kI 4
  · obtain ⟨_, hv, _⟩ := tIf_p c4 h1
    obtain ⟨_, hu, _⟩ := tIf_n (nn c4) h2
    rw [hv, tb (q := p2) (t := 4) (by rw [c4]; rfl) (by decide), hu, ix_of hm, mR 197 (by decide) rfl (by decide)]
    exact w197
  have h1 := tIf_n c4 h1
  have h2 := tIf_p c4 h2
  by_cases c5 : p2 = kI 5
  · obtain ⟨_, hv, _⟩ := tIf_p c5 h1
    obtain ⟨_, hu, _⟩ := tIf_n (nn c5) h2
    rw [hv, tb (q := p2) (t := 5) (by rw [c5]; rfl) (by decide), hu, ix_of hm, mR 198 (by decide) rfl (by decide)]
    exact w198
  have h1 := tIf_n c5 h1
  have h2 := tIf_p c5 h2
  by_cases c6 : p2 = kI 6
  · obtain ⟨_, hv, _⟩ := tIf_p c6 h1
    obtain ⟨_, hu, _⟩ := tIf_n (nn c6) h2
    rw [hv, tb (q := p2) (t := 6) (by rw [c6]; rfl) (by decide), hu, ix_of hm, mR 199 (by decide) rfl (by decide)]
    exact w199
  have h1 := tIf_n c6 h1
  have h2 := tIf_p c6 h2
  by_cases c8 : p2 = kI 8
  · have h1 := tIf_n (show ¬ p2 = kI 7 by rw [c8]; decide) h1
    obtain ⟨_, hv, _⟩ := tIf_p c8 h1
    obtain ⟨_, hu, _⟩ := tIf_n (nn c8) h2
    rw [hv, tb (q := p2) (t := 8) (by rw [c8]; rfl) (by decide), hu, ix_of hm, mR 200 (by decide) rfl (by decide)]
    exact w200
  have h2 := tIf_p c8 h2
  by_cases c7 : p2 = kI 7
  · obtain ⟨l, X, h217, v2, Y, h188, hv, _⟩ := tIf_p c7 h1
    have h2 := tIf_p c7 h2
    have hl := D_217_k h217
    obtain ⟨_, el, eX⟩ := h217
    rw [ix_of hk] at el
    rw [eX] at h188
    have hVa : rV Ma := rV_c hV (m8 2 (by decide) (by decide)) (mR 189 (by decide) rfl (by decide)) (mR 191 (by decide) rfl (by decide)) (mR 195 (by decide) rfl (by decide)) (mR 196 (by decide) rfl (by decide))
    have rla : rLk Ma k o L := rLk_v rl (fun b q1 q2 => mR b (by omega) (by
      have e : b = 204 ∨ b = 205 ∨ b = 206 ∨ b = 207 ∨ b = 208 ∨ b = 209 ∨ b = 210 ∨ b = 211 := by omega
      rcases e with rfl | rfl | rfl | rfl | rfl | rfl | rfl | rfl <;> rfl) (by omega)) (m8 4 (by decide) (by decide))
    have ac : ∀ i, acT o L Ma p1 i = acT o L M p1 i := fun i => by
      unfold acT
      rw [il, acr_cg (V := M) (U := Ma) (thV_c (mR 191 (by decide) rfl (by decide))) (by rw [FcV_c (mR 189 (by decide) rfl (by decide)) (mR 190 (by decide) rfl (by decide)) (mR 194 (by decide) rfl (by decide)) (mR 195 (by decide) rfl (by decide)) fun j q1 q2 => m8 j (by omega) (by omega)]) lk (mR 189 (by decide) rfl (by decide))]
    rw [hv, D_188_v hl hV hW (by rw [el]; exact cl) hp h188, L_122_v sc_r hVa rla hna h2 rfl rfl]
    exact (sm_cg fun i _ => ac i).symm
  · have h1 := tIf_n c8 (tIf_n c7 h1)
    rw [h1.1, (tIf_n c7 h2).1]
