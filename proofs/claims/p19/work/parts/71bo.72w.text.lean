/-! a text: a law told, on both sides -/
theorem pl_fr {L : List (Nat × Nat)} {M N : pMem} (f : pFr L M N) (k : kV L = true) {a j : Nat} (h : plT a j) : N a j = M a j := by
  obtain ⟨k1, k2⟩ := zAnd k
  rcases plT_in h with q | ⟨e, q⟩
  · obtain ⟨c1, c2, c3⟩ := plRows_sc a q
    exact f a j c1 (pScr_of c2 c3 j) (pNo_out (List.all_eq_true.mp k1 a q) j)
  · subst e
    exact f 188 j (by decide) (pl188_sc j q) (List.all_eq_true.mp k2 j q)
theorem pl_sc {a j : Nat} (h : plT a j) : a < 230 ∧ pScr a j = false := by
  rcases plT_in h with q | ⟨e, q⟩
  · obtain ⟨c1, c2, c3⟩ := plRows_sc a q
    exact ⟨c1, pScr_of c2 c3 j⟩
  · subst e
    exact ⟨by decide, pl188_sc j q⟩
def lwP (k a j : Nat) : Prop := ((a = 204 ∨ a = 209) ∧ j = k) ∨ (205 ≤ a ∧ a ≤ 208 ∧ 16 * k ≤ j ∧ j < 16 * k + 16) ∨ ((a = 210 ∨ a = 211) ∧ 500 * k ≤ j ∧ j < 500 * k + 500)
theorem pl_77 {M N : pMem} {v : Int32} (h77 : D_77 M v N) (h38 : M 188 38 = kI 0) {a j : Nat} (h : plT a j) : N a j = M a j := by
  obtain ⟨_, k1, k2⟩ := D_77_i h77 (by rw [h38]; decide)
  obtain ⟨s1, s2⟩ := pl_sc h
  by_cases c1 : 205 ≤ a ∧ a ≤ 208
  · exact k1 a j (by omega) (by unfold plT at h; omega)
  · by_cases c2 : a = 210 ∨ a = 211
    · exact k2 a j c2 (by unfold plT at h; omega)
    · exact F_77 h77 a j s1 s2 (by unfold plT at h; simp only [l_77, pOut_cons, pOut_nil, true_or, and_true]; omega)
theorem pl_no {a j : Nat} (h : plT a j) : ¬ (a = 188 ∧ (j = 0 ∨ (24 ≤ j ∧ j ≤ 45))) ∧ a ≠ 212 ∧ a ≠ 213 ∧ a ≠ 214 ∧ a ≠ 215 := by
  unfold plT at h
  omega
theorem p8_at {M : pMem} {a j i : Nat} {x : Int32} (h : ¬ (a = 188 ∧ (j = 0 ∨ (24 ≤ j ∧ j ≤ 45)))) (hi : i = 0 ∨ (24 ≤ i ∧ i ≤ 45)) : aPut M 188 i x a j = M a j := by
  by_cases e : a = 188
  · subst e
    exact aPut_at (fun q => h ⟨rfl, by omega⟩)
  · exact aPut_cell e
/-- up to the reading -/
theorem pl_pre {M M1 M2 M3 M4 M5 M6 M7 : pMem} {u : Unit} (e1 : M1 = aPut M 188 0 (kI 0)) (e2 : M2 = aPut M1 188 44 (kI 0)) (e3 : M3 = aPut M2 188 45 (kI (-1))) (e4 : M4 = aPut M3 188 25 (kI 0)) (e5 : M5 = aPut M4 188 38 (kI 0)) (e6 : M6 = aPut M5 188 39 (kI 0)) (h65 : D_65 M6 u M7) {a j : Nat} (h : plT a j) : M7 a j = M a j := by
  have q := (pl_no h).1
  rw [pl_fr (F_65 h65) (by decide +kernel) h, e6, p8_at q (by omega), e5, p8_at q (by omega), e4, p8_at q (by omega), e3, p8_at q (by omega), e2, p8_at q (by omega), e1, p8_at q (by omega)]
/-- no law told -/
theorem D_81_o {M N : pMem} {p1 p2 v : Int32} (c : ¬ (p1 = kI 0 ∧ 0 ≤ p2.toInt ∧ p2.toInt < 4)) (h : D_81 p1 p2 M v N) {a j : Nat} (hp : plT a j) : N a j = M a j := by
  have q := (pl_no hp).1
  have behind : ∀ {x3 s0 : Int32} {X : pMem}, (¬ p1 = 0 ∨ s0 = kI (-1)) → X a j = M a j → L_81_9 p1 p2 x3 s0 X v N → N a j = M a j := by
    intro x3 s0 X hz hX hL
    obtain ⟨Ma, ea, hs⟩ := L_81_w hL
    have ra : Ma a j = M a j := by rw [ea, p8_at q (by omega)]; exact hX
    have tk : ∀ {Y : pMem}, Y a j = M a j → ¬ s0 = kI (-1) → (tIf (¬ p1 = 0) (tCall (D_80 p2 s0 Y) fun _ M2 => tRet s0 M2) (tCall (D_78 p2 s0 Y) fun _ M2 => tRet s0 M2)) v N → N a j = M a j := by
      intro Y hY hne hs
      obtain ⟨_, M2, h80, _, hN⟩ := tIf_p (hz.resolve_right hne) hs
      rw [hN, pl_fr (F_80 h80) (by decide +kernel) hp]
      exact hY
    rcases hs with ⟨_, hs⟩ | ⟨_, hs⟩
    · rcases hs with ⟨g, hs⟩ | ⟨_, _, hN⟩
      · exact tk ra g hs
      · rw [hN]; exact ra
    · rcases hs with ⟨g, hs⟩ | ⟨_, Mb, eb, Mc, ec, hs⟩
      · rcases hs with ⟨_, hs⟩ | ⟨_, _, hN⟩
        · exact tk ra g hs
        · rw [hN]; exact ra
      · have rc : Mc a j = M a j := by rw [ec, p8_at q (by omega), eb, p8_at q (by omega)]; exact ra
        rcases hs with ⟨g, hs⟩ | ⟨_, _, hN⟩
        · exact tk rc g hs
        · rw [hN]; exact rc
  obtain ⟨M1, e1, M2, e2, M3, e3, h⟩ := h
  rcases h with ⟨_, M4, e4, M5, e5, M6, e6, u, M7, h65, h⟩ | ⟨g1, h⟩
  · exact behind (Or.inr rfl) (pl_pre e1 e2 e3 e4 e5 e6 h65 hp) h
  · rcases h with ⟨_, M4, e4, M5, e5, M6, e6, u, M7, h65, h⟩ | ⟨g2, M4, e4, M5, e5, M6, e6, u, M7, h65, h⟩
    · exact behind (Or.inr rfl) (pl_pre e1 e2 e3 e4 e5 e6 h65 hp) h
    · have g2 := f_42_iff.mp g2
      rw [i_le, i_le, kI_toInt (by decide) (by decide), kI_toInt (by decide) (by decide)] at g2
      have p0 : ¬ p1 = 0 := fun e => c ⟨e, by omega, by omega⟩
      obtain ⟨v2, M8, h79, h⟩ := tIf_p p0 h
      refine behind (Or.inl p0) ?_ h
      rw [pl_fr (F_79 h79) (by decide +kernel) hp]
      exact pl_pre e1 e2 e3 e4 e5 e6 h65 hp
/-- a law told: taken, or none of what is told changed -/
theorem D_81_l {M : pMem} {B : Nat → Int32} {n k : Nat} {p1 p2 : Int32} (hn : n ≤ 500) (hp : xPre M B n) (hB : ∀ i, i < n → 0 ≤ (B i).toInt) (h1 : p1 = kI 0) (hk : p2.toInt = k) (hk4 : k < 4) {v : Int32} {N : pMem} (h : D_81 p1 p2 M v N) :
    ∃ r, laR (yT B n) (yV B n) 16 0 [] r ∧ (r.1 = 0 → rfLaw (N 204 k) (N 205) (N 206) (N 207) (N 208) (16 * k) (N 209 k) (N 210) (N 211) (500 * k) r.2.2.1 r.2.2.2 ∧ (rcO r.2.2.1).length ≤ 500 ∧ wfLw r.2.2.1 r.2.2.2 ∧ ∀ a j, plT a j → ¬ lwP k a j → N a j = M a j) ∧
      (r.1 ≠ 0 → ∀ a j, plT a j → N a j = M a j) := by
  obtain ⟨M1, e1, M2, e2, M3, e3, h⟩ := h
  have h := tIf_n (f_42_iff.mpr (by rw [h1]; decide)) h
  have h := tIf_n (f_42_iff.mpr (by rw [i_le, i_le, hk, kI_toInt (by decide) (by decide), kI_toInt (by decide) (by decide)]; omega)) h
  obtain ⟨M4, e4, M5, e5, M6, e6, _, M7, h65, h⟩ := h
  have pre7 : ∀ {a j : Nat}, plT a j → M7 a j = M a j := fun hp => pl_pre e1 e2 e3 e4 e5 e6 h65 hp
  have h := tIf_n (show ¬ ¬ p1 = 0 from nn h1) h
  obtain ⟨v2, M8, h77, h⟩ := h
  have p6 : xPre M6 B n := by
    rw [e6, e5, e4, e3, e2, e1]
    exact xPre_put (xPre_put (xPre_put (xPre_put (xPre_put (xPre_put hp (by decide)) (by decide)) (by decide)) (by decide)) (by decide)) (by decide)
  have f7 := F_65 h65
  have r7 : rR M7 B n 0 := by
    have q := D_65_w hn hB h65 p6 0 (by rw [e6, aPut_at (by decide), e5, aPut_at (by decide), e4, aPut_same]; rfl) (Nat.zero_le _)
    refine ⟨?_, hn, hB, q⟩
    obtain ⟨q1, q2, q3⟩ := p6
    refine ⟨by rw [f7 188 24 (by decide) rfl rfl]; exact q1, ?_, fun j hj => ?_⟩
    · rw [← q2]
      funext i
      exact f7 202 i (by decide) rfl rfl
    · rw [f7 203 j (by decide) rfl rfl]
      exact q3 j hj
  have m38 : M7 188 38 = kI 0 := by rw [f7 188 38 (by decide) rfl rfl, e6, aPut_at (by decide), e5, aPut_same]
  have m39 : M7 188 39 = kI 0 := by rw [f7 188 39 (by decide) rfl rfl, e6, aPut_same]
  obtain ⟨r, r1, r2, r3⟩ := D_77_w r7 m38 m39 h77
  have pre8 : ∀ {a j : Nat}, plT a j → M8 a j = M a j := fun hp => (pl_77 h77 m38 hp).trans (pre7 hp)
  refine ⟨r, r1, ?_⟩
  obtain ⟨Ma, ea, hs⟩ := L_81_w h
  have prea : ∀ {a j : Nat}, plT a j → Ma a j = M a j := fun hp => by rw [ea, p8_at (pl_no hp).1 (by omega)]; exact pre8 hp
  have hs := tIf_n (show ¬ kI 1 = 0 by decide) hs
  by_cases c : r.1 = 0
  · obtain ⟨a1, b1, b2⟩ := r2 c
    obtain ⟨_, wf, l16⟩ := laR_ty (fun k hk => yV_rg hk) r1 c
    have hne : ¬ v2 = kI (-1) := by
      rw [yk (by decide) (by decide), a1]
      omega
    have hs := tIf_p hne hs
    have hs := tIf_p hne hs
    have hs := tIf_n (show ¬ ¬ p1 = 0 from nn h1) hs
    obtain ⟨_, Mb, h78, hv, hN⟩ := hs
    obtain ⟨⟨i0, i5⟩, _⟩ := D_77_i h77 (by rw [m38]; decide)
    have c38 : (Ma 188 38).toInt = (rcO r.2.2.1).length := by rw [ea, aPut_at (by decide)]; exact b1.1
    have l500 : (rcO r.2.2.1).length ≤ 500 := by
      have := b1.1
      omega
    obtain ⟨w1, w2, w3, w4, w5, w6, w7⟩ := D_78_w hk hk4 a1 l16 c38 l500 h78
    subst hN
    have ma : ∀ b i, b ≠ 188 → Ma b i = M8 b i := fun b i q => by rw [ea, aPut_cell q]
    refine ⟨fun _ => ⟨⟨w1, w2, fun i x hi => ?_, fun i x hi => ?_⟩, l500, wf, fun a j hpl hnl => ?_⟩, fun e => absurd c e⟩
    · have hl := (List.getElem?_eq_some_iff.mp hi).1
      rw [(w5 i hl).1, (w5 i hl).2, ma 210 _ (by decide), ma 211 _ (by decide)]
      exact b1.2 i x hi
    · have hl := (List.getElem?_eq_some_iff.mp hi).1
      obtain ⟨d1, d2, d3, d4⟩ := w4 i hl
      rw [d1, d2, d3, d4, ma 205 _ (by decide), ma 206 _ (by decide), ma 207 _ (by decide), ma 208 _ (by decide)]
      exact b2 i x hi
    · rw [← prea hpl]
      unfold lwP at hnl
      by_cases q1 : a = 204 ∨ a = 209
      · have w := w3 j (fun e => hnl (Or.inl ⟨q1, e⟩))
        rcases q1 with rfl | rfl
        · exact w.1
        · exact w.2
      · by_cases q2 : 205 ≤ a ∧ a ≤ 208
        · obtain ⟨d1, d2, d3, d4⟩ := w6 j (by omega)
          have e : a = 205 ∨ a = 206 ∨ a = 207 ∨ a = 208 := by omega
          rcases e with rfl | rfl | rfl | rfl
          · exact d1
          · exact d2
          · exact d3
          · exact d4
        · by_cases q3 : a = 210 ∨ a = 211
          · have w := w7 j (by omega)
            rcases q3 with rfl | rfl
            · exact w.1
            · exact w.2
          · obtain ⟨s1, s2⟩ := pl_sc hpl
            exact F_78 h78 a j s1 s2 (by simp only [l_78, pOut_cons, pOut_nil, true_or, and_true]; omega)
  · obtain ⟨a1, a2, a3⟩ := r3 c
    have hs := tIf_n (nn a1) hs
    obtain ⟨Mb, eb, Mc, ec, hs⟩ := hs
    have hs := tIf_n (nn a1) hs
    obtain ⟨hv, hN⟩ := hs
    refine ⟨fun e => absurd e c, fun _ a j hpl => ?_⟩
    have q := (pl_no hpl).1
    rw [hN, ec, p8_at q (by omega), eb, p8_at q (by omega)]
    exact prea hpl
theorem rLw_q {l : Nat} {M N V U : pMem} {k : Nat} (h : rLw l M V k) (c : ∀ b, l ≤ b → b ≤ l + 5 → ∀ j, N b j = M b j) (a0 : U 204 k = V 204 k ∧ U 209 k = V 209 k) (a2 : ∀ i, i < 16 → U 205 (16 * k + i) = V 205 (16 * k + i) ∧ U 206 (16 * k + i) = V 206 (16 * k + i) ∧ U 207 (16 * k + i) = V 207 (16 * k + i) ∧ U 208 (16 * k + i) = V 208 (16 * k + i)) (a3 : ∀ i, i < 500 → U 210 (500 * k + i) = V 210 (500 * k + i) ∧ U 211 (500 * k + i) = V 211 (500 * k + i)) : rLw l N U k := by
  obtain ⟨o, L, cl, ⟨g1, g2, g3, g4⟩, h7, h8⟩ := h
  have l16 := cl.2.1
  refine ⟨o, L, clLaw_eq cl fun b h1 h2 => funext fun j => c b h1 h2 j, ⟨by rw [a0.1]; exact g1, by rw [a0.2]; exact g2, fun i x hi => ?_, fun i x hi => ?_⟩, h7, h8⟩
  · have hl := (List.getElem?_eq_some_iff.mp hi).1
    rw [(a3 i (by omega)).1, (a3 i (by omega)).2]
    exact g3 i x hi
  · have hl := (List.getElem?_eq_some_iff.mp hi).1
    obtain ⟨d1, d2, d3, d4⟩ := a2 i (by omega)
    rw [d1, d2, d3, d4]
    exact g4 i x hi
/-- a law comes in the place of the k-th -/
theorem rT_law {M V N U : pMem} (h : rT 18 M V) {k : Nat} (hk : k < 4) {o : List Cd} {L : List Ln} (hc : clLaw N (30 + 11 * k) o L) (hr : rfLaw (U 204 k) (U 205) (U 206) (U 207) (U 208) (16 * k) (U 209 k) (U 210) (U 211) (500 * k) o L) (hl : (rcO o).length ≤ 500) (hw : wfLw o L)
    (c : ∀ a j, 18 ≤ a → a < 74 → (∀ q, q < 4 → a ≠ 36 + 11 * q) → ¬ (30 + 11 * k ≤ a ∧ a ≤ 35 + 11 * k) → N a j = M a j) (d : ∀ a j, plT a j → ¬ lwP k a j → U a j = V a j) : rT 18 N U := by
  obtain ⟨⟨h1, h2, h3⟩, ⟨h5, h6⟩, h7, h8, ⟨g1, g1'⟩, ⟨g2, g2'⟩, g3, g4⟩ := h
  have e : ∀ a j, plT a j → (a < 204 ∨ 211 < a) → U a j = V a j := fun a j q1 q2 => d a j q1 (by unfold lwP; omega)
  have e8 : ∀ j, (j = 1 ∨ j = 2 ∨ j = 3 ∨ j = 4 ∨ j = 17 ∨ j = 18 ∨ j = 19 ∨ j = 20 ∨ j = 21 ∨ j = 71) → U 188 j = V 188 j := fun j hj => e 188 j (Or.inl ⟨rfl, hj⟩) (by omega)
  have er : ∀ a j, (a < 204 ∨ 211 < a) → a ≠ 188 → plT a j → U a j = V a j := fun a j q1 _ q2 => e a j q2 q1
  have a0 : agV V U := by
    refine ⟨⟨e8 1 (by omega), e8 2 (by omega), e8 3 (by omega), e8 17 (by omega), e8 18 (by omega), e8 19 (by omega), e8 20 (by omega), e8 21 (by omega)⟩, fun i hi => ⟨?_, ?_, ?_⟩, fun k hk => ⟨?_, ?_⟩, fun l hl => ⟨?_, ?_, ?_, ?_, ?_⟩⟩
    all_goals (refine e _ _ ?_ (by omega); unfold plT; omega)
  have cc : ∀ a j, 18 ≤ a → a < 30 → N a j = M a j := fun a j q1 q2 => c a j q1 (by omega) (fun q hq => by omega) (by omega)
  have wm : rW 19 N V := rW_mv (w := 19) h5 (fun j _ => cc _ _ (by omega) (by omega)) (fun i _ => ⟨cc _ _ (by omega) (by omega), cc _ _ (by omega) (by omega)⟩) (fun i _ => cc _ _ (by omega) (by omega)) (fun i _ => cc _ _ (by omega) (by omega))
  refine ⟨⟨rV_cg h1 a0, rVl_cg h2 a0 fun i hi => e 192 i (by unfold plT; omega) (by omega), by rw [e8 3 (by omega)]; exact h3⟩, ⟨rW_cg wm a0, rLo_mv h6 (cc 19 3 (by omega) (by omega)) fun i hi => e 192 i (by unfold plT; omega) (by omega)⟩, fun q hq => ?_, fun q hq => ?_, ⟨?_, by rw [e8 4 (by omega)]; exact g1'⟩, ⟨?_, by rw [e8 71 (by omega)]; exact g2'⟩, fun i hi => ?_, fun i hi => ?_⟩
  · show N 26 q = U 201 q
    rw [cc 26 q (by omega) (by omega), e 201 q (by unfold plT; omega) (by omega)]
    exact h7 q hq
  · by_cases ek : q = k
    · subst ek
      exact ⟨o, L, hc, hr, hl, hw⟩
    · refine rLw_q (h8 q hq) (fun b q1 q2 j => c b j (by omega) (by omega) (fun x hx => by omega) (by omega)) ⟨d 204 q (by unfold plT; omega) (by unfold lwP; omega), d 209 q (by unfold plT; omega) (by unfold lwP; omega)⟩ (fun i hi => ⟨d 205 _ (by unfold plT; omega) (by unfold lwP; omega), d 206 _ (by unfold plT; omega) (by unfold lwP; omega), d 207 _ (by unfold plT; omega) (by unfold lwP; omega), d 208 _ (by unfold plT; omega) (by unfold lwP; omega)⟩)
        (fun i hi => ⟨d 210 _ (by unfold plT; omega) (by unfold lwP; omega), d 211 _ (by unfold plT; omega) (by unfold lwP; omega)⟩)
  · rw [cc 18 7 (by omega) (by omega), e8 4 (by omega)]; exact g1
  · rw [cc 18 8 (by omega) (by omega), e8 71 (by omega)]; exact g2
  · rw [cc _ _ (by omega) (by omega), e 226 i (by unfold plT; omega) (by omega), e 227 i (by unfold plT; omega) (by omega)]
    exact g3 i hi
  · rw [cc _ _ (by omega) (by omega), e 193 i (by unfold plT; omega) (by omega)]
    exact g4 i hi
theorem op_text_T {p1 p2 v u : Int32} {M M1 M2 : pMem} (hA : rA M) (h : rT 18 M M) (h1 : D_7 p1 p2 M v M1) (h2 : D_81 p1 p2 M1 u M2) : rT 18 M2 M2 := by
  obtain ⟨⟨t1, t2, t3, t4, t5, t6⟩, _⟩ := hA
  obtain ⟨n, hnn⟩ : ∃ n : Nat, (M 1 0).toInt = n := ⟨(M 1 0).toInt.toNat, by omega⟩
  have n5 : n ≤ 500 := by omega
  have f1 := D_7_f n5 hnn h1
  have f2 := F_81 h2
  have c2 : ∀ a j, 18 ≤ a → a < 74 → (∀ q, q < 4 → a ≠ 36 + 11 * q) → M2 a j = M1 a j := fun a j q1 q2 q3 => by
    obtain ⟨s1, s2⟩ := scR (s := 18) (Or.inl rfl) q1 (by omega) (fun k hk => by have := q3 k hk; omega) j
    exact f2 a j (by omega) s2 (by simp only [l_81, pOut_cons, pOut_nil, true_or, and_true]; omega)
  have o1 : ∀ a j, a < 230 → pScr a j = false → 74 ≤ a → M1 a j = M a j := fun a j q1 q2 q3 => f1 a j q1 q2 (by omega) (fun _ q => Or.inr (by omega)) (fun _ q => by omega)
  have v1 : ∀ a j, plT a j → M1 a j = M a j := fun a j hp => by
    obtain ⟨s1, s2⟩ := pl_sc hp
    exact o1 a j s1 s2 (by have := (pl_hi hp).1; omega)
  have c1 : ∀ a j, 18 ≤ a → a < 74 → (∀ q, q < 4 → a ≠ 36 + 11 * q) → (p1 = kI 0 → ix p2 < 4 → v = kI (-1) ∨ ¬ (30 + 11 * ix p2 ≤ a ∧ a ≤ 35 + 11 * ix p2)) → (∀ q, q < 4 → ¬ (37 + 11 * q ≤ a ∧ a ≤ 40 + 11 * q)) → M1 a j = M a j := fun a j q1 q2 q3 q4 q5 => by
    obtain ⟨s1, s2⟩ := scR (s := 18) (Or.inl rfl) q1 (by omega) (fun k hk => by have := q3 k hk; omega) j
    exact f1 a j (by omega) s2 q1 q4 (fun _ q => q5 _ q)
  -- nothing of all this told anew
  have stay : (p1 = kI 0 → ix p2 < 4 → v = kI (-1)) → (∀ a j, plT a j → M2 a j = M1 a j) → rT 18 M2 M2 := fun q1 q2 => by
    refine rT_mv h ?_ (agT_of fun a j hp => (q2 a j hp).trans (v1 a j hp))
    have cx : ∀ a j, 18 ≤ a → a < 74 → (∀ q, q < 4 → a ≠ 36 + 11 * q) → (∀ q, q < 4 → ¬ (37 + 11 * q ≤ a ∧ a ≤ 40 + 11 * q)) → M2 a j = M a j := fun a j z1 z2 z3 z4 => (c2 a j z1 z2 z3).trans (c1 a j z1 z2 z3 (fun e1 e2 => Or.inl (q1 e1 e2)) z4)
    refine ⟨fun j _ => ?_, fun i _ => ⟨?_, ?_⟩, fun i _ => ?_, fun i _ => ?_, fun k hk => ⟨?_, fun i _ => ⟨?_, ?_, ?_, ?_⟩, fun i _ => ?_⟩, fun i _ => ?_, fun i _ => ⟨?_, ?_⟩, ?_, ?_⟩
    all_goals (refine cx _ _ (by omega) (by omega) (fun q hq => by omega) (fun q hq => by omega))
  by_cases c : p1 = kI 0 ∧ 0 ≤ p2.toInt ∧ p2.toInt < 4
  · obtain ⟨p0, g1, g2⟩ := c
    obtain ⟨k, hkk⟩ : ∃ k : Nat, p2.toInt = k := ⟨p2.toInt.toNat, by omega⟩
    have hk4 : k < 4 := by omega
    have pre : xPre M1 (M 202) n := ⟨by rw [o1 188 24 (by decide) rfl (by omega), ← t1]; exact hnn, funext fun i => o1 202 i (by decide) rfl (by omega), fun j hj => by rw [o1 203 j (by decide) rfl (by omega)]; exact t6 j hj⟩
    have cg : ∀ i, i < n → M 2 i = M 202 i := fun i hi => t2 i (by omega)
    obtain ⟨r, w1, w2, w3⟩ := D_7_law n5 hnn p0 hkk hk4 h1
    obtain ⟨r', r1, r2, r3⟩ := D_81_l n5 pre (fun i hi => t5 i (by omega)) p0 hkk hk4 h2
    rw [yT_cg cg, yV_cg cg] at w1
    obtain rfl := laR_det w1 r1
    by_cases e0 : r.1 = 0
    · obtain ⟨a1, a2, a3, a4⟩ := w2 e0
      obtain ⟨b1, b2, b3, b4⟩ := r2 e0
      have a4' : clLaw M2 (30 + 11 * k) r.2.2.1 r.2.2.2 := clLaw_eq a4 fun b q1 q2 => funext fun j => c2 b j (by omega) (by omega) (fun q hq => by omega)
      refine rT_law h hk4 a4' b1 b2 b3 (fun a j q1 q2 q3 q4 => ?_) fun a j q1 q2 => (b4 a j q1 q2).trans (v1 a j q1)
      by_cases pl : ∃ q, q < 4 ∧ 37 + 11 * q ≤ a ∧ a ≤ 40 + 11 * q
      · -- a plan's place: kept, as it is no plan that was told
        obtain ⟨s1, s2⟩ := scR (s := 18) (Or.inl rfl) q1 (by omega) (fun k hk => by have := q3 k hk; omega) j
        rw [c2 a j q1 q2 q3]
        exact f1 a j (by omega) s2 q1 (fun _ _ => Or.inr (by rw [ix_of hkk]; exact q4)) (fun e => by rw [p0] at e; exact absurd e k01)
      · exact (c2 a j q1 q2 q3).trans (c1 a j q1 q2 q3 (fun _ _ => Or.inr (by rw [ix_of hkk]; exact q4)) (fun q hq hh => pl ⟨q, hq, hh⟩))
    · obtain ⟨a1, _, _⟩ := w3 e0
      exact stay (fun _ _ => a1) (r3 e0)
  · refine stay (fun e1 e2 => ?_) fun a j hp => D_81_o c h2 hp
    -- no such law: the class says so too
    have cn : ¬ ((p1 = kI 0 ∨ p1 = kI 1) ∧ 0 ≤ p2.toInt ∧ p2.toInt < 4) := fun q => c ⟨e1, q.2⟩
    exact (D_7_no n5 hnn cn h1).1
theorem op_text_F {p1 p2 v u : Int32} {M M1 M2 : pMem} (h : rF M) (h1 : D_7 p1 p2 M v M1) (h2 : D_81 p1 p2 M1 u M2) : rF M2 := by
  refine ⟨op_text h.1 h1 h2, op_text_T h.1 h.2.1 h1 h2, rI_fr (F_81 h2) (by decide +kernel) ?_⟩
  obtain ⟨n, hnn⟩ : ∃ n : Nat, (M 1 0).toInt = n := ⟨(M 1 0).toInt.toNat, by have := h.1.1; obtain ⟨t1, t2, t3, t4, t5, t6⟩ := this; omega⟩
  have n5 : n ≤ 500 := by have := h.1.1; obtain ⟨t1, t2, t3, t4, t5, t6⟩ := this; omega
  have f1 := D_7_f n5 hnn h1
  have o1 : ∀ a j, a < 230 → pScr a j = false → 74 ≤ a → M1 a j = M a j := fun a j q1 q2 q3 => f1 a j q1 q2 (by omega) (fun _ q => Or.inr (by omega)) (fun _ q => by omega)
  refine rI_keep h.2.2 (F_7 h1 0 8 (by decide) rfl (by simp only [l_7, pOut_cons, pOut_nil, true_or, and_true]; omega)) (funext fun j => o1 229 j (by decide) rfl (by decide)) fun a j q1 q2 q3 => ?_
  obtain ⟨s1, s2⟩ := scR (s := 74) (Or.inr rfl) q1 (by omega) (fun k hk => by have := q3 k hk; omega) j
  exact o1 a j (by omega) s2 q1
