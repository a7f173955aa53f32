/-! led in thought: the days of a plan in wood 143, against the reference's -/
def thC (a0 b0 c0 n0 d0 : Int32) (M V : pMem) : Prop := V 197 0 + V 197 1 = a0 + V 188 61 ∧ V 198 0 + V 198 1 = b0 + V 188 62 ∧ kI (cN (thV V) 24 : Nat) + V 188 63 = c0 ∧ M 138 2 = V 188 64 ∧ nmV V = n0 + V 188 65 ∧ V 188 3 = d0 + V 188 60 ∧ M 138 3 = V 188 66
def thX (M V : pMem) : Prop := ∀ i, i < 24 → bo (V 226 i) ∧ M 28 i = (if V 226 i = 0 then kI (-100) else V 227 i) ∧ (¬ V 226 i = 0 → -50 ≤ (V 227 i).toInt ∧ (V 227 i).toInt ≤ 50)
def thJ (l k : Nat) (o : List Cd) (L : List Ln) (a0 b0 c0 n0 d0 : Int32) (M V : pMem) : Prop := rTg l k o L M V ∧ thC a0 b0 c0 n0 d0 M V ∧ thX M V
/-- what the class does behind a day -/
def lLf (x : Int32) (M1 : pMem) (v : Int32) (X : pMem) : Prop := ∃ M', ((M' = M1 ∧ (v ≤ 0 ∨ ¬ M1 138 2 = kI (-1))) ∨ (¬ v ≤ 0 ∧ M1 138 2 = kI (-1) ∧ M' = aPut M1 138 2 (x + kI 1))) ∧
  ((M' 28 (ix x) = kI (-100) ∧ X = M') ∨ (¬ M' 28 (ix x) = kI (-100) ∧ ∃ v2 M2, D_230 143 M' v2 M2 ∧ X = aPut M2 138 3 (M' 138 3 + pAbs (v2 - M2 28 (ix x)))))
theorem lf_208 {P1 : Int32 → pMem → pT Unit} {x v1 : Int32} {M1 : pMem} {v : Unit} {N : pMem}
    (hs : tIf (v1 ≤ 0) (tGd (pIn x 24) <| tIf ((M1 28 (ix x)) = (kI (-100))) (P1 (x + kI 1) M1) (tCall (D_230 143 M1) fun v2 M2 => tGd (pIn x 24) <| tPut (aPut M2 138 3 ((M1 138 3) + (pAbs (v2 - (M2 28 (ix x)))))) fun M3 => P1 (x + kI 1) M3))
      (tIf (¬ (M1 138 2) = (kI (-1))) (tGd (pIn x 24) <| tIf ((M1 28 (ix x)) = (kI (-100))) (P1 (x + kI 1) M1) (tCall (D_230 143 M1) fun v2 M2 => tGd (pIn x 24) <| tPut (aPut M2 138 3 ((M1 138 3) + (pAbs (v2 - (M2 28 (ix x)))))) fun M3 => P1 (x + kI 1) M3))
        (tPut (aPut M1 138 2 (x + (kI 1))) fun M2 => tGd (pIn x 24) <| tIf ((M2 28 (ix x)) = (kI (-100))) (P1 (x + kI 1) M2) (tCall (D_230 143 M2) fun v2 M3 => tGd (pIn x 24) <| tPut (aPut M3 138 3 ((M2 138 3) + (pAbs (v2 - (M3 28 (ix x)))))) fun M4 => P1 (x + kI 1) M4))) v N) :
    ∃ X, lLf x M1 v1 X ∧ P1 (x + kI 1) X v N := by
  rcases hs with ⟨g, _, hs⟩ | ⟨g, hs⟩
  · rcases hs with ⟨g2, hs⟩ | ⟨g2, v2, M2, h2, _, M3, e3, hs⟩
    · exact ⟨M1, ⟨M1, Or.inl ⟨rfl, Or.inl g⟩, Or.inl ⟨g2, rfl⟩⟩, hs⟩
    · exact ⟨M3, ⟨M1, Or.inl ⟨rfl, Or.inl g⟩, Or.inr ⟨g2, v2, M2, h2, e3⟩⟩, hs⟩
  · rcases hs with ⟨g3, _, hs⟩ | ⟨g3, M0, e0, _, hs⟩
    · rcases hs with ⟨g2, hs⟩ | ⟨g2, v2, M2, h2, _, M3, e3, hs⟩
      · exact ⟨M1, ⟨M1, Or.inl ⟨rfl, Or.inr g3⟩, Or.inl ⟨g2, rfl⟩⟩, hs⟩
      · exact ⟨M3, ⟨M1, Or.inl ⟨rfl, Or.inr g3⟩, Or.inr ⟨g2, v2, M2, h2, e3⟩⟩, hs⟩
    · have g3 := Classical.not_not.mp g3
      rcases hs with ⟨g2, hs⟩ | ⟨g2, v2, M2, h2, _, M3, e3, hs⟩
      · exact ⟨M0, ⟨M0, Or.inr ⟨g, g3, e0⟩, Or.inl ⟨g2, rfl⟩⟩, hs⟩
      · exact ⟨M3, ⟨M0, Or.inr ⟨g, g3, e0⟩, Or.inr ⟨g2, v2, M2, h2, e3⟩⟩, hs⟩
theorem law_pK {kl : Nat} (h : kl < 4) : pK 2 (30 + 11 * kl) = true := by
  have c : ∀ k, k < 4 → pK 2 (30 + 11 * k) = true := by decide +kernel
  exact c kl h
theorem pln_pK {kp : Nat} (h : kp < 4) : pK 3 (37 + 11 * kp) = true := by
  have c : ∀ k, k < 4 → pK 3 (37 + 11 * k) = true := by decide +kernel
  exact c kp h
theorem agV_S {M N : pMem} (h : agS M N) : agV M N := (agS_T h).1
theorem lead_step {kl k : Nat} (hkl : kl < 4) {o : List Cd} {L : List Ln} {a0 b0 c0 n0 d0 : Int32} {M V : pMem} (hJ : thJ (30 + 11 * kl) k o L a0 b0 c0 n0 d0 M V) {i : Nat} (hi : i < 24) {x : Int32} (hx : x.toInt = i) (h60 : V 188 60 = x) (h3 : 0 ≤ (V 188 3).toInt ∧ (V 188 3).toInt ≤ 60)
    {p1 p2 p3 v1 : Int32} {u : Unit} {M1 X N1 N2 : pMem} (hD : D_138 143 (30 + 11 * kl) p1 p2 p3 M v1 M1) (h101 : D_101 p1 p2 p3 V u N1) (hX : lLf x M1 v1 X) (hst : stD N1 N2) :
    thJ (30 + 11 * kl) k o L a0 b0 c0 n0 d0 X N2 ∧ N2 188 60 = x + kI 1 ∧ N2 188 3 = V 188 3 + kI 1 ∧ ∀ b, 24 ≤ b → b < 132 → b ≠ 36 + 11 * kl → X b = M b := by
  obtain ⟨hT, ⟨t1, t2, t3, t4, t5, t6, t7⟩, hC⟩ := hJ
  obtain ⟨⟨rv, rw143, cl, rl⟩, hv, n3, fr, c1, c2, c3, c5, c4⟩ := day_tg (law_pK hkl) hT ⟨h3.1, by omega⟩ hD h101
  obtain ⟨⟨ag, s60, s61, s62, s63, s65, s64⟩, so⟩ := hst
  have f := F_101 h101
  have e60 : N1 188 60 = V 188 60 := f 188 60 (by decide) rfl (by decide +kernel)
  have e61 : N1 188 61 = V 188 61 := f 188 61 (by decide) rfl (by decide +kernel)
  have e62 : N1 188 62 = V 188 62 := f 188 62 (by decide) rfl (by decide +kernel)
  have e63 : N1 188 63 = V 188 63 := f 188 63 (by decide) rfl (by decide +kernel)
  have e64 : N1 188 64 = V 188 64 := f 188 64 (by decide) rfl (by decide +kernel)
  have e65 : N1 188 65 = V 188 65 := f 188 65 (by decide) rfl (by decide +kernel)
  have e66 : N1 188 66 = V 188 66 := f 188 66 (by decide) rfl (by decide +kernel)
  have e226 : ∀ j, N1 226 j = V 226 j := fun j => f 226 j (by decide) rfl (pNo_out (by decide +kernel) j)
  have e227 : ∀ j, N1 227 j = V 227 j := fun j => f 227 j (by decide) rfl (pNo_out (by decide +kernel) j)
  have m138 : M1 138 = M 138 := fr 138 (fun j hj => by omega) (by decide) (by omega)
  have m28 : M1 28 = M 28 := fr 28 (fun j hj => by omega) (by decide) (by omega)
  have exi : ix x = i := ix_of hx
  have exj : ix (N1 188 60 + kI 1 - kI 1) = i := by
    rw [e60, h60]
    refine ix_of ?_
    have q : (x + kI 1).toInt = ((i + 1 : Nat) : Int) := n_add1 hx (by omega)
    rw [i_sub (by rw [q, kI1]; omega) (by rw [q, kI1]; omega), q, kI1]
    omega
  obtain ⟨M', hM', hX⟩ := hX
  have p1' : (∀ b, b ≠ 138 → M' b = M1 b) ∧ M' 138 3 = M1 138 3 ∧ M' 138 2 = N2 188 64 := by
    rcases hM' with ⟨e, hq⟩ | ⟨hq, hq2, e⟩
    · refine ⟨fun b _ => by rw [e], by rw [e], ?_⟩
      rw [s64, if_neg, e64, e, m138, t4]
      rintro ⟨z1, z2⟩
      rcases hq with hq | hq
      · rw [hv] at hq
        exact z2 (c4.mp hq)
      · exact hq (by rw [m138, t4, ← e64]; exact z1)
    · refine ⟨fun b hb => by rw [e]; exact apR hb, by rw [e, aPut_at (by decide)], ?_⟩
      rw [hv] at hq
      rw [s64, if_pos ⟨by rw [e64, ← t4, ← m138]; exact hq2, fun z => hq (c4.mpr z)⟩, e, aPut_same, e60, h60]
  obtain ⟨pb, p3', p2'⟩ := p1'
  have w' : rW 143 M' N1 := rW_eq rw143 fun j hj => pb _ (by omega)
  have h28 : M' 28 i = (if V 226 i = 0 then kI (-100) else V 227 i) := by rw [pb 28 (by decide), m28]; exact (hC i hi).2.1
  have key : (∀ b, b ≠ 138 → X b = M1 b) ∧ X 138 2 = N2 188 64 ∧ X 138 3 = N2 188 66 := by
    rw [exi] at hX
    unfold cnO at so
    rw [exj, e226, e227] at so
    rcases hX with ⟨g, e⟩ | ⟨g, v2, M2, h230, e⟩
    · rcases so with ⟨g2, s66⟩ | ⟨g2, _⟩
      · exact ⟨fun b hb => by rw [e, pb b hb], by rw [e, p2'], by rw [e, p3', m138, t7, s66, e66]⟩
      · rw [h28, if_neg g2] at g
        have r := ((hC i hi).2.2 g2).1
        rw [g, kI_toInt (by decide) (by decide)] at r
        omega
    · rcases so with ⟨g2, _⟩ | ⟨g2, Y, v3, Z, agY, h55, s66⟩
      · exact absurd (by rw [h28, if_pos g2]) g
      · have aY := agV_S agY
        obtain ⟨z1, z2, _⟩ := cross_tg (rV_cg rv aY) (rW_cg w' aY) h230 h55
        rw [z2] at e
        refine ⟨fun b hb => by rw [e, apR hb, pb b hb], by rw [e, aPut_at (by decide), p2'], ?_⟩
        rw [e, aPut_same, s66, z1, abs_44, h28, if_neg g2, p3', m138, t7, e66]
  obtain ⟨xb, x2, x3⟩ := key
  have aN := agV_S ag
  have nR : ∀ b, b < 230 → pScrA b = false → b ≠ 188 → N2 b = N1 b := fun b h1 h2 h3 => funext fun j => ag b j h1 (pScr_of h2 h3 j) (fun q => h3 q.1)
  refine ⟨⟨⟨rV_cg rv aN, rW_cg (rW_eq rw143 fun j hj => xb _ (by omega)) aN, cLk_c cl fun b h1 h2 => xb b (by omega), ?_⟩, ⟨?_, ?_, ?_, x2, ?_, ?_, x3⟩, ?_⟩, ?_, ?_, ?_⟩
  · exact rLk_v rl (fun b h1 h2 => nR b (by omega) (by
      have e : b = 204 ∨ b = 205 ∨ b = 206 ∨ b = 207 ∨ b = 208 ∨ b = 209 ∨ b = 210 ∨ b = 211 := by omega
      rcases e with rfl | rfl | rfl | rfl | rfl | rfl | rfl | rfl <;> rfl) (by omega)) (ag 188 4 (by decide) rfl (by omega))
  · rw [nR 197 (by decide) rfl (by decide), c1, t1, s61, e61, Int32.add_assoc]
  · rw [nR 198 (by decide) rfl (by decide), c2, t2, s62, e62, Int32.add_assoc]
  · rw [thV_c (nR 191 (by decide) rfl (by decide)), s63, e63, Int32.add_comm (V 188 63), ← Int32.add_assoc, c3]
    exact t3
  · rw [nmV_c (nR 196 (by decide) rfl (by decide)), c5, t5, s65, e65, Int32.add_assoc]
  · rw [ag 188 3 (by decide) rfl (by omega), n3, t6, s60, e60, Int32.add_assoc]
  · intro j hj
    rw [nR 226 (by decide) rfl (by decide), nR 227 (by decide) rfl (by decide), e226, e227, xb 28 (by decide), m28]
    exact hC j hj
  · rw [s60, e60, h60]
  · rw [ag 188 3 (by decide) rfl (by omega), n3]
  · intro b h1 h2 h4
    rw [xb b (by omega)]
    exact fr b (fun j hj => by omega) (by omega) (by omega)
/-- a plan's day as it is led: with men on the sly, or without -/
def slD (p4 : Int32) (d : Dy) : Dy := if p4 = 0 then (d.1, d.2.1, kI (-1)) else d
def lQ8 (kp kl k : Nat) (p4 : Int32) (D : List Dy) (o : List Cd) (L : List Ln) (a0 b0 c0 n0 d0 x : Int32) (M : pMem) (_ : Unit) (N : pMem) : Prop := ∀ i : Nat, x.toInt = i → i ≤ D.length → pdOk M (37 + 11 * kp) D → ∀ V Vn, thJ (30 + 11 * kl) k o L a0 b0 c0 n0 d0 M V → V 188 60 = x → (0 ≤ (V 188 3).toInt ∧ (V 188 3).toInt ≤ 60) → rDays ((D.map (slD p4)).drop i) V Vn → thJ (30 + 11 * kl) k o L a0 b0 c0 n0 d0 N Vn
theorem L_208_v {kp kl k : Nat} (hkp : kp < 4) (hkl : kl < 4) {p4 : Int32} {D : List Dy} {o : List Cd} {L : List Ln} {a0 b0 c0 n0 d0 x : Int32} {M : pMem} {v : Unit} {N : pMem} (h : L_208_1 (37 + 11 * kp) (30 + 11 * kl) p4 x M v N) :
    lQ8 kp kl k p4 D o L a0 b0 c0 n0 d0 x M v N := by
  refine h (lQ8 kp kl k p4 D o L a0 b0 c0 n0 d0) ?_
  intro x M v N hs i hx hi hD V Vn hJ h60 h3 hr
  have hl : (M (37 + 11 * kp) 0).toInt = D.length := hD.1
  have e4 : M 143 4 = V 188 3 := hJ.1.2.1.2.2.2.2.1.1
  rcases hs with ⟨g1, _, hN⟩ | ⟨g1, hs⟩
  · rw [i_le, hl, hx] at g1
    rw [drop_nil (by rw [List.length_map]; omega)] at hr
    have e2 : Vn = V := hr
    rw [hN, e2]
    exact hJ
  · rw [i_le, hl, hx] at g1
    have hi2 : i < D.length := by omega
    rw [drop_at (by rw [List.length_map]; exact hi2), List.getElem_map] at hr
    rcases hs with ⟨g2, _, hN⟩ | ⟨g2, hs⟩
    · rw [e4, i_le, kI_toInt (by decide) (by decide)] at g2
      rcases hr with ⟨_, e2⟩ | ⟨q, _⟩
      · rw [hN, e2]
        exact hJ
      · exact absurd (show V 188 3 = kI 60 from kI_inj (by omega)) q
    · rw [e4, i_le, kI_toInt (by decide) (by decide)] at g2
      rcases hr with ⟨q, _⟩ | ⟨_, u, N1, N2, h101, hst, hr⟩
      · rw [q, kI_toInt (by decide) (by decide)] at g2
        omega
      · obtain ⟨q1, q2, q3⟩ := hD.2 i D[i] (List.getElem?_eq_getElem hi2)
        have step : ∀ {M1 X : pMem} {v1 : Int32}, i < 24 → D_138 143 (30 + 11 * kl) (slD p4 D[i]).1 (slD p4 D[i]).2.1 (slD p4 D[i]).2.2 M v1 M1 → lLf x M1 v1 X →
            lQ8 kp kl k p4 D o L a0 b0 c0 n0 d0 (x + kI 1) X v N →
            thJ (30 + 11 * kl) k o L a0 b0 c0 n0 d0 N Vn := by
          intro M1 X v1 i24 h138 hX hh
          obtain ⟨j1, j2, j3, j4⟩ := lead_step hkl hJ i24 hx h60 h3 h138 h101 hX hst
          have n1 : (x + kI 1).toInt = ((i + 1 : Nat) : Int) := n_add1 hx (by omega)
          have n3 : (N2 188 3).toInt = (V 188 3).toInt + 1 := by rw [j3, i_add1 (by omega)]
          have pr : ∀ o, o < 4 → X (37 + 11 * kp + o) = M (37 + 11 * kp + o) := fun o ho => j4 _ (by omega) (by omega) (by omega)
          exact hh (i + 1) n1 (by omega) (pdOk_eq hD (congrFun (pr 0 (by decide)) 0) fun j => ⟨congrFun (pr 1 (by decide)) j, congrFun (pr 2 (by decide)) j, congrFun (pr 3 (by decide)) j⟩) N2 Vn j1 j2 ⟨by omega, by omega⟩ hr
        rcases hs with ⟨g4, hs⟩ | ⟨g4, hs⟩
        · obtain ⟨c4, _, v1, M1, h138, hs⟩ := hs
          have es : slD p4 D[i] = (D[i].1, D[i].2.1, kI (-1)) := by unfold slD; rw [if_pos g4]
          have i24 := (ix_in c4).2
          rw [ix_of hx] at i24 h138
          obtain ⟨X, hX, hP⟩ := lf_208 (P1 := lQ8 kp kl k p4 D o L a0 b0 c0 n0 d0) hs
          refine step i24 ?_ hX hP
          rw [es, ← q1, ← q2]
          exact h138
        · obtain ⟨c4, _, _, v1, M1, h138, hs⟩ := hs
          have es : slD p4 D[i] = D[i] := by unfold slD; rw [if_neg g4]
          have i24 := (ix_in c4).2
          rw [ix_of hx] at i24 h138
          obtain ⟨X, hX, hP⟩ := lf_208 (P1 := lQ8 kp kl k p4 D o L a0 b0 c0 n0 d0) hs
          refine step i24 ?_ hX hP
          rw [es, ← q1, ← q2, ← q3]
          exact h138
