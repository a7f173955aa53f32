/-! look, beans: both sides say the same -/
theorem crS_cg {A B C D : Nat → Bool} {g f : Nat → Nat → Int32} (hA : ∀ i, i < 24 → A i = C i) (hB : ∀ i, i < 24 → B i = D i) (hg : ∀ i j, i < 24 → j < 24 → g i j = f i j) : crS A B g = crS C D f := by
  have e1 : s2 (cS A B) g 24 = s2 (cS C D) f 24 := s2_cg (fun i j hi hj => by unfold cS; rw [hA i hi, hB j hj]) (fun i j hi hj _ => hg i j hi hj)
  have e2 : s2 (cS B A) g 24 = s2 (cS D C) f 24 := s2_cg (fun i j hi hj => by unfold cS; rw [hB i hi, hA j hj]) (fun i j hi hj _ => hg i j hi hj)
  unfold crS
  rw [e1, e2, cN_cg hA, cN_cg hB]
theorem th_cnt {w : Nat} {M V : pMem} (hV : rV V) (h : rW w M V) : f_239 (M w 2) = kI (cN (thV V) 24 : Nat) := by
  rw [f239_24 h.2.1.2, cN_cg (q := thV V) fun i hi => by rw [(h.2.2.1 i hi).2.1, ← thV_y hV hi]]
theorem L_136_v {p1 x2 x3 : Int32} {V N : pMem} {n : Nat} (hn : (V 188 2).toInt = n) (hb : ∀ i, i < 24 → bo (V 192 i)) (hz : ∀ i, n ≤ i → i < 24 → V 192 i = 0) (n24 : n ≤ 24) {v : Int32} (h : L_136_17 p1 x2 x3 V v N) (h3 : x3.toInt = 0) (h2 : x2 = kI 0) : v = kI (cN (fun i => decide (V 192 i = kI 1)) 24 : Nat) := by
  have r := h (fun x2 x3 M v _ => ∀ i : Nat, x3.toInt = i → i ≤ n → M = V → x2 = kI (cN (fun i => decide (V 192 i = kI 1)) i : Nat) → v = kI (cN (fun i => decide (V 192 i = kI 1)) 24 : Nat)) ?_
  · exact r 0 h3 (Nat.zero_le _) rfl h2
  · intro x2 x3 M v N hs i hi hin hM hx
    rw [hM] at hs
    rcases hs with ⟨g, hv, _⟩ | ⟨g, _, hs⟩
    · rw [i_le, hn, hi] at g
      have e : i = n := by omega
      rw [hv, hx, e, cN_ext (n := n) (m := 24) n24 fun k h1 h2 => by rw [hz k h1 h2]; decide]
    · rw [i_le, hn, hi] at g
      rw [ix_of hi] at hs
      refine hs (i + 1) (n_add1 hi (by omega)) (by omega) rfl ?_
      rw [hx]
      show _ = kI ((cN (fun i => decide (V 192 i = kI 1)) i + (if (decide (V 192 i = kI 1)) = true then 1 else 0) : Nat) : Int)
      rw [kI_n1]
      rcases hb i (by omega) with q | q
      · rw [q]; rfl
      · rw [q]; rfl
theorem op_look_v {p1 v u : Int32} {M M1 M2 : pMem} (h : rF M) (h1 : D_29 p1 M v M1) (h2 : D_136 p1 M1 u M2) : v = u := by
  obtain ⟨_, ⟨⟨hV, hVl, _⟩, ⟨hW, hLo⟩, _, _, ⟨o1, _⟩, ⟨o2, _⟩, _⟩, _⟩ := h
  have hW : rW 19 M M := hW
  have hLo : rLo 19 M M := hLo
  obtain ⟨Ma, ea, h2⟩ := h2
  obtain ⟨m0, p0⟩ := mem_w hV hW (p := kI 0) (Or.inl rfl)
  obtain ⟨m1, p1'⟩ := mem_w hV hW (p := kI 1) (Or.inr rfl)
  have mm : M1 = M ∧ (p1 = kI 3 → v = crS (inL M (kI 0)) (inL M (kI 1)) (lkV M)) := by
    by_cases c3 : p1 = kI 3
    · have h1 := tIf_n (show ¬ p1 = kI 0 by rw [c3]; decide) h1
      have h1 := tIf_n (show ¬ p1 = kI 1 by rw [c3]; decide) h1
      have h1 := tIf_n (show ¬ p1 = kI 2 by rw [c3]; decide) h1
      obtain ⟨v1, X, h230, hv, hM⟩ := tIf_p c3 h1
      obtain ⟨a1, a2⟩ := D_230_w p0 p1' h230
      exact ⟨by rw [hM, a2], fun _ => by rw [hv, a1, crS_cg m0 m1 fun i j hi hj => lkW_V hW hi hj]⟩
    · refine ⟨?_, fun e => absurd e c3⟩
      rcases h1 with ⟨_, _, e⟩ | ⟨_, h1⟩
      · exact e
      · rcases h1 with ⟨_, _, e⟩ | ⟨_, h1⟩
        · exact e
        · rcases h1 with ⟨_, _, e⟩ | ⟨_, h1⟩
          · exact e
          · have h1 := tIf_n c3 h1
            rcases h1 with ⟨_, _, e⟩ | ⟨_, h1⟩
            · exact e
            · rcases h1 with ⟨_, _, e⟩ | ⟨_, h1⟩
              · exact e
              · rcases h1 with ⟨_, _, e⟩ | ⟨_, h1⟩
                · exact e
                · rcases h1 with ⟨_, _, e⟩ | ⟨_, _, e⟩
                  · exact e
                  · exact e
  rw [mm.1] at ea
  have hs : sc M Ma := by
    rw [ea]
    exact sc_s sc_r rfl
  have a8 : ∀ j, j ≠ 0 → Ma 188 j = M 188 j := fun j hj => by rw [ea, aPut_at hj]
  have aR : ∀ b, b ≠ 188 → Ma b = M b := fun b hb => by rw [ea]; exact apR hb
  obtain ⟨n, hn⟩ := hV.1
  have hna := rNb_sc hs hn
  by_cases c0 : p1 = kI 0
  · rw [(tIf_p c0 h1).1, (tIf_n (nn c0) h2).1, a8 2 (by decide)]
    exact hW.1
  have h1 := tIf_n c0 h1
  have h2 := tIf_p (show ¬ p1 = 0 from c0) h2
  by_cases c1 : p1 = kI 1
  · obtain ⟨v1, X, d1, v2, Y, d2, hu, _⟩ := tIf_n (nn c1) h2
    obtain ⟨b1, b2⟩ := D_53_w hna (fun i hi => by rw [aR 191 (by decide)]; exact (hV.2.1 i hi).2) d1
    rw [b2] at d2
    obtain ⟨b3, b4⟩ := D_53_w hna (fun i hi => by rw [aR 191 (by decide)]; exact (hV.2.1 i hi).2) d2
    rw [(tIf_p c1 h1).1, hu, b1, b3, th_cnt hV hW, inL_sc hs, cN_lots hV, kI_n1]
  have h1 := tIf_n c1 h1
  have h2 := tIf_p c1 h2
  by_cases c2 : p1 = kI 2
  · rw [(tIf_p c2 h1).1, (tIf_n (nn c2) h2).1, a8 3 (by decide)]
    exact hW.2.2.2.2.1.1
  have h1 := tIf_n c2 h1
  have h2 := tIf_p c2 h2
  by_cases c3 : p1 = kI 3
  · obtain ⟨v1, X, d1, hu, _⟩ := tIf_n (nn c3) h2
    obtain ⟨b1, _⟩ := D_55_w hna (fun i hi => by rw [aR 189 (by decide)]; exact (hV.2.1 i hi).1) d1
    rw [mm.2 c3, hu, b1, inL_sc hs, lkV_sc hs]
  have h1 := tIf_n c3 h1
  have h2 := tIf_p c3 h2
  by_cases c4 : p1 = kI 4
  · rw [(tIf_p c4 h1).1, (tIf_n (nn c4) h2).1, a8 4 (by decide)]
    exact o1
  have h1 := tIf_n c4 h1
  have h2 := tIf_p c4 h2
  by_cases c5 : p1 = kI 5
  · obtain ⟨_, _, hu, _⟩ := tIf_n (nn c5) h2
    have e0 : M 23 8 = M 197 0 := (hW.2.2.2.2.2 0 (by decide)).2.1
    have e1 : M 23 9 = M 197 1 := (hW.2.2.2.2.2 1 (by decide)).2.1
    rw [(tIf_p c5 h1).1, hu, aR 197 (by decide)]
    show M 23 (ix (kI 4 * kI 2)) + M 23 (ix (kI 4 * kI 2 + kI 1)) = M 197 (ix (kI 0)) + M 197 (ix (kI 1))
    rw [show ix (kI 4 * kI 2) = 8 by decide +kernel, show ix (kI 4 * kI 2 + kI 1) = 9 by decide +kernel, show ix (kI 0) = 0 by decide +kernel, show ix (kI 1) = 1 by decide +kernel, e0, e1]
  have h1 := tIf_n c5 h1
  have h2 := tIf_p c5 h2
  by_cases c6 : p1 = kI 6
  · have h2 := tIf_p (show ¬ p1 = kI 7 by rw [c6]; decide) h2
    have h2 := tIf_p c6 h2
    obtain ⟨m, ⟨hm1, hm2, _⟩, hm4⟩ := hVl
    have e := L_136_v (by rw [a8 2 (by decide)]; exact hm2) (fun i hi => by rw [aR 192 (by decide)]; exact (hm4 i hi).1) (fun i q hi => by rw [aR 192 (by decide)]; exact ((hm4 i hi).2 q).1) hm1 h2 rfl rfl
    rw [(tIf_p c6 h1).1, e, f239_24 hLo.1, aR 192 (by decide), cN_cg hLo.2]
  have h1 := tIf_n c6 h1
  by_cases c7 : p1 = kI 7
  · rw [(tIf_p c7 h1).1, (tIf_n (nn c7) h2).1, a8 71 (by decide)]
    exact o2
  · rw [(tIf_n c7 h1).1]
    have h2 := tIf_p c7 h2
    rw [(tIf_n c6 h2).1]
/-- added wholly, held between 0 and 9999 -/
theorem adB_3 {x y : Int32} : ((0 ≤ lg_cmp (Int32.toInt64 x + Int32.toInt64 y) (Int64.ofNat 0) ∧ lg_cmp (Int32.toInt64 x + Int32.toInt64 y) (Int64.ofInt 9999) ≤ 0) → Int64.toInt32 (Int32.toInt64 x + Int32.toInt64 y) = f_39 (Int32.toInt64 x + Int32.toInt64 y) (kI 0) (kI 9999)) ∧
    (0 ≤ lg_cmp (Int32.toInt64 x + Int32.toInt64 y) (Int64.ofNat 0) → ¬ lg_cmp (Int32.toInt64 x + Int32.toInt64 y) (Int64.ofInt 9999) ≤ 0 → kI 9999 = f_39 (Int32.toInt64 x + Int32.toInt64 y) (kI 0) (kI 9999)) ∧
    (¬ 0 ≤ lg_cmp (Int32.toInt64 x + Int32.toInt64 y) (Int64.ofNat 0) → kI 0 = f_39 (Int32.toInt64 x + Int32.toInt64 y) (kI 0) (kI 9999)) := by
  unfold f_39
  generalize Int32.toInt64 x + Int32.toInt64 y = z
  have a50 : (Int64.ofInt 9999).toInt = 9999 := by decide
  have m50 : (Int64.ofNat 0).toInt = 0 := by decide
  have b50 : Int32.toInt64 (kI 9999) = Int64.ofInt 9999 := by decide
  have c50 : Int32.toInt64 (kI 0) = Int64.ofNat 0 := by decide
  have d1 : Int64.toInt32 (Int64.ofInt 9999) = kI 9999 := by decide
  have d2 : Int64.toInt32 (Int64.ofNat 0) = kI 0 := by decide
  have le0 : lg_cmp z (Int64.ofInt 9999) ≤ 0 ↔ z.toInt ≤ 9999 := by
    have q := lg_1 (a := z) (b := Int64.ofInt 9999)
    rw [a50, i_lt, i_0] at q
    rw [i_le, i_0]
    omega
  have ge0 : 0 ≤ lg_cmp z (Int64.ofNat 0) ↔ 0 ≤ z.toInt := by
    have q := lg_0 (a := z) (b := Int64.ofNat 0)
    rw [m50] at q
    exact q
  rw [b50, c50, le0, ge0]
  have l1 : z < Int64.ofInt 9999 ↔ z.toInt < 9999 := by rw [Int64.lt_iff_toInt_lt, a50]
  have l2 : z < Int64.ofNat 0 ↔ z.toInt < 0 := by rw [Int64.lt_iff_toInt_lt, m50]
  unfold pMxL pMnL
  by_cases g : z < Int64.ofInt 9999
  · rw [if_pos g]
    by_cases g2 : z < Int64.ofNat 0
    · rw [if_pos g2, d2]
      have h2 := l2.mp g2
      exact ⟨fun q => absurd q.1 (by omega), fun q => absurd q (by omega), fun _ => rfl⟩
    · rw [if_neg g2]
      have h1 := l1.mp g
      have h2 : ¬ z.toInt < 0 := fun q => g2 (l2.mpr q)
      exact ⟨fun _ => rfl, fun _ q => absurd q (by omega), fun q => absurd q (by omega)⟩
  · rw [if_neg g, if_neg (show ¬ Int64.ofInt 9999 < Int64.ofNat 0 by decide), d1]
    have h1 : ¬ z.toInt < 9999 := fun q => g (l1.mpr q)
    refine ⟨fun q => ?_, fun _ _ => rfl, fun q => absurd q (by omega)⟩
    have e : z = Int64.ofInt 9999 := Int64.toInt_inj.mp (by rw [a50]; omega)
    rw [e, d1]
theorem D_124_v {p1 p2 p3 : Int32} {k : Nat} {o : List Cd} {L : List Ln} {M : pMem} (hc : rLk M k o L) {i j : Nat} (hi : p1.toInt = i) (hj : p2.toInt = j) {v : Int32} {N : pMem} (h : D_124 p1 p2 p3 M v N) : v = f_39 (Int32.toInt64 p3 + Int32.toInt64 (tl (FcV M i j) o (kI 18) L)) (kI 0) (kI 9999) := by
  obtain ⟨v1, X, h87, h⟩ := h
  obtain ⟨_, _, e, _, _⟩ := D_87_v (w := 18) (by rw [kI_toInt (by decide) (by decide)]; rfl) (by decide) hc hi hj h87
  have e : v1 = tl (FcV M i j) o (kI 18) L := e
  rw [← e]
  obtain ⟨q1, q2, q3⟩ := adB_3 (x := p3) (y := v1)
  rcases h with ⟨g, h⟩ | ⟨g, hv, _⟩
  · rcases h with ⟨g2, hv, _⟩ | ⟨g2, hv, _⟩
    · rw [hv]; exact q1 ⟨g, g2⟩
    · rw [hv]; exact q2 g g2
  · rw [hv]; exact q3 g
theorem D_191_v {l : Nat} (hl : pK 2 l = true) {M V : pMem} (hV : rV V) (h : rW 19 M V) {o : List Cd} {L : List Ln} (hc : cLk M l o L) {p3 p4 p5 : Int32} {i j : Nat} (hi : p3.toInt = i) (hj : p4.toInt = j) (hi24 : i < 24) (hj24 : j < 24) {v : Int32} {N : pMem} (hD : D_191 19 l p3 p4 p5 M v N) : v = f_39 (Int32.toInt64 p5 + Int32.toInt64 (tl (FcV V i j) o (kI 18) L)) (kI 0) (kI 9999) ∧ ∀ b, b ≠ 135 → b ≠ l + 6 → N b = M b := by
  obtain ⟨_, M1, h166, v2, M2, h157, hv, hN⟩ := hD
  obtain ⟨a1, a2⟩ := D_166s_w (by decide +kernel) hV h hi hj hi24 hj24 h166
  have c := lCell hl
  obtain ⟨b1, b2⟩ := D_157_v hl (by decide) (cLk_c hc fun b q1 q2 => a2 b (by omega)) a1 h157
  have e : v2 = tl (FcV V i j) o (kI 18) L := b1
  exact ⟨by rw [hv, e], fun b q1 q2 => by rw [hN, b2 b q2, a2 b q1]⟩
theorem f125_i {x : Int32} {M : pMem} : ¬ f_125 x M = 0 ↔ ¬ f_45 x M = 0 ∧ M 191 (ix x) = kI 1 := by
  unfold f_125
  by_cases a : f_45 x M = 0
  · rw [if_pos a]
    exact ⟨fun q => absurd rfl q, fun q => absurd a q.1⟩
  · rw [if_neg a]
    by_cases b : M 191 (ix x) = kI 1
    · rw [if_neg (nn b)]
      exact ⟨fun _ => ⟨a, b⟩, fun _ => by decide⟩
    · rw [if_pos b]
      exact ⟨fun q => absurd rfl q, fun q => absurd q.2 b⟩
theorem op_beans_v {p1 p2 p3 v u : Int32} {M M1 M2 : pMem} (h : rF M) (h1 : D_15 p1 p2 p3 M v M1) (h2 : D_126 p1 p2 p3 M1 u M2) : v = u := by
  obtain ⟨hA, hT, _⟩ := h
  obtain ⟨k, o, L, hk, hk4, cl, rl⟩ := force_T hT
  obtain ⟨⟨hV, _⟩, ⟨hW, _⟩, _⟩ := hT
  have hW : rW 19 M M := hW
  have f1 := F_15 h1
  obtain ⟨Ma, ea, h2⟩ := h2
  have m8 : ∀ j, j ≠ 0 → j ≠ 51 → Ma 188 j = M 188 j := fun j q1 q2 => by
    rw [ea, aPut_at q1]
    refine f1 188 j (by decide) ?_ (by simp only [l_15, pOut_nil])
    unfold pScr
    rw [show Nat.beq j 0 = false from Bool.eq_false_iff.mpr fun q => q1 (Nat.eq_of_beq_eq_true q), show Nat.beq j 51 = false from Bool.eq_false_iff.mpr fun q => q2 (Nat.eq_of_beq_eq_true q)]
    rfl
  have mR : ∀ a, a < 230 → pScrA a = false → a ≠ 188 → Ma a = M a := fun a q1 q2 q3 => funext fun j => by
    rw [ea, aPut_cell q3]
    exact f1 a j q1 (pScr_of q2 q3 j) (by simp only [l_15, pOut_nil])
  have e45 : ∀ x, f_45 x Ma = f_222 19 x M := fun x => f_45_at (by rw [m8 2 (by decide) (by decide)]; exact hW.1.symm) x
  have e191 : Ma 191 = M 191 := mR 191 (by decide) rfl (by decide)
  have q125 : ∀ x, ¬ f_125 x Ma = 0 ↔ ¬ f_222 19 x M = 0 ∧ ¬ f_37 (M 19 2) x = 0 := fun x => by
    rw [f125_i, e45, e191]
    constructor
    · rintro ⟨q1, q2⟩
      obtain ⟨i, hi, hi24⟩ := boyN hA q1
      refine ⟨q1, (f37_th hV hW hi hi24).2.mpr ?_⟩
      rw [ix_of hi] at q2
      rw [thV_y hV hi24, q2]
      rfl
    · rintro ⟨q1, q2⟩
      obtain ⟨i, hi, hi24⟩ := boyN hA q1
      refine ⟨q1, ?_⟩
      have t := (f37_th hV hW hi hi24).2.mp q2
      rw [thV_y hV hi24] at t
      rw [ix_of hi]
      exact of_decide_eq_true t
  have q36 : ¬ f_36 p3 = 0 ↔ ¬ f_42 p3 (kI 0) (kI 999) = 0 := Iff.rfl
  by_cases a1 : f_222 19 p1 M = 0
  · have z : f_223 19 p1 p2 M = 0 := by unfold f_223; rw [if_pos a1]; rfl
    rw [(tIf_p z h1).1, (tIf_p (Classical.byContradiction fun q => ((q125 p1).mp q).1 a1) h2).1]
  by_cases b1 : f_37 (M 19 2) p1 = 0
  · rw [(tIf_p (Classical.byContradiction fun q => ((q125 p1).mp q).2 b1) h2).1]
    rcases h1 with ⟨_, hv, _⟩ | ⟨_, h1⟩
    · exact hv
    · exact (tIf_p b1 h1).1
  have h2 := tIf_n ((q125 p1).mpr ⟨a1, b1⟩) h2
  by_cases a2 : f_222 19 p2 M = 0
  · have z : f_223 19 p1 p2 M = 0 := by unfold f_223; rw [if_neg a1, if_pos a2]; rfl
    rw [(tIf_p z h1).1, (tIf_p (Classical.byContradiction fun q => ((q125 p2).mp q).1 a2) h2).1]
  by_cases b2 : f_37 (M 19 2) p2 = 0
  · rw [(tIf_p (Classical.byContradiction fun q => ((q125 p2).mp q).2 b2) h2).1]
    rcases h1 with ⟨_, hv, _⟩ | ⟨_, h1⟩
    · exact hv
    · exact (tIf_p b2 (tIf_n b1 h1)).1
  have h2 := tIf_n ((q125 p2).mpr ⟨a2, b2⟩) h2
  by_cases a3 : p1 = p2
  · have z : f_223 19 p1 p2 M = 0 := by unfold f_223; rw [if_neg a1, if_neg a2, if_pos a3]; rfl
    rw [(tIf_p z h1).1, (tIf_p a3 h2).1]
  have h2 := tIf_n a3 h2
  have z : ¬ f_223 19 p1 p2 M = 0 := by unfold f_223; rw [if_neg a1, if_neg a2, if_neg a3]; decide
  have h1 := tIf_n b2 (tIf_n b1 (tIf_n z h1))
  by_cases c : f_36 p3 = 0
  · rw [(tIf_n (nn c) h1).1, (tIf_p (show f_42 p3 (kI 0) (kI 999) = 0 from c) h2).1]
  · obtain ⟨l, X, h217, v2, Y, h191, hv, _⟩ := tIf_p c h1
    obtain ⟨v3, Z, h124, hu, _⟩ := tIf_n (show ¬ f_42 p3 (kI 0) (kI 999) = 0 from c) h2
    obtain ⟨i, hi, hi24⟩ := boyN hA a1
    obtain ⟨j, hj, hj24⟩ := boyN hA a2
    have hl := D_217_k h217
    obtain ⟨_, el, eX⟩ := h217
    rw [ix_of hk] at el
    rw [eX] at h191
    have rla : rLk Ma k o L := rLk_v rl (fun b q1 q2 => mR b (by omega) (by
      have e : b = 204 ∨ b = 205 ∨ b = 206 ∨ b = 207 ∨ b = 208 ∨ b = 209 ∨ b = 210 ∨ b = 211 := by omega
      rcases e with rfl | rfl | rfl | rfl | rfl | rfl | rfl | rfl <;> rfl) (by omega)) (m8 4 (by decide) (by decide))
    have fc : FcV Ma = FcV M := FcV_c (mR 189 (by decide) rfl (by decide)) (mR 190 (by decide) rfl (by decide)) (mR 194 (by decide) rfl (by decide)) (mR 195 (by decide) rfl (by decide)) fun j q1 q2 => m8 j (by omega) (by omega)
    rw [hv, (D_191_v hl hV hW (by rw [el]; exact cl) hi hj hi24 hj24 h191).1, hu, D_124_v rla hi hj h124, fc]
