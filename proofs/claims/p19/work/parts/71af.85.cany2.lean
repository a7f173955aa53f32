/-! the class reads a claim -/
theorem rem2 : ∀ d, d < 9 → pRem (kI (d : Nat)) (kI 2) = kI ((d % 2 : Nat)) := by decide
theorem D_155_6 {x : Int32} {u : Unit} {M N : pMem} (h : D_155 7 x M u N) : N 6 4 = M 6 4 ∧ N 6 5 = M 6 5 := by
  have f := F_155 (show pK 2 7 = true by decide +kernel) h
  exact ⟨f 6 4 (by decide) rfl (by simp only [l_155, pOut_cons, pOut_nil, true_or, and_true]; omega), f 6 5 (by decide) rfl (by simp only [l_155, pOut_cons, pOut_nil, true_or, and_true]; omega)⟩
theorem nots0 {x2 p1 v : Int32} {M N : pMem} (h : (tGd (¬ (kI 2) = 0) <| tIf (¬ (pRem (x2 - p1) (kI 2)) = (kI 1)) (tRet (kI 0) M) (tCall (D_155 7 (kI (-23)) M) fun _ M3 => tRet (kI 0) M3)) v N) : v = kI 0 ∧ N 6 4 = M 6 4 ∧ N 6 5 = M 6 5 := by
  obtain ⟨_, h⟩ := h
  rcases h with ⟨_, hv, hN⟩ | ⟨_, u, M3, h155, hv, hN⟩
  · exact ⟨hv, by rw [hN], by rw [hN]⟩
  · obtain ⟨a, b⟩ := D_155_6 h155
    exact ⟨hv, by rw [hN]; exact a, by rw [hN]; exact b⟩
theorem nC_st {d : Nat} (hd : d < 9) : stC (nC d) = if d % 2 = 1 then [kI (-23)] else [] := by
  unfold nC
  by_cases e : d = 0
  · rw [if_pos e, e]
    rfl
  · rw [if_neg e, stC_one]
    show (if (kI (d : Nat)).toInt % 2 = 1 then [kI (-23)] else []) = _
    rw [kI_toInt (by omega) (by omega)]
    by_cases g : d % 2 = 1
    · rw [if_pos g, if_pos (by omega)]
    · rw [if_neg g, if_neg (by omega)]
theorem nots1 {x2 p1 v : Int32} {M N : pMem} {B : Nat → Int32} {n c k d q : Nat} {o : List Cd} (hp : p1.toInt = q) (hx : x2.toInt = ((d + q : Nat) : Int)) (h8 : d + q ≤ 8) (hr : rdR M B n c k) (hs : stp M (stC o)) (hl : (stC o).length + d ≤ k) (hk : k ≤ 500)
    (h : (tGd (¬ (kI 2) = 0) <| tIf (¬ (pRem (x2 - p1) (kI 2)) = (kI 1)) (tRet (kI 1) M) (tCall (D_155 7 (kI (-23)) M) fun _ M3 => tRet (kI 1) M3)) v N) :
    v = kI 1 ∧ N 6 4 = M 6 4 ∧ N 6 5 = M 6 5 ∧ rdR N B n c k ∧ stp N (stC (o ++ nC d)) ∧ (stC (o ++ nC d)).length ≤ (stC o).length + d := by
  have ed : x2 - p1 = kI (d : Nat) := kI_inj (by rw [i_sub (by omega) (by omega), hx, hp]; omega)
  rw [ed, rem2 d (by omega)] at h
  obtain ⟨_, h⟩ := h
  have e := nC_st (d := d) (by omega)
  rw [stC_app, e]
  rcases h with ⟨g, hv, hN⟩ | ⟨g, u, M3, h155, hv, hN⟩
  · have g2 : ¬ d % 2 = 1 := fun q => g (by rw [q]; rfl)
    rw [if_neg g2, List.append_nil, hN]
    exact ⟨hv, rfl, rfl, hr, hs, by omega⟩
  · have g2 : d % 2 = 1 := by
      have g := Classical.not_not.mp g
      rw [yk (by decide) (by decide), kI_toInt (by omega) (by omega)] at g
      omega
    rw [if_pos g2]
    obtain ⟨a1, a2⟩ := D_155_s hs (by omega) h155
    have f := F_155 (show pK 2 7 = true by decide +kernel) h155
    rw [hN]
    exact ⟨hv, by rw [a2], by rw [a2], zR_fr hr f (fun j => rfl) (by rw [a2]; exact hr.2.2.2.2.1), a1, by rw [List.length_append, List.length_singleton]; omega⟩
/-- a sign was there: what a check leaves -/
theorem D_176_k {M N : pMem} {B : Nat → Int32} {n c k k' : Nat} {L : List Int32} {a b v : Int32} (hr : rdR M B n c k) (hs : stp M L) (hD : D_176 a b M v N) (h : (N 6 3).toInt = k') : rdR N B n c k' ∧ stp N L := by
  have f := F_176 hD
  refine ⟨zR_fr hr f (fun j => rfl) h, ?_⟩
  obtain ⟨s1, s2, s3⟩ := hs
  exact ⟨by rw [f 7 1 (by decide) rfl (by simp only [l_176, pOut_cons, pOut_nil, true_or, and_true]; omega)]; exact s1, s2, fun i x hi => by rw [f 12 i (by decide) rfl (by simp only [l_176, pOut_cons, pOut_nil, true_or, and_true]; omega)]; exact s3 i x hi⟩
theorem sg_st : ∀ t : Nat, 60 ≤ t → t ≤ 62 → stpC (t - 54, kI 0) = [-(kI (t : Nat))] := by
  intro t h1 h2
  have : t = 60 ∨ t = 61 ∨ t = 62 := by omega
  rcases this with rfl | rfl | rfl <;> rfl
section QS2
variable {B : Nat → Int32} {n c : Nat} {E177 : Int32 → pMem → pT Int32} {P1771 : Int32 → Int32 → Int32 → Int32 → pMem → pT Int32} {E178 : Int32 → pMem → pT Int32} {P1781 : Int32 → Int32 → pMem → pT Int32} {P17811 : Int32 → Int32 → Int32 → pMem → pT Int32}
theorem S_178_1w (h1 : ∀ p x2 M v N, P1781 p x2 M v N → q1781 B n c p x2 M v N) (h11 : ∀ p x2 x3 M v N, P17811 p x2 x3 M v N → q17811 B n c p x2 x3 M v N) {p x2 v : Int32} {M N : pMem} (hs : S_178_1 E177 P1771 E178 P1781 P17811 p x2 M v N) : q1781 B n c p x2 M v N := by
  intro k o S d hr hst hl hk hp hx h8 hS
  obtain ⟨ht, _, _⟩ := zR_t hr
  unfold S_178_1 at hs
  rw [ht] at hs
  have l8 : x2 < kI 8 ↔ d + opn S < 8 := by rw [i_lt, hx, kI_toInt (by decide) (by decide)]; omega
  have g8 : kI 8 ≤ x2 ↔ ¬ d + opn S < 8 := by rw [i_le, hx, kI_toInt (by decide) (by decide)]; omega
  have fail : (yT B n k = kI 23 ∨ yT B n k = kI 40) → ¬ d + opn S < 8 → ∀ {v1 : Int32} {M1 : pMem}, D_173 (kI 3) M v1 M1 → v = v1 → N = M1 → qF B n N v (0, k, rpl d S, o, 0) := by
    intro q1 q2 v1 M1 hD hv hN
    obtain ⟨r1, r2, r3, r4⟩ := D_173_w hr hD
    refine ⟨k, rpl d S, o, 3, sR_one (Or.inl ⟨rfl, Or.inl ⟨q1, ?_, rfl⟩⟩), by decide, ?_⟩
    · show opn (rpl d S) = 8
      rw [opn_rpl]; omega
    · rw [hv, hN]
      exact ⟨r1, r3, r4⟩
  have in0 : ¬ yT B n k = kI 23 → ¬ yT B n k = kI 40 → P17811 p x2 (kI 0) M v N → _ := fun q1 q2 h => h11 _ _ _ _ _ _ h k o S d hr hst hl hk hp hx h8 hS (fun _ => ⟨q1, q2⟩) (fun q => absurd rfl q)
  have in1 : yT B n k = kI 40 → d + opn S < 8 → P17811 p x2 (kI 1) M v N → _ := fun q1 q2 h => h11 _ _ _ _ _ _ h k o S d hr hst hl hk hp hx h8 hS (fun q => absurd q (by decide)) (fun _ => ⟨q1, q2⟩)
  rcases hs with ⟨g, hs⟩ | ⟨g, hs⟩
  · rcases hs with ⟨g2, hs⟩ | ⟨g2, hs⟩
    · rcases hs with ⟨_, hs⟩ | ⟨_, hs⟩
      · exact in0 g g2 hs
      · rcases hs with ⟨_, hs⟩ | ⟨g3, _⟩
        · exact in0 g g2 hs
        · exact absurd g g3
    · have g2 := Classical.not_not.mp g2
      rcases hs with ⟨g3, hs⟩ | ⟨g3, v1, M1, hD, hv, hN⟩
      · exact in1 g2 (l8.mp g3) hs
      · exact Or.inr (fail (Or.inr g2) (fun q => g3 (l8.mpr q)) hD hv hN)
  · have t23 := Classical.not_not.mp g
    have n40 : ¬ yT B n k = kI 40 := by rw [t23]; decide
    rcases hs with ⟨g2, hs⟩ | ⟨g2, M1, e1, hs⟩
    · have hs := tIf_p n40 hs
      have hs := tIf_n (fun q => (g8.mp g2) (l8.mp q)) hs
      obtain ⟨v1, M1, hD, hv, hN⟩ := tIf_n g hs
      exact Or.inr (fail (Or.inl t23) (g8.mp g2) hD hv hN)
    · have q8 : d + opn S < 8 := Classical.not_not.mp fun q => g2 (g8.mpr q)
      obtain ⟨c1, c2, c3, c4, c5⟩ := cl_adv hr hst (by rw [t23]; decide) e1
      have st : stM (yT B n) (yV B n) (0, k, rpl d S, o, 0) (0, k + 1, rpl (d + 1) S, o, 0) := by
        refine Or.inl ⟨rfl, Or.inr (Or.inl ⟨Or.inl t23, ?_, ?_⟩)⟩
        · show ¬ opn (rpl d S) = 8
          rw [opn_rpl]; omega
        · show _ = (0, k + 1, (if yT B n k = kI 23 then 9 else 12) :: rpl d S, o, 0)
          rw [if_pos t23]
          rfl
      rcases h1 _ _ _ _ _ hs (k + 1) o S (d + 1) c1 c2 (by omega) (by omega) hp (by rw [i_add1 (by omega), hx]; omega) (by omega) hS with ⟨k', o', s1, s2⟩ | bad
      · exact Or.inl ⟨k', o', sR_tr (sR_one st) s1, qK_then s2 c3 c4 (by omega) (by omega)⟩
      · exact Or.inr (qF_tr (sR_one st) bad)
theorem S_178_11w (h177 : ∀ p M v N, E177 p M v N → q177 B n c p M v N) {p x2 x3 v : Int32} {M N : pMem} (hs : S_178_11 E177 P1771 E178 P1781 P17811 p x2 x3 M v N) : q17811 B n c p x2 x3 M v N := by
  intro k o S d hr hst hl hk hp hx h8 hS h30 h31
  have rl := rpl_lead hS d
  rcases hs with ⟨g, hs⟩ | ⟨g, hs⟩
  · obtain ⟨n23, n40⟩ := h30 g
    have n2340 : ¬ (yT B n k = kI 23 ∨ yT B n k = kI 40) := fun q => q.elim n23 n40
    -- what a comparison comes to
    have bad : ∀ {r : Rs} {v1 : Int32} {X : pMem}, cmR (yT B n) (yV B n) k o r → r.1 ≠ 0 → rdNo B n X v1 r.1 r.2.1 → v = kI 0 → N 6 4 = X 6 4 → N 6 5 = X 6 5 → qF B n N v (0, k, rpl d S, o, 0) := by
      intro r v1 X hc h0 hno hv e4 e5
      exact ⟨_, _, _, _, sR_one (Or.inl ⟨rfl, Or.inr (Or.inr ⟨n2340, r, hc, Or.inl ⟨h0, rfl⟩⟩)⟩), h0, hv, e4.trans hno.2.1, e5.trans hno.2.2⟩
    obtain ⟨v1, M1, h179, hs⟩ := hs
    obtain ⟨r1, s1, c1⟩ := D_179_w ⟨hr, hst, by omega⟩ hk h179
    rcases hs with ⟨g1, u, M2, h155, hs⟩ | ⟨g1, v2, M2, h176, hs⟩
    · have r0 := cX_no c1 g1
      obtain ⟨q1, q2, q3⟩ := nots0 hs
      obtain ⟨w1, w2⟩ := D_155_6 h155
      exact Or.inr (bad ⟨r1, s1, Or.inl ⟨r0, rfl⟩⟩ r0 (c1.2 r0) q1 (q2.trans w1) (q3.trans w2))
    · have r0 := cX_ok c1 g1
      obtain ⟨a1, a2, a3, a4, a5, a6, a7, a8⟩ := c1.1 r0
      have klt := suS_lt s1 r0
      obtain ⟨ht1, _, _⟩ := zR_t a4
      obtain ⟨w1, w2⟩ := D_176_w a4 (b := kI 62) (by decide) h176
      rw [kI_toInt (by decide) (by decide), kI_toInt (by decide) (by decide)] at w1 w2
      by_cases sg : 60 ≤ (yT B n r1.2.1).toInt ∧ (yT B n r1.2.1).toInt ≤ 62
      · obtain ⟨z1, z2, z3, z4⟩ := w1 sg
        have hs := tIf_n (show ¬ v2 = 0 by rw [z1]; decide) hs
        obtain ⟨b1, b2⟩ := D_176_k a4 a5 h176 z2
        have kk : r1.2.1 < 500 := zR_k a4 (fun e => by rw [e, kI_toInt (by decide) (by decide)] at sg; omega)
        obtain ⟨v3, M3, h179b, hs⟩ := hs
        obtain ⟨r2, s2, c2⟩ := D_179_w ⟨b1, b2, by omega⟩ (by omega) h179b
        rcases hs with ⟨g3, u, M4, h155, hs⟩ | ⟨g3, u, M4, h155, hs⟩
        · have r20 := cX_no c2 g3
          obtain ⟨q1, q2, q3⟩ := nots0 hs
          obtain ⟨w3, w4⟩ := D_155_6 h155
          exact Or.inr (bad ⟨r1, s1, Or.inr ⟨r0, Or.inr ⟨sg, r2, s2, Or.inl ⟨r20, rfl⟩⟩⟩⟩ r20 (c2.2 r20) q1 (q2.trans w3) (q3.trans w4))
        · have r20 := cX_ok c2 g3
          obtain ⟨e1, e2, e3, e4, e5, e6, e7, e8⟩ := c2.1 r20
          have klt2 := suS_lt s2 r20
          -- the sign joins
          obtain ⟨t, tt⟩ : ∃ t : Nat, (yT B n r1.2.1).toInt = t := ⟨(yT B n r1.2.1).toInt.toNat, by omega⟩
          have et : yT B n r1.2.1 = kI (t : Nat) := kI_inj tt
          rw [ht1, et] at h155
          obtain ⟨f1, f2, f3, f4⟩ := cL_put (q := (t - 54, kI 0)) ⟨e4, e5, by omega⟩ (sg_st t (by omega) (by omega)) (by omega) h155
          obtain ⟨m1, m2, m3, m4, m5, m6⟩ := nots1 hp hx h8 f1 f2 (by omega) e8 hs
          refine Or.inl ⟨r2.2.1, r2.2.2 ++ [(t - 54, kI 0)] ++ nC d, ?_, m1, by rw [m2, f3, e2, z3, a2], by rw [m3, f3, e3, z4, a3], m4, m5, by omega, by omega, e8⟩
          refine sR_one (Or.inl ⟨rfl, Or.inr (Or.inr ⟨n2340, (0, r2.2.1, r2.2.2 ++ [(t - 54, kI 0)]), ⟨r1, s1, Or.inr ⟨r0, Or.inr ⟨sg, r2, s2, Or.inr ⟨r20, ?_⟩⟩⟩⟩, Or.inr ⟨rfl, ?_⟩⟩)⟩)
          · rw [tt]
            rfl
          · show _ = (1, r2.2.1, (rpl d S).dropWhile (· == 9), r2.2.2 ++ [(t - 54, kI 0)] ++ nC (lead 9 (rpl d S)), 0)
            rw [rl.1, rl.2]
      · have no := w2 sg
        have hs := tIf_p (show v2 = 0 from no.1) hs
        obtain ⟨u, M3, h155, hs⟩ := hs
        obtain ⟨q1, q2, q3⟩ := nots0 hs
        obtain ⟨w3, w4⟩ := D_155_6 h155
        exact Or.inr (bad (r := (1, r1.2.1, r1.2.2)) ⟨r1, s1, Or.inr ⟨r0, Or.inl ⟨sg, rfl⟩⟩⟩ (show (1 : Nat) ≠ 0 by decide) no q1 (q2.trans w3) (q3.trans w4))
  · obtain ⟨t40, q8⟩ := h31 g
    obtain ⟨M1, e1, v1, M2, hE, hs⟩ := hs
    obtain ⟨c1, c2, c3, c4, c5⟩ := cl_adv hr hst (by rw [t40]; decide) e1
    have st : stM (yT B n) (yV B n) (0, k, rpl d S, o, 0) (0, k + 1, 12 :: rpl d S, o, 0) := by
      refine Or.inl ⟨rfl, Or.inr (Or.inl ⟨Or.inr t40, ?_, ?_⟩)⟩
      · show ¬ opn (rpl d S) = 8
        rw [opn_rpl]; omega
      · show _ = (0, k + 1, (if yT B n k = kI 23 then 9 else 12) :: rpl d S, o, 0)
        rw [if_neg (by rw [t40]; decide)]
    have on : opn (12 :: rpl d S) = d + opn S + 1 := by rw [opn_cons, opn_rpl]; rfl
    rcases h177 _ _ _ _ hE (k + 1) o (12 :: rpl d S) c1 c2 (by omega) (by omega) (by rw [on, i_add1 (by omega), hx]; omega) (by omega) (Or.inr ⟨_, rfl⟩) with ⟨k2, o2, W, hW, s2, n22, n21, b1, b2, b3, b4, b5, b6, b7, b8⟩ | bad
    · have hs := tIf_n (show ¬ v1 = 0 by rw [b1]; decide) hs
      obtain ⟨v2, M3, h176, hs⟩ := hs
      obtain ⟨w1, w2⟩ := D_176_w b4 (b := kI 41) (by decide) h176
      rw [kI_toInt (by decide) (by decide)] at w1 w2
      have so := stO_W (o := o2) hW (Or.inr ⟨rpl d S, rfl⟩ : top12 (12 :: rpl d S))
      by_cases sg : yT B n k2 = kI 41
      · have sg' : 41 ≤ (yT B n k2).toInt ∧ (yT B n k2).toInt ≤ 41 := by rw [sg, kI_toInt (by decide) (by decide)]; decide
        obtain ⟨z1, z2, z3, z4⟩ := w1 sg'
        have hs := tIf_n (show ¬ v2 = 0 by rw [z1]; decide) hs
        obtain ⟨d1, d2⟩ := D_176_k b4 b5 h176 z2
        have kk : k2 < 500 := zR_k b4 (fun e => by rw [e] at sg; exact absurd sg (by decide))
        obtain ⟨m1, m2, m3, m4, m5, m6⟩ := nots1 hp hx h8 d1 d2 (by omega) (by omega) hs
        refine Or.inl ⟨k2 + 1, o2 ++ sW W ++ nC d, sR_tr (sR_one st) (sR_tr s2 (sR_one (Or.inr ⟨rfl, ?_⟩))), m1, by rw [m2, z3, b2, c3], by rw [m3, z4, b3, c4], m4, m5, by omega, by omega, by omega⟩
        show _ = if yT B n k2 = kI 22 then _ else if yT B n k2 = kI 21 then _ else if ¬ 12 ∈ (stO (W ++ 12 :: rpl d S) o2).1 then _ else if ¬ yT B n k2 = kI 41 then _ else _
        rw [if_neg n22, if_neg n21, so, if_neg (nn (List.mem_cons_self)), if_neg (nn sg)]
        show _ = (1, k2 + 1, (rpl d S).dropWhile (· == 9), o2 ++ sW W ++ nC (lead 9 (rpl d S)), 0)
        rw [rl.1, rl.2]
      · have sg' : ¬ (41 ≤ (yT B n k2).toInt ∧ (yT B n k2).toInt ≤ 41) := fun q => sg (kI_inj (by omega))
        have no := w2 sg'
        have hs := tIf_p (show v2 = 0 from no.1) hs
        obtain ⟨q1, q2, q3⟩ := nots0 hs
        refine Or.inr ⟨k2, 12 :: rpl d S, o2 ++ sW W, 1, sR_tr (sR_one st) (sR_tr s2 (sR_one (Or.inr ⟨rfl, ?_⟩))), by decide, q1, q2.trans no.2.1, q3.trans no.2.2⟩
        show _ = if yT B n k2 = kI 22 then _ else if yT B n k2 = kI 21 then _ else if ¬ 12 ∈ (stO (W ++ 12 :: rpl d S) o2).1 then _ else if ¬ yT B n k2 = kI 41 then _ else _
        rw [if_neg n22, if_neg n21, so, if_neg (nn (List.mem_cons_self)), if_pos sg]
    · obtain ⟨k', S', o', f, x1, x2, x3', x4, x5⟩ := bad
      have hs := tIf_p (show v1 = 0 from x3') hs
      obtain ⟨q1, q2, q3⟩ := nots0 hs
      exact Or.inr ⟨k', S', o', f, sR_tr (sR_one st) x1, x2, q1, q2.trans x4, q3.trans x5⟩
end QS2
theorem D_177_w {B : Nat → Int32} {n c : Nat} {p : Int32} {M : pMem} {v : Int32} {N : pMem} (h : D_177 p M v N) : q177 B n c p M v N :=
  h (q177 B n c, q1771 B n c, q178 B n c, q1781 B n c, q17811 B n c) ⟨fun _ _ _ _ hs => S_177_ew (fun _ _ _ _ _ _ _ h => h) hs, fun _ _ _ _ _ _ _ hs => S_177_1w (fun _ _ _ _ _ _ _ h => h) (fun _ _ _ _ h => h) hs, fun _ _ _ _ hs => S_178_ew (fun _ _ _ _ _ h => h) hs, fun _ _ _ _ _ hs => S_178_1w (fun _ _ _ _ _ h => h) (fun _ _ _ _ _ _ h => h) hs, fun _ _ _ _ _ _ hs => S_178_11w (fun _ _ _ _ h => h) hs⟩
