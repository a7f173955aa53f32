/-! the class reads a claim -/
theorem rem2 : ∀ d, d < 9 → pRem (kI (d : Nat)) (kI 2) = kI ((d % 2 : Nat)) := by decide
theorem D_155_6 {x : Int32} {u : Unit} {M N : pMem} (h : D_155 7 x M u N) : N 6 4 = M 6 4 ∧ N 6 5 = M 6 5 := by
  have f := F_155 (show pK 2 7 = true by decide +kernel) h
  exact ⟨f 6 4 (by decide) rfl (by simp only [l_155, pOut_cons, pOut_nil, true_or, and_true]; omega), f 6 5 (by decide) rfl (by simp only [l_155, pOut_cons, pOut_nil, true_or, and_true]; omega)⟩
theorem nots0 {x2 p1 v : Int32} {M N : pMem} (h : (tGd (¬ (kI 2) = 0) <| tIf (¬ (pRem (x2 - p1) (kI 2)) = (kI 1)) (tRet (kI 0) M) (tCall (D_155 7 (kI (-23)) M) fun _ M3 => tRet (kI 0) M3)) v N) : v = kI 0 ∧ N 6 4 = M 6 4 ∧ N 6 5 = M 6 5 := by
  obtain ⟨_, h⟩ := h
  rcases h with ⟨_, hv, hN⟩ | ⟨_, u, M3, h155, hv, hN⟩
  · exact ⟨hv, by rw [hN], by rw [hN]⟩
  · obtain ⟨a, b⟩ := D_155_6 h155
    exact ⟨hv, by rw [hN]; exact a, by rw [hN]; exact b⟩
theorem nC_st {d : Nat} (hd : d < 9) : stC (nC d) = if d % 2 = 1 then [kI (-23)] else [] := by
  unfold nC
  by_cases e : d = 0
  · rw [if_pos e, e]
    rfl
  · rw [if_neg e, stC_one]
    show (if (kI (d : Nat)).toInt % 2 = 1 then [kI (-23)] else []) = _
    rw [kI_toInt (by omega) (by omega)]
    by_cases g : d % 2 = 1
    · rw [if_pos g, if_pos (by omega)]
    · rw [if_neg g, if_neg (by omega)]
theorem nots1 {x2 p1 v : Int32} {M N : pMem} {B : Nat → Int32} {n c k d q : Nat} {o : List Cd} (hp : p1.toInt = q) (hx : x2.toInt = ((d + q : Nat) : Int)) (h8 : d + q ≤ 8) (hr : rdR M B n c k) (hs : stp M (stC o)) (hl : (stC o).length + d ≤ k) (hk : k ≤ 500)
    (h : (tGd (¬ (kI 2) = 0) <| tIf (¬ (pRem (x2 - p1) (kI 2)) = (kI 1)) (tRet (kI 1) M) (tCall (D_155 7 (kI (-23)) M) fun _ M3 => tRet (kI 1) M3)) v N) :
    v = kI 1 ∧ N 6 4 = M 6 4 ∧ N 6 5 = M 6 5 ∧ rdR N B n c k ∧ stp N (stC (o ++ nC d)) ∧ (stC (o ++ nC d)).length ≤ (stC o).length + d := by
  have ed : x2 - p1 = kI (d : Nat) := kI_inj (by rw [i_sub (by omega) (by omega), hx, hp]; omega)
  rw [ed, rem2 d (by omega)] at h
  obtain ⟨_, h⟩ := h
  have e := nC_st (d := d) (by omega)
  rw [stC_app, e]
  rcases h with ⟨g, hv, hN⟩ | ⟨g, u, M3, h155, hv, hN⟩
  · have g2 : ¬ d % 2 = 1 := fun q => g (by rw [q]; rfl)
    rw [if_neg g2, List.append_nil, hN]
    exact ⟨hv, rfl, rfl, hr, hs, by omega⟩
  · have g2 : d % 2 = 1 := by
      have g := Classical.not_not.mp g
      rw [yk (by decide) (by decide), kI_toInt (by omega) (by omega)] at g
      omega
    rw [if_pos g2]
    obtain ⟨a1, a2⟩ := D_155_s hs (by omega) h155
    have f := F_155 (show pK 2 7 = true by decide +kernel) h155
    rw [hN]
    exact ⟨hv, by rw [a2], by rw [a2], zR_fr hr f (fun j => rfl) (by rw [a2]; exact hr.2.2.2.2.1), a1, by rw [List.length_append, List.length_singleton]; omega⟩
/-- a sign was there: what a check leaves -/
theorem D_176_k {M N : pMem} {B : Nat → Int32} {n c k k' : Nat} {L : List Int32} {a b v : Int32} (hr : rdR M B n c k) (hs : stp M L) (hD : D_176 a b M v N) (h : (N 6 3).toInt = k') : rdR N B n c k' ∧ stp N L := by
  have f := F_176 hD
  refine ⟨zR_fr hr f (fun j => rfl) h, ?_⟩
  obtain ⟨s1, s2, s3⟩ := hs
  exact ⟨by rw [f 7 1 (by decide) rfl (by simp only [l_176, pOut_cons, pOut_nil, true_or, and_true]; omega)]; exact s1, s2, fun i x hi => by rw [f 12 i (by decide) rfl (by simp only [l_176, pOut_cons, pOut_nil, true_or, and_true]; omega)]; exact s3 i x hi⟩
theorem sg_st : ∀ t : Nat, 60 ≤ t → t ≤ 62 → stpC (t - 54, kI 0) = [-(kI (t : Nat))] := by
  intro t h1 h2
  have : t = 60 ∨ t = 61 ∨ t = 62 := by omega
  rcases this with rfl | rfl | rfl <;> rfl
section QS2
variable {B : Nat → Int32} {n c : Nat} {E177 : Int32 → pMem → pT Int32} {P1771 : Int32 → Int32 → Int32 → Int32 → pMem → pT Int32} {E178 : Int32 → pMem → pT Int32} {P1781 : Int32 → Int32 → pMem → pT Int32} {P17811 : Int32 → Int32 → Int32 → pMem → pT Int32}
theorem S_178_1w (h1 : ∀ p x2 M v N, P1781 p x2 M v N → q1781 B n c p x2 M v N) (h11 : ∀ p x2 x3 M v N, P17811 p x2 x3 M v N → q17811 B n c p x2 x3 M v N) {p x2 v : Int32} {M N : pMem} (hs : S_178_1 E177 P1771 E178 P1781 P17811 p x2 M v N) : q1781 B n c p x2 M v N := by
  intro k o S d hr hst hl hk hp hx h8 hS
  obtain ⟨ht, _, _⟩ := zR_t hr
  unfold S_178_1 at hs
  rw [ht] at hs
  have l8 : x2 < kI 8 ↔ d + opn S < 8 := by rw [i_lt, hx, kI_toInt (by decide) (by decide)]; omega
  have g8 : kI 8 ≤ x2 ↔ ¬ d + opn S < 8 := by rw [i_le, hx, kI_toInt (by decide) (by decide)]; omega
  have fail : (yT B n k = kI 23 ∨ yT B n k = kI 40) → ¬ d + opn S < 8 → ∀ {v1 : Int32} {M1 : pMem}, D_173 (kI 3) M v1 M1 → v = v1 → N = M1 → qF B n N v (0, k, rpl d S, o, 0) := by
    intro q1 q2 v1 M1 hD hv hN
    obtain ⟨r1, r2, r3, r4⟩ := D_173_w hr hD
    refine ⟨k, rpl d S, o, 3, sR_one (Or.inl ⟨rfl, Or.inl ⟨q1, ?_, rfl⟩⟩), by decide, ?_⟩
    · show opn (rpl d S) = 8
      rw [opn_rpl]; omega
    · rw [hv, hN]
      exact ⟨r1, r3, r4⟩
  have in0 : ¬ yT B n k = kI 23 → ¬ yT B n k = kI 40 → P17811 p x2 (kI 0) M v N → _ := fun q1 q2 h => h11 _ _ _ _ _ _ h k o S d hr hst hl hk hp hx h8 hS (fun _ => ⟨q1, q2⟩) (fun q => absurd rfl q)
  have in1 : yT B n k = kI 40 → d + opn S < 8 → P17811 p x2 (kI 1) M v N → _ := fun q1 q2 h => h11 _ _ _ _ _ _ h k o S d hr hst hl hk hp hx h8 hS (fun q => absurd q (by decide)) (fun _ => ⟨q1, q2⟩)
  rcases hs with ⟨g, hs⟩ | ⟨g, hs⟩
  · rcases hs with ⟨g2, hs⟩ | ⟨g2, hs⟩
    · rcases hs with ⟨_, hs⟩ | ⟨_, hs⟩
      · exact in0 g g2 hs
      · rcases hs with ⟨_, hs⟩ | ⟨g3, _⟩
        · exact in0 g g2 hs
        · exact absurd g g3
    · have g2 := Classical.not_not.mp g2
      rcases hs with ⟨g3, hs⟩ | ⟨g3, v1, M1, hD, hv, hN⟩
      · exact in1 g2 (l8.mp g3) hs
      · exact Or.inr (fail (Or.inr g2) (fun q => g3 (l8.mpr q)) hD hv hN)
  · have t23 := Classical.not_not.mp g
    have n40 : ¬ yT B n k = kI 40 := by rw [t23]; decide
    rcases hs with ⟨g2, hs⟩ | ⟨g2, M1, e1, hs⟩
    · have hs := tIf_p n40 hs
      have hs := tIf_n (fun q => (g8.mp g2) (l8.mp q)) hs
      obtain ⟨v1, M1, hD, hv, hN⟩ := tIf_n g hs
      exact Or.inr (fail (Or.inl t23) (g8.mp g2) hD hv hN)
    · have q8 : d + opn S < 8 := Classical.not_not.mp fun q => g2 (g8.mpr q)
      obtain ⟨c1, c2, c3, c4, c5⟩ := cl_adv hr hst (by rw [t23]; decide) e1
      have st : stM (yT B n) (yV B n) (0, k, rpl d S, o, 0) (0, k + 1, rpl (d + 1) S, o, 0) := by
        refine Or.inl ⟨rfl, Or.inr (Or.inl ⟨Or.inl t23, ?_, ?_⟩)⟩
        · show ¬ opn (rpl d S) = 8
          rw [opn_rpl]; omega
        · show _ = (0, k + 1, (if yT B n k = kI 23 then 9 else 12) :: rpl d S, o, 0)
          rw [if_pos t23]
          rfl
      rcases h1 _ _ _ _ _ hs (k + 1) o S (d + 1) c1 c2 (by omega) (by omega) hp (by rw [i_add1 (by omega), hx]; omega) (by omega) hS with ⟨k', o', s1, s2⟩ | bad
      · exact Or.inl ⟨k', o', sR_tr (sR_one st) s1, qK_then s2 c3 c4 (by omega) (by omega)⟩
      · exact Or.inr (qF_tr (sR_one st) bad)
theorem S_178_11w (h177 : ∀ p M v N, E177 p M v N → q177 B n c p M v N) {p x2 x3 v : Int32} {M N : pMem} (hs : S_178_11 E177 P1771 E178 P1781 P17811 p x2 x3 M v N) : q17811 B n c p x2 x3 M v N := by
  intro k o S d hr hst hl hk hp hx h8 hS h30 h31
  have rl := rpl_lead hS d
  rcases hs with ⟨g, hs⟩ | ⟨g, hs⟩
  · obtain ⟨n23, n40⟩ := h30 g
    have n2340 : ¬ (yT B n k = kI 23 ∨ yT B n k = kI 40) := fun q => q.elim n23 n40
    -- what a comparison comes to
    have bad : ∀ {r : Rs} {v1 : Int32} {X : pMem}, cmR (yT B n) (yV B n) k o r → r.1 ≠ 0 → rdNo B n X v1 r.1 r.2.1 → v = kI 0 → N 6 4 = X 6 4 → N 6 5 = X 6 5 → qF B n N v (0, k, rpl d S, o, 0) := by
      intro r v1 X hc h0 hno hv e4 e5
      exact ⟨_, _, _, _, sR_one (Or.inl ⟨rfl, Or.inr (Or.inr ⟨n2340, r, hc, Or.inl ⟨h0, rfl⟩⟩)⟩), h0, hv, e4.trans hno.2.1, e5.trans hno.2.2⟩
    obtain ⟨v1, M1, h179, hs⟩ := hs
    obtain ⟨r1, s1, c1⟩ := D_179_w ⟨hr, hst, by omega⟩ hk h179
    rcases hs with ⟨g1, u, M2, h155, hs⟩ | ⟨g1, v2, M2, h176, hs⟩
    · have r0 := cX_no c1 g1
      obtain ⟨q1, q2, q3⟩ := nots0 hs
      obtain ⟨w1, w2⟩ := D_155_6 h155
      exact Or.inr (bad ⟨r1, s1, Or.inl ⟨r0, rfl⟩⟩ r0 (c1.2 r0) q1 (q2.trans w1) (q3.trans w2))
    · have r0 := cX_ok c1 g1
      obtain ⟨a1, a2, a3, a4, a5, a6, a7, a8⟩ := c1.1 r0
      have klt := suS_lt s1 r0
      obtain ⟨ht1, _, _⟩ := zR_t a4
      obtain ⟨w1, w2⟩ := D_176_w a4 (b := kI 62) (by decide) h176
      rw [kI_toInt (by decide) (by decide), kI_toInt (by decide) (by decide)] at w1 w2
      by_cases sg : 60 ≤ (yT B n r1.2.1).toInt ∧ (yT B n r1.2.1).toInt ≤ 62
      · obtain ⟨z1, z2, z3, z4⟩ := w1 sg
        have hs := tIf_n (show ¬ v2 = 0 by rw [z1]; decide) hs
        obtain ⟨b1, b2⟩ := D_176_k a4 a5 h176 z2
        have kk : r1.2.1 < 500 := zR_k a4 (fun e => by rw [e, kI_toInt (by decide) (by decide)] at sg; omega)
        obtain ⟨v3, M3, h179b, hs⟩ := hs
        obtain ⟨r2, s2, c2⟩ := D_179_w ⟨b1, b2, by omega⟩ (by omega) h179b
        rcases hs with ⟨g3, u, M4, h155, hs⟩ | ⟨g3, u, M4, h155, hs⟩
        · have r20 := cX_no c2 g3
          obtain ⟨q1, q2, q3⟩ := nots0 hs
          obtain ⟨w3, w4⟩ := D_155_6 h155
          exact Or.inr (bad ⟨r1, s1, Or.inr ⟨r0, Or.inr ⟨sg, r2, s2, Or.inl ⟨r20, rfl⟩⟩⟩⟩ r20 (c2.2 r20) q1 (q2.trans w3) (q3.trans w4))
        · have r20 := cX_ok c2 g3
          obtain ⟨e1, e2, e3, e4, e5, e6, e7, e8⟩ := c2.1 r20
          have klt2 := suS_lt s2 r20
          -- the sign joins
          obtain ⟨t, tt⟩ : ∃ t : Nat, (yT B n r1.2.1).toInt = t := ⟨(yT B n r1.2.1).toInt.toNat, by omega⟩
          have et : yT B n r1.2.1 = kI (t : Nat) := kI_inj tt
          rw [ht1, et] at h155
          obtain ⟨f1, f2, f3, f4⟩ := cL_put (q := (t - 54, kI 0)) ⟨e4, e5, by omega⟩ (sg_st t (by omega) (by omega)) (by omega) h155
          obtain ⟨m1, m2, m3, m4, m5, m6⟩ := nots1 hp hx h8 f1 f2 (by omega) e8 hs
          refine Or.inl ⟨r2.2.1, r2.2.2 ++ [(t - 54, kI 0)] ++ nC d, ?_, m1, by rw [m2, f3, e2, z3, a2], by rw [m3, f3, e3, z4, a3], m4, m5, by omega, by omega, e8⟩
          refine sR_one (Or.inl ⟨rfl, Or.inr (Or.inr ⟨n2340, (0, r2.2.1, r2.2.2 ++ [(t - 54, kI 0)]), ⟨r1, s1, Or.inr ⟨r0, Or.inr ⟨sg, r2, s2, Or.inr ⟨r20, ?_⟩⟩⟩⟩, Or.inr ⟨rfl, ?_⟩⟩)⟩)
          · rw [tt]
            rfl
          · show _ = (1, r2.2.1, (rpl d S).dropWhile (· == 9), r2.2.2 ++ [(t - 54, kI 0)] ++ nC (lead 9 (rpl d S)), 0)
            rw [rl.1, rl.2]
      · have no := w2 sg
        have hs := tIf_p (show v2 = 0 from no.1) hs
        obtain ⟨u, M3, h155, hs⟩ := hs
        obtain ⟨q1, q2, q3⟩ := nots0 hs
        obtain ⟨w3, w4⟩ := D_155_6 h155
        exact Or.inr (bad (r := (1, r1.2.1, r1.2.2)) ⟨r1, s1, Or.inr ⟨r0, Or.inl ⟨sg, rfl⟩⟩⟩ (show (1 : Nat) ≠ 0 by decide) no q1 (q2.trans w3) (q3.trans w4))
  · obtain ⟨t40, q8⟩ := h31 g
    obtain ⟨M1, e1, v1, M2, hE, hs⟩ := hs
    obtain ⟨c1, c2, c3, c4, c5⟩ := cl_adv hr hst (by rw [t40]; decide) e1
    have st : stM (yT B n) (yV B n) (0, k, rpl d S, o, 0) (0, k + 1, 12 :: rpl d S, o, 0) := by
      refine Or.inl ⟨rfl, Or.inr (Or.inl ⟨Or.inr t40, ?_, ?_⟩)⟩
      · show ¬ opn (rpl d S) = 8
        rw [opn_rpl]; omega
      · show _ = (0, k + 1, (if yT B n k = kI 23 then 9 else 12) :: rpl d S, o, 0)
        rw [if_neg (by rw [t40]; decide)]
    have on : opn (12 :: rpl d S) = d + opn S + 1 := by rw [opn_cons, opn_rpl]; rfl
    rcases h177 _ _ _ _ hE (k + 1) o (12 :: rpl d S) c1 c2 (by omega) (by omega) (by rw [on, i_add1 (by omega), hx]; omega) (by omega) (Or.inr ⟨_, rfl⟩) with ⟨k2, o2, W, hW, s2, n22, n21, b1, b2, b3, b4, b5, b6, b7, b8⟩ | bad
    · have hs := tIf_n (show ¬ v1 = 0 by rw [b1]; decide) hs
      obtain ⟨v2, M3, h176, hs⟩ := hs
      obtain ⟨w1, w2⟩ := D_176_w b4 (b := kI 41) (by decide) h176
      rw [kI_toInt (by decide) (by decide)] at w1 w2
      have so := stO_W (o := o2) hW (Or.inr ⟨rpl d S, rfl⟩ : top12 (12 :: rpl d S))
      by_cases sg : yT B n k2 = kI 41
      · have sg' : 41 ≤ (yT B n k2).toInt ∧ (yT B n k2).toInt ≤ 41 := by rw [sg, kI_toInt (by decide) (by decide)]; decide
        obtain ⟨z1, z2, z3, z4⟩ := w1 sg'
        have hs := tIf_n (show ¬ v2 = 0 by rw [z1]; decide) hs
        obtain ⟨d1, d2⟩ := D_176_k b4 b5 h176 z2
        have kk : k2 < 500 := zR_k b4 (fun e => by rw [e] at sg; exact absurd sg (by decide))
        obtain ⟨m1, m2, m3, m4, m5, m6⟩ := nots1 hp hx h8 d1 d2 (by omega) (by omega) hs
        refine Or.inl ⟨k2 + 1, o2 ++ sW W ++ nC d, sR_tr (sR_one st) (sR_tr s2 (sR_one (Or.inr ⟨rfl, ?_⟩))), m1, by rw [m2, z3, b2, c3], by rw [m3, z4, b3, c4], m4, m5, by omega, by omega, by omega⟩
        show _ = if yT B n k2 = kI 22 then _ else if yT B n k2 = kI 21 then _ else if ¬ 12 ∈ (stO (W ++ 12 :: rpl d S) o2).1 then _ else if ¬ yT B n k2 = kI 41 then _ else _
        rw [if_neg n22, if_neg n21, so, if_neg (nn (List.mem_cons_self)), if_neg (nn sg)]
        show _ = (1, k2 + 1, (rpl d S).dropWhile (· == 9), o2 ++ sW W ++ nC (lead 9 (rpl d S)), 0)
        rw [rl.1, rl.2]
      · have sg' : ¬ (41 ≤ (yT B n k2).toInt ∧ (yT B n k2).toInt ≤ 41) := fun q => sg (kI_inj (by omega))
        have no := w2 sg'
        have hs := tIf_p (show v2 = 0 from no.1) hs
        obtain ⟨q1, q2, q3⟩ := nots0 hs
        refine Or.inr ⟨k2, 12 :: rpl d S, o2 ++ sW W, 1, sR_tr (sR_one st) (sR_tr s2 (sR_one (Or.inr ⟨rfl, ?_⟩))), by decide, q1, q2.trans no.2.1, q3.trans no.2.2⟩
        show _ = if yT B n k2 = kI 22 then _ else if yT B n k2 = kI 21 then _ else if ¬ 12 ∈ (stO (W ++ 12 :: rpl d S) o2).1 then _ else if ¬ yT B n k2 = kI 41 then _ else _
        rw [if_neg n22, if_neg n21, so, if_neg (nn (List.mem_cons_self)), if_pos sg]
    · obtain ⟨k', S', o', f, x1, x2, x3', x4, x5⟩ := bad
      have hs := tIf_p (show v1 = 0 from x3') hs
      obtain ⟨q1, q2, q3⟩ := nots0 hs
      exact Or.inr ⟨k', S', o', f, sR_tr (sR_one st) x1, x2, q1, q2.trans x4, q3.trans x5⟩
end QS2
theorem D_177_w {B : Nat → Int32} {n c : Nat} {p : Int32} {M : pMem} {v : Int32} {N : pMem} (h : D_177 p M v N) : q177 B n c p M v N :=
  h (q177 B n c, q1771 B n c, q178 B n c, q1781 B n c, q17811 B n c) ⟨fun _ _ _ _ hs => S_177_ew (fun _ _ _ _ _ _ _ h => h) hs, fun _ _ _ _ _ _ _ hs => S_177_1w (fun _ _ _ _ _ _ _ h => h) (fun _ _ _ _ h => h) hs, fun _ _ _ _ hs => S_178_ew (fun _ _ _ _ _ h => h) hs, fun _ _ _ _ _ hs => S_178_1w (fun _ _ _ _ _ h => h) (fun _ _ _ _ _ _ h => h) hs, fun _ _ _ _ _ _ hs => S_178_11w (fun _ _ _ _ h => h) hs⟩
/-! the reference reads B -/
theorem D_73_w {M : pMem} {B : Nat → Int32} {n k : Nat} {o : List Cd} {v : Int32} {N : pMem} (hr : rR M B n k) (ho : rcd M (rcO o)) (hD : D_73 M v N) : ∃ r, cmR (yT B n) (yV B n) k o r ∧ rE N B n v r := by
  obtain ⟨v1, M1, h72, hs⟩ := hD
  obtain ⟨r1, s1, e1⟩ := D_72_w hr ho h72
  rcases hs with ⟨g, hs⟩ | ⟨g, hv, hN⟩
  · have r0 := rE_ok e1 g
    obtain ⟨_, a2, a3⟩ := e1.1 r0
    have sg : ∀ s : Int, 60 ≤ s → s ≤ 62 → (¬ f_68 (kI s) M1 = 0 ↔ yT B n r1.2.1 = kI s) := fun s q1 q2 => rR_sg a2 (by omega) (by omega)
    have s60 := sg 60 (by decide) (by decide)
    have s61 := sg 61 (by decide) (by decide)
    have s62 := sg 62 (by decide) (by decide)
    have val : ∀ {s : Int}, 40 ≤ s → s ≤ 62 → yT B n r1.2.1 = kI s → M1 188 28 = kI s := by
      intro s q1 q2 e
      have c := xRel_c (rR_t a2).1
      rw [e, kI_toInt (by omega) (by omega)] at c
      rcases c with c | c | ⟨r, r29, c, c', _⟩ | c | c
      · omega
      · omega
      · omega
      · omega
      · exact c.2.2.2
    have second : ∀ {s code : Nat} {u : Unit} {M2 M3 : pMem} {v3 : Int32}, yT B n r1.2.1 = kI (s : Nat) → 60 ≤ s → s ≤ 62 → code = s - 54 → D_65 M1 u M2 → D_72 M2 v3 M3 →
        (tIf (¬ v3 = (kI (-1))) (tCall (D_69 (kI code) (kI 0) M3) fun _ M4 => tRet (kI 0) M4) (tRet (kI (-1)) M3)) v N → ∃ r, cmR (yT B n) (yV B n) k o r ∧ rE N B n v r := by
      intro s code u M2 M3 v3 ht q1 q2 hc h65 h72 hs
      have t1 : (yT B n r1.2.1).toInt = s := by rw [ht, kI_toInt (by omega) (by omega)]
      have tin : 60 ≤ (yT B n r1.2.1).toInt ∧ (yT B n r1.2.1).toInt ≤ 62 := by omega
      obtain ⟨b1, b2⟩ := D_65_c a3 a2 h65
      obtain ⟨r2, s2, e2⟩ := D_72_w b2 b1 h72
      rcases hs with ⟨g2, u', M4, h69, hv, hN⟩ | ⟨g2, hv, hN⟩
      · have r20 := rE_ok e2 g2
        obtain ⟨_, c2, c3⟩ := e2.1 r20
        have rc : rcC (code, kI 0) = [(kI code, kI 0)] := by
          have : code = 6 ∨ code = 7 ∨ code = 8 := by omega
          rcases this with e | e | e <;> rw [e] <;> rfl
        obtain ⟨d1, d2⟩ := D_69_c (q := (code, kI 0)) c3 c2 rc h69
        refine ⟨(0, r2.2.1, r2.2.2 ++ [(code, kI 0)]), ⟨r1, s1, Or.inr ⟨r0, Or.inr ⟨tin, r2, s2, Or.inr ⟨r20, ?_⟩⟩⟩⟩, fun _ => ⟨hv, by rw [hN]; exact d2, by rw [hN]; exact d1⟩, fun e => absurd rfl e⟩
        rw [t1, hc]
        rfl
      · have r21 := rE_no e2 (Classical.not_not.mp g2)
        obtain ⟨d1, d2, d3⟩ := e2.2 r21
        exact ⟨r2, ⟨r1, s1, Or.inr ⟨r0, Or.inr ⟨tin, r2, s2, Or.inl ⟨r21, rfl⟩⟩⟩⟩, fun e => absurd e r21, fun _ => ⟨hv, by rw [hN]; exact d2, by rw [hN]; exact d3⟩⟩
    rcases hs with ⟨g1, hs⟩ | ⟨g1, hs⟩
    · have t := s60.mp g1
      have hs := tIf_n (nn (val (by decide) (by decide) t)) hs
      obtain ⟨_, M2, h65, v3, M3, h72b, hs⟩ := hs
      exact second (s := 60) (code := 6) t (by decide) (by decide) rfl h65 h72b hs
    · rcases hs with ⟨g2, hs⟩ | ⟨g2, hs⟩
      · have t := s61.mp g2
        have vv := val (by decide) (by decide) t
        have hs := tIf_p (show ¬ M1 188 28 = kI 60 by rw [vv]; decide) hs
        have hs := tIf_n (nn vv) hs
        obtain ⟨_, M2, h65, v3, M3, h72b, hs⟩ := hs
        exact second (s := 61) (code := 7) t (by decide) (by decide) rfl h65 h72b hs
      · rcases hs with ⟨g3, hs⟩ | ⟨g3, v2, M2, h66, hv, hN⟩
        · have t := s62.mp g3
          have vv := val (by decide) (by decide) t
          have hs := tIf_p (show ¬ M1 188 28 = kI 60 by rw [vv]; decide) hs
          have hs := tIf_p (show ¬ M1 188 28 = kI 61 by rw [vv]; decide) hs
          obtain ⟨_, M2, h65, v3, M3, h72b, hs⟩ := hs
          exact second (s := 62) (code := 8) t (by decide) (by decide) rfl h65 h72b hs
        · have tout : ¬ (60 ≤ (yT B n r1.2.1).toInt ∧ (yT B n r1.2.1).toInt ≤ 62) := by
            intro q
            have : (yT B n r1.2.1).toInt = 60 ∨ (yT B n r1.2.1).toInt = 61 ∨ (yT B n r1.2.1).toInt = 62 := by omega
            rcases this with e | e | e
            · exact absurd (s60.mpr (kI_inj e)) g1
            · exact absurd (s61.mpr (kI_inj e)) g2
            · exact absurd (s62.mpr (kI_inj e)) g3
          refine ⟨(1, r1.2.1, r1.2.2), ⟨r1, s1, Or.inr ⟨r0, Or.inl ⟨tout, rfl⟩⟩⟩, ?_⟩
          rw [hN, hv]
          exact rE_bad (D_66_w (f := 1) a2 h66) (by decide)
  · have r1' := rE_no e1 (Classical.not_not.mp g)
    obtain ⟨d1, d2, d3⟩ := e1.2 r1'
    exact ⟨r1, ⟨r1, s1, Or.inl ⟨r1', rfl⟩⟩, fun e => absurd e r1', fun _ => ⟨hv, by rw [hN]; exact d2, by rw [hN]; exact d3⟩⟩
/-- what waits -/
def pnd (M : pMem) (S : List Nat) : Prop := (M 188 41).toInt = S.length ∧ ∀ i x, S.reverse[i]? = some x → M 212 i = kI (x : Nat)
theorem pnd_fr {M N : pMem} {S : List Nat} {L : List (Nat × Nat)} (h : pnd M S) (f : pFr L M N) (k : (pOut L 188 41 && pNo L 212) = true) : pnd N S := by
  simp only [Bool.and_eq_true] at k
  refine ⟨by rw [f 188 41 (by decide) rfl k.1]; exact h.1, fun i x hi => ?_⟩
  rw [f 212 i (by decide) rfl (pNo_out k.2 i)]
  exact h.2 i x hi
theorem pnd_top {M : pMem} {x : Nat} {S : List Nat} (h : pnd M (x :: S)) : M 212 S.length = kI (x : Nat) := by
  refine h.2 S.length x ?_
  rw [List.reverse_cons, List.getElem?_append_right (by rw [List.length_reverse]; exact Nat.le_refl _), List.length_reverse, Nat.sub_self]
  rfl
theorem pnd_pop {M N : pMem} {x : Nat} {S : List Nat} (h : pnd M (x :: S)) (h41 : (N 188 41).toInt = S.length) (h212 : ∀ i, N 212 i = M 212 i) : pnd N S := by
  refine ⟨h41, fun i y hi => ?_⟩
  rw [h212]
  refine h.2 i y ?_
  have hl := (List.getElem?_eq_some_iff.mp hi).1
  rw [List.reverse_cons, List.getElem?_append_left hl]
  exact hi
theorem D_74_w {M : pMem} {S : List Nat} (h : pnd M S) {x : Nat} {u : Unit} {N : pMem} (hD : D_74 (kI (x : Nat)) M u N) : pnd N (x :: S) := by
  obtain ⟨g, M1, e1, M2, e2, _, hN⟩ := hD
  obtain ⟨h1, h2⟩ := h
  have g2 := ix_in g
  rw [ix_of h1] at e1 g2
  rw [hN]
  refine ⟨?_, fun i y hi => ?_⟩
  · rw [e2, aPut_same, e1, aPut_cell (by decide), i_add1 (by omega), h1, List.length_cons]
    omega
  · rw [e2, aPut_cell (by decide), e1, aPut_row]
    rw [List.reverse_cons] at hi
    by_cases e : i = S.length
    · rw [if_pos e]
      rw [e, List.getElem?_append_right (by rw [List.length_reverse]; exact Nat.le_refl _), List.length_reverse, Nat.sub_self] at hi
      have := Option.some.inj hi
      rw [← this]
    · rw [if_neg e]
      have hlt := (List.getElem?_eq_some_iff.mp hi).1
      rw [List.length_append, List.length_reverse, List.length_singleton] at hlt
      rw [List.getElem?_append_left (by rw [List.length_reverse]; omega)] at hi
      exact h2 i y hi
/-- what settles puts: the leading ones of that kind -/
def q75 (x : Nat) (M N : pMem) : Prop := ∀ (S : List Nat) (L : List (Int32 × Int32)), (∀ y ∈ S, y ≤ 12) → pnd M S → rcd M L → (M 188 39).toInt = opn S → pnd N (S.dropWhile (· == x)) ∧ rcd N (L ++ List.replicate (lead x S) (kI (x : Nat), kI 0)) ∧ (N 188 39).toInt = (if x = 9 then opn (S.dropWhile (· == x)) else opn S : Nat)
theorem S_75_0w {x : Nat} (hx : x ≤ 11) {P0 : pMem → pT Unit} (hP : ∀ M v N, P0 M v N → q75 x M N) {M : pMem} {v : Unit} {N : pMem} (hs : S_75_0 (kI (x : Nat)) P0 M v N) : q75 x M N := by
  intro S L hS hp hc ho
  rcases hs with ⟨g, _, hN⟩ | ⟨g, gi, hs⟩
  · rw [i_le, hp.1, i_0] at g
    have e : S = [] := List.length_eq_zero_iff.mp (by omega)
    rw [e] at hp ho ⊢
    rw [hN]
    refine ⟨hp, by show rcd M (L ++ []); rw [List.append_nil]; exact hc, ?_⟩
    rw [ho]
    split <;> rfl
  · rw [i_le, hp.1, i_0] at g
    cases S with
    | nil => exact absurd (show ((0 : Nat) : Int) ≤ 0 by decide) g
    | cons y R =>
      have h41 : (M 188 41).toInt = ((R.length + 1 : Nat) : Int) := hp.1
      have rg := i_rg (M 188 41)
      have rg39 := i_rg (M 188 39)
      have ei : ix (M 188 41 - kI 1) = R.length := ix_of (by rw [i_sub (by rw [h41, kI1]; omega) (by rw [h41, kI1]; omega), h41, kI1]; omega)
      have top := pnd_top hp
      have hy := hS y List.mem_cons_self
      rw [ei, top] at hs
      have eyx : kI (y : Nat) = kI (x : Nat) ↔ y = x := by
        rw [yk (by omega) (by omega), kI_toInt (by omega) (by omega)]
        omega
      rcases hs with ⟨g2, _, hN⟩ | ⟨g2, M1, e1, u, M2, h69, hs⟩
      · have ne : ¬ y = x := fun q => g2 (eyx.mpr q)
        have b : (y == x) = false := by simp [ne]
        have d : (y :: R).dropWhile (· == x) = y :: R := by rw [List.dropWhile_cons, if_neg (by rw [b]; decide)]
        have l : lead x (y :: R) = 0 := by
          unfold lead
          rw [List.takeWhile_cons, if_neg (by rw [b]; decide)]
          rfl
        rw [d, l, hN]
        refine ⟨hp, by show rcd M (L ++ []); rw [List.append_nil]; exact hc, ?_⟩
        rw [ho]
        split <;> rfl
      · have e : y = x := eyx.mp (Classical.not_not.mp g2)
        subst e
        have b : (y == y) = true := by simp
        have d : (y :: R).dropWhile (· == y) = R.dropWhile (· == y) := by rw [List.dropWhile_cons, if_pos b]
        have l : lead y (y :: R) = lead y R + 1 := by
          unfold lead
          rw [List.takeWhile_cons, if_pos b, List.length_cons]
        have m1 : ∀ a j, ¬ (a = 188 ∧ j = 41) → M1 a j = M a j := fun a j q => by
          by_cases ea : a = 188
          · subst ea
            rw [e1, aPut_at (fun e => q ⟨rfl, e⟩)]
          · rw [e1, aPut_cell ea]
        have p1 : pnd M1 R := pnd_pop hp (by rw [e1, aPut_same, i_sub (by rw [h41, kI1]; omega) (by rw [h41, kI1]; omega), h41, kI1]; omega) (fun i => m1 212 i (by omega))
        have c1 : rcd M1 L := ⟨by rw [m1 188 38 (by omega)]; exact hc.1, fun i z hi => by rw [m1 210 _ (by omega), m1 211 _ (by omega)]; exact hc.2 i z hi⟩
        have c2 := D_69_w c1 h69
        have f := F_69 h69
        have p2 : pnd M2 R := pnd_fr p1 f (by decide +kernel)
        have o2 : M2 188 39 = M 188 39 := by rw [f 188 39 (by decide) rfl (by simp only [l_69, pOut_cons, pOut_nil, true_or, and_true]; omega)]; exact m1 188 39 (by omega)
        have on : opn (y :: R) = opn R + if y == 9 || y == 12 then 1 else 0 := opn_cons
        have fin : ∀ {M3 : pMem}, pnd M3 R → rcd M3 (L ++ [(kI (y : Nat), kI 0)]) → (M3 188 39).toInt = opn R → q75 y M3 N → (y = 9 ∨ opn (y :: R) = opn R) → pnd N ((y :: R).dropWhile (· == y)) ∧ rcd N (L ++ List.replicate (lead y (y :: R)) (kI (y : Nat), kI 0)) ∧ (N 188 39).toInt = (if y = 9 then opn ((y :: R).dropWhile (· == y)) else opn (y :: R) : Nat) := by
          intro M3 a1 a2 a3 a4 a5
          obtain ⟨t1, t2, t3⟩ := a4 R _ (fun z hz => hS z (List.mem_cons_of_mem _ hz)) a1 a2 a3
          rw [d, l, List.replicate_succ]
          refine ⟨t1, ?_, ?_⟩
          · rw [List.append_assoc] at t2
            exact t2
          · rw [t3]
            by_cases y9 : y = 9
            · rw [if_pos y9, if_pos y9]
            · rw [if_neg y9, if_neg y9, a5.resolve_left y9]
        have y9 : kI (y : Nat) = kI 9 ↔ y = 9 := by
          rw [yk (by decide) (by decide), kI_toInt (by omega) (by omega)]
          omega
        rcases hs with ⟨g3, hs⟩ | ⟨g3, M3, e3, hs⟩
        · have n9 : ¬ y = 9 := fun q => g3 (y9.mpr q)
          have n12 : ¬ y = 12 := by omega
          have oe : opn (y :: R) = opn R := by
            rw [on, if_neg (by simp [n9, n12])]
            rfl
          exact fin p2 c2 (by rw [o2, ho, oe]) (hP _ _ _ hs) (Or.inr oe)
        · have e9 := y9.mp (Classical.not_not.mp g3)
          have oe : opn (y :: R) = opn R + 1 := by rw [on, if_pos (by simp [e9])]
          have m3 : ∀ a j, ¬ (a = 188 ∧ j = 39) → M3 a j = M2 a j := fun a j q => by
            by_cases ea : a = 188
            · subst ea
              rw [e3, aPut_at (fun e => q ⟨rfl, e⟩)]
            · rw [e3, aPut_cell ea]
          refine fin ⟨by rw [m3 188 41 (by omega)]; exact p2.1, fun i z hi => by rw [m3 212 i (by omega)]; exact p2.2 i z hi⟩ ⟨by rw [m3 188 38 (by omega)]; exact c2.1, fun i z hi => by rw [m3 210 _ (by omega), m3 211 _ (by omega)]; exact c2.2 i z hi⟩ ?_ (hP _ _ _ hs) (Or.inl e9)
          rw [e3, aPut_same, o2, i_sub (by rw [ho, oe, kI1]; omega) (by rw [ho, oe, kI1]; have := hp.1; have : opn (y :: R) ≤ (y :: R).length := List.countP_le_length; omega), ho, oe, kI1]
          omega
/-! the reference's B goes as the machine -/
def adj : List Nat → Prop
  | [] => True
  | x :: r => (x = 9 ∨ x = 12 ∨ (x = 10 ∧ (r = [] ∨ (∃ q, r = 11 :: q) ∨ ∃ q, r = 12 :: q)) ∨ (x = 11 ∧ (r = [] ∨ ∃ q, r = 12 :: q))) ∧ adj r
theorem adj_le : ∀ {S : List Nat}, adj S → ∀ y ∈ S, y ≤ 12
  | [], _, y, hy => absurd hy List.not_mem_nil
  | x :: r, h, y, hy => by
    rcases List.mem_cons.mp hy with e | e
    · rcases h.1 with q | q | q | q <;> omega
    · exact adj_le h.2 y e
theorem adj_split {S : List Nat} (h : adj S) (h9 : ∀ q, S ≠ 9 :: q) : ∃ W S2, S = W ++ S2 ∧ okWd W ∧ top12 S2 ∧ adj S2 := by
  cases S with
  | nil => exact ⟨[], [], rfl, Or.inl rfl, Or.inl rfl, trivial⟩
  | cons x r =>
    obtain ⟨a, b⟩ := h
    rcases a with e | e | ⟨e, c⟩ | ⟨e, c⟩
    · exact absurd (by rw [e]) (h9 r)
    · exact ⟨[], x :: r, rfl, Or.inl rfl, Or.inr ⟨r, by rw [e]⟩, ⟨Or.inr (Or.inl e), b⟩⟩
    · rcases c with c | ⟨q, c⟩ | ⟨q, c⟩
      · exact ⟨[10], [], by rw [e, c]; rfl, Or.inr (Or.inl rfl), Or.inl rfl, trivial⟩
      · rw [c] at b
        obtain ⟨b1, b2⟩ := b
        rcases b1 with b1 | b1 | ⟨b1, _⟩ | ⟨_, b1⟩
        · omega
        · omega
        · omega
        · exact ⟨[10, 11], q, by rw [e, c]; rfl, Or.inr (Or.inr (Or.inr rfl)), b1, b2⟩
      · exact ⟨[10], r, by rw [e]; rfl, Or.inr (Or.inl rfl), Or.inr ⟨q, c⟩, b⟩
    · exact ⟨[11], r, by rw [e]; rfl, Or.inr (Or.inr (Or.inl rfl)), c, b⟩
theorem adj_dw : ∀ {S : List Nat}, adj S → adj (S.dropWhile (· == 9)) ∧ ∀ q, S.dropWhile (· == 9) ≠ 9 :: q
  | [], _ => ⟨trivial, fun q e => by cases e⟩
  | x :: r, h => by
    rw [List.dropWhile_cons]
    by_cases e : (x == 9) = true
    · rw [if_pos e]
      exact adj_dw h.2
    · rw [if_neg e]
      refine ⟨h, fun q e2 => e ?_⟩
      injection e2 with e3 _
      rw [e3]
      rfl
def c12 (S : List Nat) : Nat := S.countP (· == 12)
theorem c12_cons {x : Nat} {S : List Nat} : c12 (x :: S) = c12 S + if x == 12 then 1 else 0 := by
  unfold c12
  rw [List.countP_cons]
theorem c12_dw {x : Nat} (hx : x ≠ 12) : ∀ {S : List Nat}, c12 (S.dropWhile (· == x)) = c12 S
  | [] => rfl
  | y :: r => by
    rw [List.dropWhile_cons]
    by_cases e : (y == x) = true
    · rw [if_pos e, c12_dw hx, c12_cons]
      have : y = x := by simpa using e
      rw [this, if_neg (by simp [hx])]
      omega
    · rw [if_neg e]
theorem c12_W {W S : List Nat} (hW : okWd W) : c12 (W ++ S) = c12 S := by
  rcases hW with rfl | rfl | rfl | rfl
  · rfl
  · show c12 (10 :: S) = _; rw [c12_cons]; rfl
  · show c12 (11 :: S) = _; rw [c12_cons]; rfl
  · show c12 (10 :: 11 :: S) = _; rw [c12_cons, c12_cons]; rfl
theorem c12_mem {S : List Nat} (hS : top12 S) : 12 ∈ S ↔ c12 S ≠ 0 := by
  rcases hS with rfl | ⟨R, rfl⟩
  · exact ⟨fun q => absurd q List.not_mem_nil, fun q => absurd rfl q⟩
  · refine ⟨fun _ => ?_, fun _ => List.mem_cons_self⟩
    rw [c12_cons, if_pos (show ((12 : Nat) == 12) = true from rfl)]
    omega
theorem rcO_rep {x : Nat} (hx : x = 10 ∨ x = 11) : ∀ {a : Nat}, rcO (rep a x) = List.replicate a (kI (x : Nat), kI 0)
  | 0 => rfl
  | a + 1 => by
    have ih := rcO_rep hx (a := a)
    have e : rep (a + 1) x = (x, kI 0) :: rep a x := rfl
    have e2 : rcO ((x, kI 0) :: rep a x) = rcC (x, kI 0) ++ rcO (rep a x) := rfl
    rw [e, e2, ih, List.replicate_succ]
    rcases hx with rfl | rfl <;> rfl
theorem rcO_nC {c : Nat} (hc : c ≤ 2147483647) : rcO (nC c) = List.replicate c (kI 9, kI 0) := by
  unfold nC
  by_cases e : c = 0
  · rw [if_pos e, e]
    rfl
  · rw [if_neg e, rcO_one]
    show List.replicate (kI (c : Nat)).toInt.toNat (kI 9, kI 0) = _
    rw [kI_toInt (by omega) (by omega)]
    rfl
theorem lead_le {x : Nat} {S : List Nat} : lead x S ≤ S.length := (List.takeWhile_sublist _).length_le
theorem opn_dw {x : Nat} (h9 : x ≠ 9) (h12 : x ≠ 12) : ∀ {S : List Nat}, opn (S.dropWhile (· == x)) = opn S
  | [] => rfl
  | y :: r => by
    rw [List.dropWhile_cons]
    by_cases e : (y == x) = true
    · rw [if_pos e, opn_dw h9 h12, opn_cons]
      have : y = x := by simpa using e
      rw [this, if_neg (by simp [h9, h12])]
      omega
    · rw [if_neg e]
/-- what it comes to -/
def r76 (B : Nat → Int32) (n : Nat) (N : pMem) (v : Int32) (t : Sm) : Prop :=
  (∃ k' o', t = (2, k', [], o', 0) ∧ v = kI 0 ∧ rR N B n k' ∧ rcd N (rcO o') ∧ N 188 39 = kI 0) ∨ ∃ k' S' o' f, t = (3, k', S', o', f) ∧ f ≠ 0 ∧ rNo B n N v f k'
def q76 (B : Nat → Int32) (n : Nat) (x1 x2 : Int32) (M : pMem) (v : Int32) (N : pMem) : Prop := ∀ (k : Nat) (o : List Cd) (S : List Nat), rR M B n k → rcd M (rcO o) → pnd M S → (M 188 39).toInt = opn S → x1.toInt = c12 S → adj S → (x2 = 0 → ∀ q, S ≠ 9 :: q) →
  ∃ t, sR (yT B n) (yV B n) (if x2 = 0 then 1 else 0, k, S, o, 0) t ∧ r76 B n N v t
theorem D_75_w {x : Nat} (hx : x ≤ 11) {M : pMem} {u : Unit} {N : pMem} (h : D_75 (kI (x : Nat)) M u N) : q75 x M N := by
  have h' : S_75_0 (kI (x : Nat)) (L_75_0 (kI (x : Nat))) M u N := h
  exact S_75_0w hx (fun M v N h => h (fun M v N => q75 x M N) (fun M v N hs => S_75_0w hx (fun _ _ _ h => h) hs)) h'
theorem S_76_1w {B : Nat → Int32} {n : Nat} {P1 : Int32 → Int32 → pMem → pT Int32} (hP : ∀ x1 x2 M v N, P1 x1 x2 M v N → q76 B n x1 x2 M v N) {x1 x2 : Int32} {M : pMem} {v : Int32} {N : pMem} (hs : S_76_1 P1 x1 x2 M v N) : q76 B n x1 x2 M v N := by
  intro k o S hr hc hp ho hb ha h9
  have sl : S.length ≤ 2147483647 := by
    have := i_rg (M 188 41)
    have := hp.1
    omega
  have sle := adj_le ha
  have w14 := rR_wd hr (r := 14) (by decide)
  have w13 := rR_wd hr (r := 13) (by decide)
  have w12 := rR_wd hr (r := 12) (by decide)
  have s40 := rR_sg hr (s := 40) (by decide) (by decide)
  have x14 : (xCw 14 : Int) = 23 := rfl
  have x13 : (xCw 13 : Int) = 22 := rfl
  have x12 : (xCw 12 : Int) = 21 := rfl
  rw [x14] at w14
  rw [x13] at w13
  rw [x12] at w12
  have oc : opn S ≤ S.length := List.countP_le_length
  have cc : c12 S ≤ S.length := List.countP_le_length
  -- settles
  have set : ∀ {x : Nat} {S1 : List Nat} {o1 : List Cd} {M1 M2 : pMem} {u : Unit}, x = 10 ∨ x = 11 → (∀ y ∈ S1, y ≤ 12) → rR M1 B n k → rcd M1 (rcO o1) → pnd M1 S1 → (M1 188 39).toInt = opn S1 → D_75 (kI (x : Nat)) M1 u M2 →
      rR M2 B n k ∧ rcd M2 (rcO (o1 ++ rep (lead x S1) x)) ∧ pnd M2 (S1.dropWhile (· == x)) ∧ (M2 188 39).toInt = opn (S1.dropWhile (· == x)) := by
    intro x S1 o1 M1 M2 u hx q1 q2 q3 q4 q5 hD
    obtain ⟨t1, t2, t3⟩ := D_75_w (x := x) (by omega) hD S1 _ q1 q4 q3 q5
    refine ⟨rR_fr q2 (F_75 hD) rfl (fun j => rfl), by rw [rcO_app, rcO_rep hx]; exact t2, t1, ?_⟩
    rw [t3, if_neg (by omega), opn_dw (by omega) (by omega)]
  have set9 : ∀ {k1 : Nat} {S1 : List Nat} {o1 : List Cd} {M1 M2 : pMem} {u : Unit}, (∀ y ∈ S1, y ≤ 12) → S1.length ≤ 2147483647 → rR M1 B n k1 → rcd M1 (rcO o1) → pnd M1 S1 → (M1 188 39).toInt = opn S1 → D_75 (kI 9) M1 u M2 →
      rR M2 B n k1 ∧ rcd M2 (rcO (stN S1 o1).2) ∧ pnd M2 (stN S1 o1).1 ∧ (M2 188 39).toInt = opn (stN S1 o1).1 := by
    intro k1 S1 o1 M1 M2 u q1 ql q2 q3 q4 q5 hD
    obtain ⟨t1, t2, t3⟩ := D_75_w (x := 9) (by decide) hD S1 _ q1 q4 q3 q5
    have ll := lead_le (x := 9) (S := S1)
    refine ⟨rR_fr q2 (F_75 hD) rfl (fun j => rfl), ?_, t1, ?_⟩
    · show rcd M2 (rcO (o1 ++ nC (lead 9 S1)))
      rw [rcO_app, rcO_nC (by omega)]
      exact t2
    · rw [t3, if_pos rfl]
      rfl
  -- a ( or a not is pushed
  have push : ∀ {x : Nat} {x1' : Int32} {M1 M2 M3 : pMem} {u1 u2 : Unit}, ¬ x2 = 0 → (yT B n k = kI 23 ∨ yT B n k = kI 40) → x = (if yT B n k = kI 23 then 9 else 12) → ¬ M 188 39 = kI 8 → M1 = aPut M 188 39 (M 188 39 + kI 1) → D_74 (kI (x : Nat)) M1 u1 M2 → D_65 M2 u2 M3 → (x1'.toInt = c12 (x :: S)) → P1 x1' x2 M3 v N →
      ∃ t, sR (yT B n) (yV B n) (if x2 = 0 then 1 else 0, k, S, o, 0) t ∧ r76 B n N v t := by
    intro x x1' M1 M2 M3 u1 u2 n2 hT hx n8 e1 h74 h65 hx1 hs
    have m1 : ∀ a j, ¬ (a = 188 ∧ j = 39) → M1 a j = M a j := fun a j q => by
      by_cases ea : a = 188
      · subst ea
        rw [e1, aPut_at (fun e => q ⟨rfl, e⟩)]
      · rw [e1, aPut_cell ea]
    have f1 : pFr [(188, 39)] M M1 := fun a j _ _ q => by
      simp only [pOut_cons, pOut_nil, true_or, and_true] at q
      exact m1 a j (by omega)
    have p2 := D_74_w (pnd_fr hp f1 (by decide +kernel)) h74
    have f2 := F_74 h74
    have f3 := F_65 h65
    have r1 : rR M2 B n k := rR_fr (rR_fr hr f1 rfl (fun j => rfl)) f2 rfl (fun j => rfl)
    have c2 : rcd M2 (rcO o) := rcd_fr (rcd_fr hc f1 (by decide +kernel)) f2 (by decide +kernel)
    have hx' : x = 9 ∨ x = 12 := by
      rw [hx]
      split
      · exact Or.inl rfl
      · exact Or.inr rfl
    have op : opn (x :: S) = opn S + 1 := by
      rw [opn_cons]
      rcases hx' with e | e <;> rw [e] <;> rfl
    have o3 : (M3 188 39).toInt = opn (x :: S) := by
      rw [f3 188 39 (by decide) rfl (by simp only [l_65, pOut_cons, pOut_nil, true_or, and_true]; omega), f2 188 39 (by decide) rfl (by simp only [l_74, pOut_cons, pOut_nil, true_or, and_true]; omega), e1, aPut_same, op]
      have pl := p2.1
      have rg := i_rg (M2 188 41)
      rw [List.length_cons] at pl
      rw [i_add1 (by omega), ho]
      omega
    obtain ⟨t, s1, s2⟩ := hP _ _ _ _ _ hs (k + 1) o (x :: S) (rR_next r1 h65) (rcd_fr c2 f3 (by decide +kernel)) (pnd_fr p2 f3 (by decide +kernel)) o3 hx1 ⟨by rcases hx' with e | e <;> simp [e], ha⟩ (fun q => absurd q n2)
    rw [if_neg n2] at s1 ⊢
    refine ⟨t, sR_tr (sR_one (Or.inl ⟨rfl, Or.inr (Or.inl ⟨hT, ?_, ?_⟩)⟩)) s1, s2⟩
    · show ¬ opn S = 8
      intro q
      exact n8 (kI_inj (by rw [ho, q]; rfl))
    · rw [hx]
  have full : ∀ {v1 : Int32} {M1 : pMem}, ¬ x2 = 0 → (yT B n k = kI 23 ∨ yT B n k = kI 40) → M 188 39 = kI 8 → D_66 (kI 3) M v1 M1 → v = v1 → N = M1 → ∃ t, sR (yT B n) (yV B n) (if x2 = 0 then 1 else 0, k, S, o, 0) t ∧ r76 B n N v t := by
    intro v1 M1 n2 hT e8 hD hv hN
    rw [if_neg n2]
    refine ⟨_, sR_one (Or.inl ⟨rfl, Or.inl ⟨hT, ?_, rfl⟩⟩), Or.inr ⟨_, _, _, _, rfl, by decide, by rw [hv, hN]; exact D_66_w (f := 3) hr hD⟩⟩
    show opn S = 8
    rw [e8, kI_toInt (by decide) (by decide)] at ho
    omega
  rcases hs with ⟨g, hs⟩ | ⟨g, hs⟩
  · -- behind a claim
    have h9 := h9 g
    obtain ⟨W, S2, eS, hW, hS2, a2⟩ := adj_split ha h9
    rw [if_pos g]
    have stepM : ∀ {t : Sm}, t = (if yT B n k = kI 22 then (0, k + 1, 10 :: (stA S o).1, (stA S o).2, 0)
        else if yT B n k = kI 21 then (0, k + 1, 11 :: (stO S o).1, (stO S o).2, 0)
        else if ¬ 12 ∈ (stO S o).1 then (2, k, (stO S o).1, (stO S o).2, 0)
        else if ¬ yT B n k = kI 41 then (3, k, (stO S o).1, (stO S o).2, 1)
        else (1, k + 1, (stN (stO S o).1.tail (stO S o).2).1, (stN (stO S o).1.tail (stO S o).2).2, 0)) → stM (yT B n) (yV B n) (1, k, S, o, 0) t := fun e => Or.inr ⟨rfl, e⟩
    have so := stO_W (o := o) hW hS2
    rw [← eS] at so
    rcases hs with ⟨g1, hs⟩ | ⟨g1, u1, M1, ha1, u2, M2, h74, u3, M3, h65, hs⟩
    · have n22 : ¬ yT B n k = kI 22 := fun e => absurd g1 (w13.mpr e)
      rcases hs with ⟨g2, u1, M1, ha1, u2, M2, ha2, hs⟩ | ⟨g2, u1, M1, ha1, u2, M2, ha2, u3, M3, h74, u4, M4, h65, hs⟩
      · have n21 : ¬ yT B n k = kI 21 := fun e => absurd g2 (w12.mpr e)
        obtain ⟨b1, b2, b3, b4⟩ := set (Or.inl rfl) sle hr hc hp ho ha1
        have le1 : ∀ y ∈ S.dropWhile (· == 10), y ≤ 12 := fun y hy => sle y ((List.dropWhile_sublist _).subset hy)
        obtain ⟨d1, d2, d3, d4⟩ := set (Or.inr rfl) le1 b1 b2 b3 b4 ha2
        have e1 : (S.dropWhile (· == 10)).dropWhile (· == 11) = (stO S o).1 := rfl
        have e2 : o ++ rep (lead 10 S) 10 ++ rep (lead 11 (S.dropWhile (· == 10))) 11 = (stO S o).2 := rfl
        rw [e1] at d3 d4
        rw [e2] at d2
        have c2 : c12 S = c12 S2 := by rw [eS, c12_W hW]
        have s41 := rR_sg d1 (s := 41) (by decide) (by decide)
        have mem := c12_mem hS2
        rcases hs with ⟨g3, hs⟩ | ⟨g3, hv, hN⟩
        · have m12 : 12 ∈ (stO S o).1 := by
            rw [so]
            refine mem.mpr fun q => g3 ?_
            rw [i_eq, i_0, hb, c2, q]
            rfl
          rcases hs with ⟨g4, M3, e3, M4, e4, u3, M5, ha9, u4, M6, h65, hs⟩ | ⟨g4, v3, M3, h66, hv, hN⟩
          · have t41 := s41.mp g4
            -- the ( is popped
            rw [so] at d2 d3 d4 m12
            obtain ⟨R, eR⟩ : ∃ R, S2 = 12 :: R := by
              rcases hS2 with q | q
              · rw [q] at m12
                exact absurd m12 List.not_mem_nil
              · exact q
            have d3 : pnd M2 (12 :: R) := by rw [← eR]; exact d3
            have d4 : (M2 188 39).toInt = opn (12 :: R) := by rw [← eR]; exact d4
            have aR : adj R := by rw [eR] at a2; exact a2.2
            have p2l : (M2 188 41).toInt = ((R.length + 1 : Nat) : Int) := d3.1
            have rg41 := i_rg (M2 188 41)
            have op12 : opn (12 :: R) = opn R + 1 := by rw [opn_cons]; rfl
            have oR : opn R ≤ R.length := List.countP_le_length
            have f34 : pFr [(188, 41), (188, 39)] M2 M4 := fun a j _ _ q => by
              simp only [pOut_cons, pOut_nil, true_or, and_true] at q
              by_cases ea : a = 188
              · subst ea
                rw [e4, aPut_at (by omega), e3, aPut_at (by omega)]
              · rw [e4, aPut_cell ea, e3, aPut_cell ea]
            have p4 : pnd M4 R := pnd_pop d3 (by rw [e4, aPut_at (by decide), e3, aPut_same, i_sub (by rw [p2l, kI1]; omega) (by rw [p2l, kI1]; omega), p2l, kI1]; omega) (fun i => by rw [e4, aPut_cell (by decide), e3, aPut_cell (by decide)])
            have o4 : (M4 188 39).toInt = opn R := by
              rw [e4, aPut_same, e3, aPut_at (by decide), i_sub (by rw [d4, op12, kI1]; omega) (by rw [d4, op12, kI1]; omega), d4, op12, kI1]
              omega
            obtain ⟨f1, f2, f3, f4⟩ := set9 (adj_le aR) (by omega) (rR_fr d1 f34 rfl (fun j => rfl)) (rcd_fr d2 f34 (by decide +kernel)) p4 o4 ha9
            have f65 := F_65 h65
            obtain ⟨q1, q2⟩ := adj_dw aR
            have cR : c12 (12 :: R) = c12 R + 1 := by rw [c12_cons]; rfl
            have cs : c12 S = c12 R + 1 := by rw [c2, eR, cR]
            obtain ⟨t, s1, s2⟩ := hP _ _ _ _ _ hs (k + 1) _ _ (rR_next f1 h65) (rcd_fr f2 f65 (by decide +kernel)) (pnd_fr f3 f65 (by decide +kernel)) (by rw [f65 188 39 (by decide) rfl (by simp only [l_65, pOut_cons, pOut_nil, true_or, and_true]; omega)]; exact f4)
              (by rw [i_sub (by rw [hb, kI1]; omega) (by rw [hb, kI1]; omega), hb, kI1, show c12 (stN R (o ++ sW W)).1 = c12 R from c12_dw (by decide)]; omega) q1 (fun _ => q2)
            rw [if_pos g] at s1
            refine ⟨t, sR_tr (sR_one (stepM ?_)) s1, s2⟩
            rw [if_neg n22, if_neg n21, so, if_neg (nn m12), if_neg (nn t41), eR]
            rfl
          · have n41 : ¬ yT B n k = kI 41 := fun e => g4 (s41.mpr e)
            refine ⟨_, sR_one (stepM ?_), Or.inr ⟨k, (stO S o).1, (stO S o).2, 1, rfl, by decide, by rw [hv, hN]; exact D_66_w (f := 1) d1 h66⟩⟩
            rw [if_neg n22, if_neg n21, if_neg (nn m12), if_pos n41]
        · have m12 : ¬ 12 ∈ (stO S o).1 := by
            rw [so]
            intro q
            have g3 := Classical.not_not.mp g3
            rw [i_eq, i_0, hb, c2] at g3
            exact mem.mp q (by omega)
          have e0 : (stO S o).1 = [] := by
            rw [so] at m12 ⊢
            rcases hS2 with q | ⟨R, q⟩
            · exact q
            · rw [q] at m12
              exact absurd List.mem_cons_self m12
          rw [e0] at d4
          refine ⟨_, sR_one (stepM ?_), Or.inl ⟨k, (stO S o).2, rfl, hv, by rw [hN]; exact d1, by rw [hN]; exact d2, by rw [hN]; exact kI_inj d4⟩⟩
          rw [if_neg n22, if_neg n21, if_pos m12, e0]
      · have t21 := w12.mp g2
        obtain ⟨b1, b2, b3, b4⟩ := set (Or.inl rfl) sle hr hc hp ho ha1
        have le1 : ∀ y ∈ S.dropWhile (· == 10), y ≤ 12 := fun y hy => sle y ((List.dropWhile_sublist _).subset hy)
        obtain ⟨d1, d2, d3, d4⟩ := set (Or.inr rfl) le1 b1 b2 b3 b4 ha2
        have e1 : (S.dropWhile (· == 10)).dropWhile (· == 11) = (stO S o).1 := rfl
        have e2 : o ++ rep (lead 10 S) 10 ++ rep (lead 11 (S.dropWhile (· == 10))) 11 = (stO S o).2 := rfl
        rw [e1] at d3 d4
        rw [e2] at d2
        have f2 := F_74 h74
        have f3 := F_65 h65
        have p3 := D_74_w (x := 11) d3 h74
        rw [so] at d2 d4 p3
        obtain ⟨t, s1, s2⟩ := hP _ _ _ _ _ hs (k + 1) (o ++ sW W) (11 :: S2) (rR_next (rR_fr d1 f2 rfl (fun j => rfl)) h65) (rcd_fr (rcd_fr d2 f2 (by decide +kernel)) f3 (by decide +kernel)) (pnd_fr p3 f3 (by decide +kernel))
          (by rw [f3 188 39 (by decide) rfl (by simp only [l_65, pOut_cons, pOut_nil, true_or, and_true]; omega), f2 188 39 (by decide) rfl (by simp only [l_74, pOut_cons, pOut_nil, true_or, and_true]; omega), d4, opn_cons]; rfl)
          (by rw [hb, eS, c12_W hW, c12_cons]; rfl) ⟨Or.inr (Or.inr (Or.inr ⟨rfl, hS2⟩)), a2⟩ (fun q => absurd q (by decide))
        refine ⟨t, sR_tr (sR_one (stepM ?_)) s1, s2⟩
        rw [if_neg n22, if_pos t21, so, if_neg (by decide)]
    · have t22 := w13.mp g1
      obtain ⟨b1, b2, b3, b4⟩ := set (Or.inl rfl) sle hr hc hp ho ha1
      have e1 : S.dropWhile (· == 10) = (stA S o).1 := rfl
      have e2 : o ++ rep (lead 10 S) 10 = (stA S o).2 := rfl
      rw [e1] at b3 b4
      rw [e2] at b2
      have f2 := F_74 h74
      have f3 := F_65 h65
      have p3 := D_74_w (x := 10) b3 h74
      -- what is left of the stack
      have ad : adj (10 :: (stA S o).1) ∧ c12 (stA S o).1 = c12 S := by
        refine ⟨?_, c12_dw (by decide)⟩
        rw [eS]
        rcases hW with rfl | rfl | rfl | rfl
        · rw [(stA_W (o := o) (Or.inl rfl) hS2).1]
          exact ⟨Or.inr (Or.inr (Or.inl ⟨rfl, hS2.elim Or.inl (fun q => Or.inr (Or.inr q))⟩)), a2⟩
        · rw [show [10] ++ S2 = 10 :: ([] ++ S2) from rfl, (stA_W (o := o) (Or.inl rfl) hS2).2]
          exact ⟨Or.inr (Or.inr (Or.inl ⟨rfl, hS2.elim Or.inl (fun q => Or.inr (Or.inr q))⟩)), a2⟩
        · rw [(stA_W (o := o) (Or.inr rfl) hS2).1]
          exact ⟨Or.inr (Or.inr (Or.inl ⟨rfl, Or.inr (Or.inl ⟨_, rfl⟩)⟩)), ⟨Or.inr (Or.inr (Or.inr ⟨rfl, hS2⟩)), a2⟩⟩
        · rw [show [10, 11] ++ S2 = 10 :: ([11] ++ S2) from rfl, (stA_W (o := o) (Or.inr rfl) hS2).2]
          exact ⟨Or.inr (Or.inr (Or.inl ⟨rfl, Or.inr (Or.inl ⟨_, rfl⟩)⟩)), ⟨Or.inr (Or.inr (Or.inr ⟨rfl, hS2⟩)), a2⟩⟩
      obtain ⟨t, s1, s2⟩ := hP _ _ _ _ _ hs (k + 1) (stA S o).2 (10 :: (stA S o).1) (rR_next (rR_fr b1 f2 rfl (fun j => rfl)) h65) (rcd_fr (rcd_fr b2 f2 (by decide +kernel)) f3 (by decide +kernel)) (pnd_fr p3 f3 (by decide +kernel))
        (by rw [f3 188 39 (by decide) rfl (by simp only [l_65, pOut_cons, pOut_nil, true_or, and_true]; omega), f2 188 39 (by decide) rfl (by simp only [l_74, pOut_cons, pOut_nil, true_or, and_true]; omega), b4, opn_cons]; rfl)
        (by rw [hb, c12_cons, ad.2]; rfl) ad.1 (fun q => absurd q (by decide))
      refine ⟨t, sR_tr (sR_one (stepM ?_)) s1, s2⟩
      rw [if_pos t22, if_neg (by decide)]
  · -- a claim is due
    rcases hs with ⟨g1, hs⟩ | ⟨g1, hs⟩
    · have t23 := w14.mp g1
      rcases hs with ⟨g2, M1, e1, hs⟩ | ⟨g2, v1, M1, h66, hv, hN⟩
      · have hs := tIf_p g1 hs
        have hs := tIf_n g1 hs
        obtain ⟨u1, M2, h74, u2, M3, h65, hs⟩ := hs
        exact push (x := 9) g (Or.inl t23) (by rw [if_pos t23]) g2 e1 h74 h65 (by rw [hb, c12_cons]; rfl) hs
      · exact full g (Or.inl t23) (Classical.not_not.mp g2) h66 hv hN
    · have n23 : ¬ yT B n k = kI 23 := fun e => g1 (w14.mpr e)
      have g1' := Classical.not_not.mp g1
      rcases hs with ⟨g2, v1, M1, h73, hs⟩ | ⟨g2, hs⟩
      · have n40 : ¬ yT B n k = kI 40 := fun e => absurd g2 (s40.mpr e)
        have n2340 : ¬ (yT B n k = kI 23 ∨ yT B n k = kI 40) := fun q => q.elim n23 n40
        obtain ⟨r, c1, c2⟩ := D_73_w hr hc h73
        have f := F_73 h73
        rw [if_neg g]
        rcases hs with ⟨g3, u2, M2, ha9, hs⟩ | ⟨g3, hv, hN⟩
        · have r0 := rE_ok c2 g3
          obtain ⟨_, d2, d3⟩ := c2.1 r0
          obtain ⟨f1, f2, f3, f4⟩ := set9 sle sl d2 d3 (pnd_fr hp f (by decide +kernel)) (by rw [f 188 39 (by decide) rfl (by simp only [l_73, pOut_cons, pOut_nil, true_or, and_true]; omega)]; exact ho) ha9
          obtain ⟨q1, q2⟩ := adj_dw ha
          obtain ⟨t, s1, s2⟩ := hP _ _ _ _ _ hs r.2.1 _ _ f1 f2 f3 f4 (by rw [hb, show c12 (stN S r.2.2).1 = c12 S from c12_dw (by decide)]) q1 (fun _ => q2)
          rw [if_pos (show kI 0 = 0 from rfl)] at s1
          exact ⟨t, sR_tr (sR_one (Or.inl ⟨rfl, Or.inr (Or.inr ⟨n2340, r, c1, Or.inr ⟨r0, rfl⟩⟩)⟩)) s1, s2⟩
        · have r1 := rE_no c2 (Classical.not_not.mp g3)
          obtain ⟨d1, d2, d3⟩ := c2.2 r1
          exact ⟨_, sR_one (Or.inl ⟨rfl, Or.inr (Or.inr ⟨n2340, r, c1, Or.inl ⟨r1, rfl⟩⟩)⟩), Or.inr ⟨_, _, _, _, rfl, r1, hv, by rw [hN]; exact d2, by rw [hN]; exact d3⟩⟩
      · have t40 := s40.mp g2
        rcases hs with ⟨g3, M1, e1, hs⟩ | ⟨g3, v1, M1, h66, hv, hN⟩
        · have hs := tIf_n g1 hs
          have hs := tIf_p g1' hs
          obtain ⟨u1, M2, h74, u2, M3, h65, hs⟩ := hs
          have q40 : S.length < 40 := by
            have q := h74.1.2
            rw [e1, aPut_at (by decide), hp.1] at q
            omega
          exact push (x := 12) g (Or.inr t40) (by rw [if_neg n23]) g3 e1 h74 h65 (by rw [c12_cons, if_pos (show ((12 : Nat) == 12) = true from rfl), i_add1 (by omega), hb]; omega) hs
        · exact full g (Or.inr t40) (Classical.not_not.mp g3) h66 hv hN
theorem D_76_w {M : pMem} {B : Nat → Int32} {n k : Nat} {o : List Cd} {v : Int32} {N : pMem} (hr : rR M B n k) (hc : rcd M (rcO o)) (ho : M 188 39 = kI 0) (h : D_76 M v N) : ∃ t, sR (yT B n) (yV B n) (0, k, [], o, 0) t ∧ r76 B n N v t := by
  obtain ⟨M1, e1, h⟩ := h
  have f1 : pFr [(188, 41)] M M1 := fun a j _ _ q => by
    simp only [pOut_cons, pOut_nil, true_or, and_true] at q
    rw [e1]
    by_cases ea : a = 188
    · subst ea
      exact aPut_at (by omega)
    · exact aPut_cell ea
  have q : q76 B n (kI 0) (kI 1) M1 v N := h (q76 B n) (fun _ _ _ _ _ hs => S_76_1w (fun _ _ _ _ _ h => h) hs)
  have := q k o [] (rR_fr hr f1 rfl (fun j => rfl)) (rcd_fr hc f1 (by decide +kernel)) ⟨by rw [e1, aPut_same]; rfl, fun i x hi => by cases hi⟩ (by rw [e1, aPut_at (by decide), ho]; rfl) rfl trivial (fun q => absurd q (by decide))
  exact this
/-! lines of a law -/
/-- a line: its word, where its codes begin, where its E and its B end -/
abbrev Ln : Type := Int32 × Nat × Nat × Nat
abbrev Rl : Type := Nat × Nat × List Cd × List Ln
def tailR (T : Nat → Int32) (k2 : Nat) (o2 : List Cd) (ln : Ln) (r : Rl) : Prop := (T k2 = kI 59 ∧ r = (0, k2 + 1, o2, [ln])) ∨ (¬ T k2 = kI 59 ∧ r = (1, k2, o2, []))
def liR (T V : Nat → Int32) (k : Nat) (o : List Cd) (r : Rl) : Prop := ∃ r1, suS T V (k + 1) o r1 ∧ ((r1.1 ≠ 0 ∧ r = (r1.1, r1.2.1, r1.2.2, [])) ∨ (r1.1 = 0 ∧
  ((¬ T r1.2.1 = kI 20 ∧ tailR T r1.2.1 r1.2.2 (T k, o.length, r1.2.2.length, r1.2.2.length) r) ∨
   (T r1.2.1 = kI 20 ∧ ∃ t, sR T V (0, r1.2.1 + 1, [], r1.2.2, 0) t ∧ ((t.1 = 3 ∧ r = (t.2.2.2.2, t.2.1, t.2.2.2.1, [])) ∨ (t.1 = 2 ∧ tailR T t.2.1 t.2.2.2.1 (T k, o.length, r1.2.2.length, t.2.2.2.1.length) r))))))
theorem tailR_det {T : Nat → Int32} {k2 : Nat} {o2 : List Cd} {ln : Ln} {r r' : Rl} (h : tailR T k2 o2 ln r) (h' : tailR T k2 o2 ln r') : r = r' := by
  rcases h with ⟨a, b⟩ | ⟨a, b⟩ <;> rcases h' with ⟨a', b'⟩ | ⟨a', b'⟩
  · rw [b, b']
  · exact absurd a a'
  · exact absurd a' a
  · rw [b, b']
theorem liR_det {T V : Nat → Int32} {k : Nat} {o : List Cd} {r r' : Rl} (h : liR T V k o r) (h' : liR T V k o r') : r = r' := by
  obtain ⟨r1, a1, a2⟩ := h
  obtain ⟨r2, b1, b2⟩ := h'
  obtain rfl := suP_det a1 b1
  rcases a2 with ⟨c1, c2⟩ | ⟨c1, c2⟩ <;> rcases b2 with ⟨d1, d2⟩ | ⟨d1, d2⟩
  · rw [c2, d2]
  · exact absurd d1 c1
  · exact absurd c1 d1
  · rcases c2 with ⟨c2, c3⟩ | ⟨c2, t, c3, c4⟩ <;> rcases d2 with ⟨d2, d3⟩ | ⟨d2, t', d3, d4⟩
    · exact tailR_det c3 d3
    · exact absurd d2 c2
    · exact absurd c2 d2
    · have ft : fin t := c4.elim (fun q => Or.inr q.1) (fun q => Or.inl q.1)
      have ft' : fin t' := d4.elim (fun q => Or.inr q.1) (fun q => Or.inl q.1)
      obtain rfl := sR_det c3 d3 ft ft'
      rcases c4 with ⟨c4, c5⟩ | ⟨c4, c5⟩ <;> rcases d4 with ⟨d4, d5⟩ | ⟨d4, d5⟩
      · rw [c5, d5]
      · omega
      · omega
      · exact tailR_det c5 d5
/-- m lines may still come -/
def laR (T V : Nat → Int32) : Nat → Nat → List Cd → Rl → Prop
  | 0, k, o, r => (T k = kI 101 ∧ r = (0, k, o, [])) ∨ (¬ T k = kI 101 ∧ ((¬ (14 ≤ (T k).toInt ∧ (T k).toInt ≤ 19) ∧ r = (1, k, o, [])) ∨ ((14 ≤ (T k).toInt ∧ (T k).toInt ≤ 19) ∧ r = (3, k, o, []))))
  | m + 1, k, o, r => (T k = kI 101 ∧ r = (0, k, o, [])) ∨ (¬ T k = kI 101 ∧ ((¬ (14 ≤ (T k).toInt ∧ (T k).toInt ≤ 19) ∧ r = (1, k, o, [])) ∨ ((14 ≤ (T k).toInt ∧ (T k).toInt ≤ 19) ∧
      ∃ q, liR T V k o q ∧ ((q.1 ≠ 0 ∧ r = (q.1, q.2.1, q.2.2.1, [])) ∨ (q.1 = 0 ∧ ∃ r', laR T V m q.2.1 q.2.2.1 r' ∧ r = (r'.1, r'.2.1, r'.2.2.1, q.2.2.2 ++ r'.2.2.2))))))
theorem laR_det {T V : Nat → Int32} : ∀ {m k : Nat} {o : List Cd} {r r' : Rl}, laR T V m k o r → laR T V m k o r' → r = r' := by
  intro m
  induction m with
  | zero =>
    intro k o r r' h h'
    rcases h with ⟨a, b⟩ | ⟨a, b⟩ <;> rcases h' with ⟨a', b'⟩ | ⟨a', b'⟩
    · rw [b, b']
    · exact absurd a a'
    · exact absurd a' a
    · rcases b with ⟨c, d⟩ | ⟨c, d⟩ <;> rcases b' with ⟨c', d'⟩ | ⟨c', d'⟩
      · rw [d, d']
      · exact absurd c' c
      · exact absurd c c'
      · rw [d, d']
  | succ m ih =>
    intro k o r r' h h'
    rcases h with ⟨a, b⟩ | ⟨a, b⟩ <;> rcases h' with ⟨a', b'⟩ | ⟨a', b'⟩
    · rw [b, b']
    · exact absurd a a'
    · exact absurd a' a
    · rcases b with ⟨c, d⟩ | ⟨c, q, d, e⟩ <;> rcases b' with ⟨c', d'⟩ | ⟨c', q', d', e'⟩
      · rw [d, d']
      · exact absurd c' c
      · exact absurd c c'
      · obtain rfl := liR_det d d'
        rcases e with ⟨e1, e2⟩ | ⟨e1, r1, e2, e3⟩ <;> rcases e' with ⟨f1, f2⟩ | ⟨f1, r2, f2, f3⟩
        · rw [e2, f2]
        · exact absurd f1 e1
        · exact absurd e1 f1
        · obtain rfl := ih e2 f2
          rw [e3, f3]
/-! the class's lines -/
/-- the draft's lines: words and where steps begin and end -/
def clL (M : pMem) (o : List Cd) (L : List Ln) : Prop := (M 7 0).toInt = L.length ∧ L.length ≤ 16 ∧ ∀ i x, L[i]? = some x → M 8 i = x.1 ∧ (M 9 i).toInt = (stC (o.take x.2.1)).length ∧ (M 10 i).toInt = (stC (o.take x.2.2.1)).length ∧ (M 11 i).toInt = (stC (o.take x.2.2.2)).length ∧ x.2.1 ≤ x.2.2.1 ∧ x.2.2.1 ≤ x.2.2.2 ∧ x.2.2.2 ≤ o.length
theorem clL_more {M : pMem} {o o' : List Cd} {L : List Ln} (h : clL M o L) : clL M (o ++ o') L := by
  obtain ⟨h1, h2, h3⟩ := h
  refine ⟨h1, h2, fun i x hi => ?_⟩
  obtain ⟨a1, a2, a3, a4, a5, a6, a7⟩ := h3 i x hi
  have t : ∀ p, p ≤ o.length → (o ++ o').take p = o.take p := fun p hp => List.take_append_of_le_length hp
  rw [t _ (by omega), t _ (by omega), t _ (by omega), List.length_append]
  exact ⟨a1, a2, a3, a4, a5, a6, by omega⟩
theorem clL_fr {M N : pMem} {o : List Cd} {L : List Ln} {S : List (Nat × Nat)} (h : clL M o L) (f : pFr S M N) (k : (pOut S 7 0 && (pNo S 8 && (pNo S 9 && (pNo S 10 && pNo S 11)))) = true) : clL N o L := by
  simp only [Bool.and_eq_true] at k
  obtain ⟨k0, k1, k2, k3, k4⟩ := k
  obtain ⟨h1, h2, h3⟩ := h
  refine ⟨by rw [f 7 0 (by decide) rfl k0]; exact h1, h2, fun i x hi => ?_⟩
  rw [f 8 i (by decide) rfl (pNo_out k1 i), f 9 i (by decide) rfl (pNo_out k2 i), f 10 i (by decide) rfl (pNo_out k3 i), f 11 i (by decide) rfl (pNo_out k4 i)]
  exact h3 i x hi
theorem D_156_w {M : pMem} {o : List Cd} {L : List Ln} (h : clL M o L) (hl : L.length < 16) {w a b : Int32} {pa pb : Nat} (ha : a.toInt = (stC (o.take pa)).length) (hb : b.toInt = (stC (o.take pb)).length) (hab : pa ≤ pb) (hbo : pb ≤ o.length) (hs : stp M (stC o)) {u : Unit} {N : pMem} (hD : D_156 7 w a b M u N) : clL N o (L ++ [(w, pa, pb, o.length)]) ∧ stp N (stC o) ∧ N 6 = M 6 := by
  obtain ⟨h1, h2, h3⟩ := h
  have hD := tIf_n (show ¬ M 7 0 < 0 by rw [i_lt, h1, i_0]; omega) hD
  have hD := tIf_n (show ¬ kI 16 ≤ M 7 0 by rw [i_le, h1, kI_toInt (by decide) (by decide)]; omega) hD
  obtain ⟨_, M1, e1, _, M2, e2, _, M3, e3, _, M4, e4, M5, e5, _, hN⟩ := hD
  have q1 : M1 7 0 = M 7 0 := by rw [e1, aPut_cell (by decide)]
  have q2 : M2 7 0 = M 7 0 := by rw [e2, aPut_cell (by decide)]; exact q1
  have q3 : M3 7 0 = M 7 0 := by rw [e3, aPut_cell (by decide)]; exact q2
  have q4 : M4 7 0 = M 7 0 := by rw [e4, aPut_cell (by decide)]; exact q3
  have z1 : M3 7 1 = M 7 1 := by rw [e3, aPut_cell (by decide), e2, aPut_cell (by decide), e1, aPut_cell (by decide)]
  rw [ix_of h1] at e1
  rw [q1, ix_of h1] at e2
  rw [q2, ix_of h1] at e3
  rw [q3, ix_of h1, z1] at e4
  rw [hN]
  refine ⟨⟨?_, ?_, fun i x hi => ?_⟩, ?_, ?_⟩
  · rw [e5, aPut_same, q4, i_add1 (by omega), h1, List.length_append, List.length_singleton]
    omega
  · rw [List.length_append, List.length_singleton]
    omega
  · have r8 : M5 8 i = if i = L.length then w else M 8 i := by rw [e5, aPut_cell (by decide), e4, aPut_cell (by decide), e3, aPut_cell (by decide), e2, aPut_cell (by decide), e1, aPut_row]
    have r9 : M5 9 i = if i = L.length then a else M 9 i := by rw [e5, aPut_cell (by decide), e4, aPut_cell (by decide), e3, aPut_cell (by decide), e2, aPut_row, e1, aPut_cell (by decide)]
    have r10 : M5 10 i = if i = L.length then b else M 10 i := by rw [e5, aPut_cell (by decide), e4, aPut_cell (by decide), e3, aPut_row, e2, aPut_cell (by decide), e1, aPut_cell (by decide)]
    have r11 : M5 11 i = if i = L.length then M 7 1 else M 11 i := by rw [e5, aPut_cell (by decide), e4, aPut_row, e3, aPut_cell (by decide), e2, aPut_cell (by decide), e1, aPut_cell (by decide)]
    rw [r8, r9, r10, r11]
    by_cases e : i = L.length
    · rw [if_pos e, if_pos e, if_pos e, if_pos e]
      rw [e, List.getElem?_append_right (Nat.le_refl _), Nat.sub_self] at hi
      have := Option.some.inj hi
      rw [← this]
      exact ⟨rfl, ha, hb, by show (M 7 1).toInt = _; rw [List.take_length]; exact hs.1, hab, hbo, Nat.le_refl _⟩
    · rw [if_neg e, if_neg e, if_neg e, if_neg e]
      have hlt := (List.getElem?_eq_some_iff.mp hi).1
      rw [List.length_append, List.length_singleton] at hlt
      rw [List.getElem?_append_left (by omega)] at hi
      exact h3 i x hi
  · obtain ⟨s1, s2, s3⟩ := hs
    refine ⟨?_, s2, fun i x hi => ?_⟩
    · rw [e5, aPut_at (by decide), e4, aPut_cell (by decide), z1]
      exact s1
    · rw [e5, aPut_cell (by decide), e4, aPut_cell (by decide), e3, aPut_cell (by decide), e2, aPut_cell (by decide), e1, aPut_cell (by decide)]
      exact s3 i x hi
  · funext j
    rw [e5, aPut_cell (by decide), e4, aPut_cell (by decide), e3, aPut_cell (by decide), e2, aPut_cell (by decide), e1, aPut_cell (by decide)]
/-! codes only come behind codes -/
theorem unG_pre {T V : Nat → Int32} {d : Prop} [Decidable d] {k : Nat} {o : List Cd} : ∃ e, (unG T V d k o).2.2 = o ++ e := by
  unfold unG
  split
  · split
    · exact ⟨[], (List.append_nil _).symm⟩
    · exact ⟨_, rfl⟩
  · split
    · exact ⟨_, rfl⟩
    · exact ⟨[], (List.append_nil _).symm⟩
theorem suG_pre {T V : Nat → Int32} : ∀ {n : Nat} {w : Int32} {k : Nat} {o : List Cd}, ∃ e, (suG T V n w k o).2.2 = o ++ e := by
  intro n
  induction n with
  | zero => intro w k o; exact ⟨[], (List.append_nil _).symm⟩
  | succ n ih =>
    intro w k o
    unfold suG
    split
    · split
      · obtain ⟨e1, h1⟩ := unG_pre (T := T) (V := V) (d := T k = kI 47) (k := k + 1) (o := o)
        obtain ⟨e2, h2⟩ := ih (w := w) (k := (unG T V (T k = kI 47) (k + 1) o).2.1) (o := (unG T V (T k = kI 47) (k + 1) o).2.2 ++ mC (T k))
        rw [h2, h1]
        exact ⟨e1 ++ mC (T k) ++ e2, by rw [List.append_assoc, List.append_assoc, List.append_assoc]⟩
      · exact unG_pre
    · split
      · split
        · obtain ⟨e1, h1⟩ := unG_pre (T := T) (V := V) (d := T k = kI 47) (k := k + 1) (o := o ++ wqC w)
          obtain ⟨e2, h2⟩ := ih (w := T k) (k := (unG T V (T k = kI 47) (k + 1) (o ++ wqC w)).2.1) (o := (unG T V (T k = kI 47) (k + 1) (o ++ wqC w)).2.2 ++ mC (T k))
          rw [h2, h1]
          exact ⟨wqC w ++ e1 ++ mC (T k) ++ e2, by simp only [List.append_assoc]⟩
        · obtain ⟨e1, h1⟩ := unG_pre (T := T) (V := V) (d := T k = kI 47) (k := k + 1) (o := o ++ wqC w)
          rw [h1]
          exact ⟨wqC w ++ e1, by rw [List.append_assoc]⟩
      · exact ⟨_, rfl⟩
theorem suP_pre {T V : Nat → Int32} {w s : Int32} {k : Nat} {o : List Cd} {r : Rs} (h : suP T V w s k o r) : ∃ e, r.2.2 = o ++ e := by
  rcases h with ⟨_, e⟩ | ⟨_, _, n, e⟩
  · rw [e]
    exact unG_pre
  · obtain ⟨e1, h1⟩ := unG_pre (T := T) (V := V) (d := s = kI 47) (k := k) (o := o)
    obtain ⟨e2, h2⟩ := suG_pre (T := T) (V := V) (n := n) (w := w) (k := (unG T V (s = kI 47) k o).2.1) (o := (unG T V (s = kI 47) k o).2.2 ++ mC s)
    rw [e, h1] at h2
    rw [h2]
    exact ⟨e1 ++ mC s ++ e2, by simp only [List.append_assoc]⟩
theorem cmR_pre {T V : Nat → Int32} {k : Nat} {o : List Cd} {r : Rs} (h : cmR T V k o r) : ∃ e, r.2.2 = o ++ e := by
  obtain ⟨r1, s1, h⟩ := h
  obtain ⟨e1, p1⟩ := suP_pre s1
  rcases h with ⟨_, e⟩ | ⟨_, h⟩
  · rw [e]; exact ⟨e1, p1⟩
  · rcases h with ⟨_, e⟩ | ⟨_, r2, s2, h⟩
    · rw [e]; exact ⟨e1, p1⟩
    · obtain ⟨e2, p2⟩ := suP_pre s2
      rw [p1] at p2
      rcases h with ⟨_, e⟩ | ⟨_, e⟩
      · rw [e, p2]; exact ⟨e1 ++ e2, by rw [List.append_assoc]⟩
      · rw [e]
        refine ⟨e1 ++ e2 ++ [((T r1.2.1).toInt.toNat - 54, kI 0)], ?_⟩
        show r2.2.2 ++ _ = _
        rw [p2]
        simp only [List.append_assoc]
theorem stO_pre {S : List Nat} {o : List Cd} : (∃ e, (stA S o).2 = o ++ e) ∧ ∃ e, (stO S o).2 = o ++ e :=
  ⟨⟨_, rfl⟩, ⟨rep (lead 10 S) 10 ++ rep (lead 11 (stA S o).1) 11, by show o ++ rep (lead 10 S) 10 ++ _ = _; rw [List.append_assoc]⟩⟩
theorem stM_pre {T V : Nat → Int32} {s t : Sm} (h : stM T V s t) : ∃ e, t.2.2.2.1 = s.2.2.2.1 ++ e := by
  rcases h with ⟨_, h⟩ | ⟨_, h⟩
  · rcases h with ⟨_, _, h⟩ | ⟨_, _, h⟩ | ⟨_, r, c, h⟩
    · rw [h]; exact ⟨[], (List.append_nil _).symm⟩
    · rw [h]; exact ⟨[], (List.append_nil _).symm⟩
    · obtain ⟨e, p⟩ := cmR_pre c
      rcases h with ⟨_, h⟩ | ⟨_, h⟩
      · rw [h]; exact ⟨e, p⟩
      · rw [h]
        refine ⟨e ++ nC (lead 9 s.2.2.1), ?_⟩
        show r.2.2 ++ nC (lead 9 s.2.2.1) = _
        rw [p, List.append_assoc]
  · obtain ⟨⟨e1, p1⟩, ⟨e2, p2⟩⟩ := stO_pre (S := s.2.2.1) (o := s.2.2.2.1)
    rw [h]
    split
    · exact ⟨e1, p1⟩
    · split
      · exact ⟨e2, p2⟩
      · split
        · exact ⟨e2, p2⟩
        · split
          · exact ⟨e2, p2⟩
          · refine ⟨e2 ++ nC (lead 9 (stO s.2.2.1 s.2.2.2.1).1.tail), ?_⟩
            show (stO s.2.2.1 s.2.2.2.1).2 ++ nC (lead 9 (stO s.2.2.1 s.2.2.2.1).1.tail) = _
            rw [p2, List.append_assoc]
theorem sR_pre {T V : Nat → Int32} {s t : Sm} (h : sR T V s t) : ∃ e, t.2.2.2.1 = s.2.2.2.1 ++ e := by
  obtain ⟨n, h⟩ := h
  induction n generalizing s with
  | zero =>
    have h : s = t := h
    rw [h]
    exact ⟨[], (List.append_nil _).symm⟩
  | succ n ih =>
    obtain ⟨u, a, b⟩ := h
    obtain ⟨e1, p1⟩ := stM_pre a
    obtain ⟨e2, p2⟩ := ih b
    rw [p2, p1]
    exact ⟨e1 ++ e2, by rw [List.append_assoc]⟩
theorem take_pre {o e : List Cd} : (o ++ e).take o.length = o := List.take_left ..
/-! the class's line, law -/
def cLn (M N : pMem) (B : Nat → Int32) (n c k : Nat) (o : List Cd) (L : List Ln) (v : Int32) (q : Rl) : Prop :=
  (q.1 = 0 → v = kI 1 ∧ N 6 4 = M 6 4 ∧ N 6 5 = M 6 5 ∧ rdR N B n c q.2.1 ∧ stp N (stC q.2.2.1) ∧ (stC q.2.2.1).length + k ≤ (stC o).length + q.2.1 ∧ q.2.1 ≤ 500 ∧ clL N q.2.2.1 (L ++ q.2.2.2) ∧ q.2.2.2.length = 1) ∧ (q.1 ≠ 0 → rdNo B n N v q.1 q.2.1)
theorem D_175_w {M : pMem} {B : Nat → Int32} {n c k : Nat} {o : List Cd} {L : List Ln} (h : cL M B n c k o) (hk : k ≤ 500) (hL : clL M o L) {p1 v : Int32} {N : pMem} (hp : p1.toInt = L.length) (hT : ¬ yT B n k = kI 101) (hD : D_175 p1 M v N) :
    (¬ (14 ≤ (yT B n k).toInt ∧ (yT B n k).toInt ≤ 19) → rdNo B n N v 1 k) ∧ (14 ≤ (yT B n k).toInt ∧ (yT B n k).toInt ≤ 19 → (¬ L.length < 16 → rdNo B n N v 3 k) ∧ (L.length < 16 → ∃ q, liR (yT B n) (yV B n) k o q ∧ cLn M N B n c k o L v q)) := by
  obtain ⟨h1, h2, h3⟩ := h
  obtain ⟨ht, _, _⟩ := zR_t h1
  have fail : ∀ {f : Nat} {v1 : Int32} {M1 : pMem}, D_173 (kI f) M v1 M1 → v = v1 → N = M1 → rdNo B n N v f k := fun hD hv hN => by
    obtain ⟨r1, r2, r3, r4⟩ := D_173_w h1 hD
    rw [hN, hv]
    exact ⟨r1, r3, r4⟩
  unfold D_175 at hD
  rw [ht] at hD
  rcases hD with ⟨g, v1, M1, hD, hv, hN⟩ | ⟨g, hD⟩
  · rw [i_lt, kI_toInt (by decide) (by decide)] at g
    exact ⟨fun _ => fail (f := 1) hD hv hN, fun q => by omega⟩
  · rw [i_lt, kI_toInt (by decide) (by decide)] at g
    rcases hD with ⟨g2, hD⟩ | ⟨g2, v1, M1, hD, hv, hN⟩
    · rw [i_le, kI_toInt (by decide) (by decide)] at g2
      refine ⟨fun q => absurd ⟨by omega, g2⟩ q, fun _ => ?_⟩
      rcases hD with ⟨g3, M1, e1, v1, M2, h179, hs⟩ | ⟨g3, v1, M1, hD, hv, hN⟩
      · rw [i_lt, hp, kI_toInt (by decide) (by decide)] at g3
        refine ⟨fun q => absurd (by omega) q, fun l16 => ?_⟩
        obtain ⟨b1, b2, b3, b4, b5⟩ := cl_adv h1 h2 hT e1
        have f1 : pFr [(6, 3)] M M1 := fun a j _ _ q => by
          simp only [pOut_cons, pOut_nil, true_or, and_true] at q
          rw [e1]
          by_cases ea : a = 6
          · subst ea
            exact aPut_at (by omega)
          · exact aPut_cell ea
        obtain ⟨r1, s1, c1⟩ := D_179_w ⟨b1, b2, by omega⟩ (by omega) h179
        have f2 := F_179 h179
        have L2 : clL M2 o L := clL_fr (clL_fr hL f1 (by decide +kernel)) f2 (by decide +kernel)
        have p71 : (M1 7 1).toInt = (stC o).length := b2.1
        rcases hs with ⟨g4, hs⟩ | ⟨g4, hv, hN⟩
        · have r0 := cX_ok c1 g4
          obtain ⟨a1, a2, a3, a4, a5, a6, a7, a8⟩ := c1.1 r0
          obtain ⟨d1, pre1⟩ := suP_pre s1
          obtain ⟨ht2, _, _⟩ := zR_t a4
          have L2' : clL M2 r1.2.2 L := by rw [pre1]; exact clL_more L2
          have st0 : (stC (r1.2.2.take o.length)).length = (stC o).length := by rw [pre1, take_pre]
          have p72 : (M2 7 1).toInt = (stC r1.2.2).length := a5.1
          -- the end of the line
          have tl : ∀ {k2 : Nat} {o2 : List Cd} {d2 : List Cd} {M3 M4 : pMem} {w : Unit} {v3 : Int32}, rdR M3 B n c k2 → stp M3 (stC o2) → clL M3 o2 L → o2 = r1.2.2 ++ d2 → M3 6 4 = M 6 4 → M3 6 5 = M 6 5 → (stC o2).length + k ≤ (stC o).length + k2 → k2 ≤ 500 → (∀ r, tailR (yT B n) k2 o2 (yT B n k, o.length, r1.2.2.length, o2.length) r → liR (yT B n) (yV B n) k o r) →
              D_156 7 (yT B n k) (M1 7 1) (M2 7 1) M3 w M4 → D_176 (kI 59) (kI 59) M4 v3 N → v = v3 → ∃ q, liR (yT B n) (yV B n) k o q ∧ cLn M N B n c k o L v q := by
            intro k2 o2 d2 M3 M4 w v3 t1 t2 t3 t4 t5 t6 t7 t8 t9 h156 h176 hv
            have pre2 : o2 = o ++ (d1 ++ d2) := by rw [t4, pre1, List.append_assoc]
            obtain ⟨x1, x2, x3⟩ := D_156_w (pa := o.length) (pb := r1.2.2.length) t3 l16 (by rw [p71, pre2, take_pre]) (by rw [p72, t4, take_pre]) (by rw [pre1, List.length_append]; omega) (by rw [t4, List.length_append]; omega) t2 h156
            have f156 := F_156 (show pK 2 7 = true by decide +kernel) h156
            have rd4 : rdR M4 B n c k2 := zR_fr t1 f156 (fun j => rfl) (by rw [x3]; exact t1.2.2.2.2.1)
            obtain ⟨w1, w2⟩ := D_176_w rd4 (b := kI 59) (by decide) h176
            rw [kI_toInt (by decide) (by decide)] at w1 w2
            by_cases sg : yT B n k2 = kI 59
            · have sg' : 59 ≤ (yT B n k2).toInt ∧ (yT B n k2).toInt ≤ 59 := by rw [sg, kI_toInt (by decide) (by decide)]; decide
              obtain ⟨z1, z2, z3, z4⟩ := w1 sg'
              obtain ⟨y1, y2⟩ := D_176_k rd4 x2 h176 z2
              have kk : k2 < 500 := zR_k rd4 (fun e => by rw [e] at sg; exact absurd sg (by decide))
              refine ⟨(0, k2 + 1, o2, [(yT B n k, o.length, r1.2.2.length, o2.length)]), t9 _ (Or.inl ⟨sg, rfl⟩), fun _ => ⟨hv.trans z1, by rw [z3, x3, t5], by rw [z4, x3, t6], y1, y2, by show (stC o2).length + k ≤ (stC o).length + (k2 + 1); omega, by show k2 + 1 ≤ 500; omega, clL_fr x1 (F_176 h176) (by decide +kernel), rfl⟩, fun e => absurd rfl e⟩
            · have sg' : ¬ (59 ≤ (yT B n k2).toInt ∧ (yT B n k2).toInt ≤ 59) := fun q => sg (kI_inj (by omega))
              have no := w2 sg'
              exact ⟨(1, k2, o2, []), t9 _ (Or.inr ⟨sg, rfl⟩), fun e => absurd e (show ¬ (1 : Nat) = 0 by decide), fun _ => ⟨hv.trans no.1, no.2.1, no.2.2⟩⟩
          rw [ht2] at hs
          rcases hs with ⟨g5, w, M3, h156, v3, M4, h176, hv, hN⟩ | ⟨g5, M3, e3, v2, M4, h177, hs⟩
          · subst hN
            refine tl (d2 := []) a4 a5 L2' (List.append_nil _).symm (a2.trans b3) (a3.trans b4) (by omega) a8 (fun r hr => ⟨r1, s1, Or.inr ⟨r0, Or.inl ⟨g5, hr⟩⟩⟩) h156 h176 hv
          · have t20 := Classical.not_not.mp g5
            obtain ⟨c1', c2', c3', c4', c5'⟩ := cl_adv a4 a5 (by rw [t20]; decide) e3
            have f3 : pFr [(6, 3)] M2 M3 := fun a j _ _ q => by
              simp only [pOut_cons, pOut_nil, true_or, and_true] at q
              rw [e3]
              by_cases ea : a = 6
              · subst ea
                exact aPut_at (by omega)
              · exact aPut_cell ea
            have f4 := F_177 h177
            have L4 : clL M4 r1.2.2 L := clL_fr (clL_fr L2' f3 (by decide +kernel)) f4 (by decide +kernel)
            have any := D_177_w (B := B) (n := n) (c := c) h177 (r1.2.1 + 1) r1.2.2 [] c1' c2' (by omega) (by omega) rfl (by decide) (Or.inl rfl)
            rcases any with ⟨k', o', W, hW, m1, m2, m3, q1, q2, q3, q4, q5, q6, q7, q8⟩ | ⟨k', S', o', f, m1, m2, m3⟩
            · have hs := tIf_p (show ¬ v2 = 0 by rw [q1]; decide) hs
              obtain ⟨w, M5, h156, v4, M6, h176, hv, hN⟩ := hs
              subst hN
              have so := stO_W (o := o') hW (Or.inl rfl : top12 [])
              have acc : sR (yT B n) (yV B n) (0, r1.2.1 + 1, [], r1.2.2, 0) (2, k', [], o' ++ sW W, 0) := by
                refine sR_tr m1 (sR_one (Or.inr ⟨rfl, ?_⟩))
                show _ = if yT B n k' = kI 22 then _ else if yT B n k' = kI 21 then _ else if ¬ 12 ∈ (stO (W ++ []) o').1 then _ else _
                rw [if_neg m2, if_neg m3, so, if_pos (List.not_mem_nil)]
              obtain ⟨d2, pre2⟩ := sR_pre acc
              have pre2 : o' ++ sW W = r1.2.2 ++ d2 := pre2
              refine tl (o2 := o' ++ sW W) (d2 := d2) q4 q5 (by rw [pre2]; exact clL_more L4) pre2 (q2.trans (c3'.trans (a2.trans b3))) (q3.trans (c4'.trans (a3.trans b4))) (by omega) (by omega) (fun r hr => ⟨r1, s1, Or.inr ⟨r0, Or.inr ⟨t20, _, acc, Or.inr ⟨rfl, hr⟩⟩⟩⟩) h156 h176 hv
            · obtain ⟨hv, hN⟩ := tIf_n (nn (show v2 = 0 from m3.1)) hs
              exact ⟨(f, k', o', []), ⟨r1, s1, Or.inr ⟨r0, Or.inr ⟨t20, _, m1, Or.inl ⟨rfl, rfl⟩⟩⟩⟩, fun e => absurd e m2, fun _ => ⟨hv, by rw [hN]; exact m3.2.1, by rw [hN]; exact m3.2.2⟩⟩
        · have r1' := cX_no c1 (Classical.not_not.mp g4)
          obtain ⟨d1, d2, d3⟩ := c1.2 r1'
          exact ⟨(r1.1, r1.2.1, r1.2.2, []), ⟨r1, s1, Or.inl ⟨r1', rfl⟩⟩, fun e => absurd e r1', fun _ => ⟨hv, by rw [hN]; exact d2, by rw [hN]; exact d3⟩⟩
      · rw [i_lt, hp, kI_toInt (by decide) (by decide)] at g3
        exact ⟨fun _ => fail (f := 3) hD hv hN, fun q => by omega⟩
    · rw [i_le, kI_toInt (by decide) (by decide)] at g2
      exact ⟨fun _ => fail (f := 1) hD hv hN, fun q => by omega⟩
/-- a law of the class -/
def clLaw (N : pMem) (l : Nat) (o : List Cd) (L : List Ln) : Prop := (N l 0).toInt = L.length ∧ L.length ≤ 16 ∧ (stC o).length ≤ 500 ∧ (∀ i x, (stC o)[i]? = some x → N (l + 5) i = x) ∧
  ∀ i x, L[i]? = some x → N (l + 1) i = x.1 ∧ (N (l + 2) i).toInt = (stC (o.take x.2.1)).length ∧ (N (l + 3) i).toInt = (stC (o.take x.2.2.1)).length ∧ (N (l + 4) i).toInt = (stC (o.take x.2.2.2)).length ∧ x.2.1 ≤ x.2.2.1 ∧ x.2.2.1 ≤ x.2.2.2 ∧ x.2.2.2 ≤ o.length
def q174 (B : Nat → Int32) (n c l : Nat) (x2 : Int32) (M : pMem) (v : Int32) (N : pMem) : Prop := ∀ (m k : Nat) (o : List Cd) (L : List Ln), x2.toInt = L.length → m + L.length = 16 → cL M B n c k o → k ≤ 500 → clL M o L →
  ∃ r, laR (yT B n) (yV B n) m k o r ∧ (r.1 = 0 → v.toInt = ((L ++ r.2.2.2).length : Nat) ∧ N 6 4 = M 6 4 ∧ N 6 5 = M 6 5 ∧ clLaw N l r.2.2.1 (L ++ r.2.2.2)) ∧ (r.1 ≠ 0 → v = kI (-1) ∧ N 6 4 = kI r.1 ∧ N 6 5 = kI (xSt B n r.2.1))
theorem S_174_1w {B : Nat → Int32} {n c l : Nat} (hl : 30 ≤ l) {P1 : Int32 → pMem → pT Int32} (hP : ∀ x2 M v N, P1 x2 M v N → q174 B n c l x2 M v N) {x2 : Int32} {M : pMem} {v : Int32} {N : pMem} (hs : S_174_1 l P1 x2 M v N) : q174 B n c l x2 M v N := by
  intro m k o L hx hm h hk hL
  obtain ⟨ht, _, _⟩ := zR_t h.1
  have hs := tIf_n (show ¬ kI 16 < x2 by rw [i_lt, hx, kI_toInt (by decide) (by decide)]; omega) hs
  rw [ht] at hs
  rcases hs with ⟨g, u, M1, h153, hv, hN⟩ | ⟨g, v1, M1, h175, hs⟩
  · obtain ⟨a1, a2, a3, a4⟩ := D_153_w (by omega) h153
    refine ⟨(0, k, o, []), ?_, fun _ => ⟨?_, ?_, ?_, ?_⟩, fun e => absurd rfl e⟩
    · cases m with
      | zero => exact Or.inl ⟨g, rfl⟩
      | succ m => exact Or.inl ⟨g, rfl⟩
    · rw [hv, a4 7 (by omega), List.append_nil]
      exact hL.1
    · rw [hN, a4 6 (by omega)]
    · rw [hN, a4 6 (by omega)]
    · obtain ⟨b1, b2, b3⟩ := hL
      obtain ⟨s1, s2, s3⟩ := h.2.1
      show clLaw N l o (L ++ [])
      rw [List.append_nil, hN]
      refine ⟨by rw [a1 0 (by omega)]; exact b1, b2, s2, fun i x hi => ?_, fun i x hi => ?_⟩
      · have := (List.getElem?_eq_some_iff.mp hi).1
        rw [a3 i (by omega)]
        exact s3 i x hi
      · have := (List.getElem?_eq_some_iff.mp hi).1
        obtain ⟨c1, c2, c3, c4⟩ := a2 i (by omega)
        rw [c1, c2, c3, c4]
        exact b3 i x hi
  · obtain ⟨w1, w2⟩ := D_175_w h hk hL hx g h175
    have bad : ∀ {f k' : Nat} {o' : List Cd}, rdNo B n M1 v1 f k' → f ≠ 0 → laR (yT B n) (yV B n) m k o (f, k', o', []) → ∃ r, laR (yT B n) (yV B n) m k o r ∧ (r.1 = 0 → v.toInt = ((L ++ r.2.2.2).length : Nat) ∧ N 6 4 = M 6 4 ∧ N 6 5 = M 6 5 ∧ clLaw N l r.2.2.1 (L ++ r.2.2.2)) ∧ (r.1 ≠ 0 → v = kI (-1) ∧ N 6 4 = kI r.1 ∧ N 6 5 = kI (xSt B n r.2.1)) := by
      intro f k' o' hno hf hla
      obtain ⟨hv, hN⟩ := tIf_n (nn (show v1 = 0 from hno.1)) hs
      exact ⟨_, hla, fun e => absurd e hf, fun _ => ⟨hv, by rw [hN]; exact hno.2.1, by rw [hN]; exact hno.2.2⟩⟩
    by_cases wd : 14 ≤ (yT B n k).toInt ∧ (yT B n k).toInt ≤ 19
    · obtain ⟨w3, w4⟩ := w2 wd
      cases m with
      | zero => exact bad (w3 (by omega)) (by decide) (Or.inr ⟨g, Or.inr ⟨wd, rfl⟩⟩)
      | succ m =>
        obtain ⟨q, l1, l2, l3⟩ := w4 (by omega)
        by_cases q0 : q.1 = 0
        · obtain ⟨z1, z2, z3, z4, z5, z6, z7, z8, z9⟩ := l2 q0
          have hs := tIf_p (show ¬ v1 = 0 by rw [z1]; decide) hs
          obtain ⟨r, r1, r2, r3⟩ := hP _ _ _ _ hs m q.2.1 q.2.2.1 (L ++ q.2.2.2) (by rw [i_add1 (by omega), hx, List.length_append, z9]; omega) (by rw [List.length_append, z9]; omega) ⟨z4, z5, by have := h.2.2; omega⟩ z7 z8
          refine ⟨(r.1, r.2.1, r.2.2.1, q.2.2.2 ++ r.2.2.2), Or.inr ⟨g, Or.inr ⟨wd, q, l1, Or.inr ⟨q0, r, r1, rfl⟩⟩⟩, fun e => ?_, r3⟩
          obtain ⟨y1, y2, y3, y4⟩ := r2 e
          rw [← List.append_assoc]
          exact ⟨y1, y2.trans z2, y3.trans z3, y4⟩
        · exact bad (l3 q0) q0 (Or.inr ⟨g, Or.inr ⟨wd, q, l1, Or.inl ⟨q0, rfl⟩⟩⟩)
    · refine bad (o' := o) (w1 wd) (by decide) ?_
      · cases m with
        | zero => exact Or.inr ⟨g, Or.inl ⟨wd, rfl⟩⟩
        | succ m => exact Or.inr ⟨g, Or.inl ⟨wd, rfl⟩⟩
theorem D_174_w {M : pMem} {B : Nat → Int32} {n c l : Nat} (hl : 30 ≤ l) (h : rdR M B n c 0) {v : Int32} {N : pMem} (hD : D_174 l M v N) :
    ∃ r, laR (yT B n) (yV B n) 16 0 [] r ∧ (r.1 = 0 → v.toInt = (r.2.2.2.length : Nat) ∧ N 6 4 = M 6 4 ∧ N 6 5 = M 6 5 ∧ clLaw N l r.2.2.1 r.2.2.2) ∧ (r.1 ≠ 0 → v = kI (-1) ∧ N 6 4 = kI r.1 ∧ N 6 5 = kI (xSt B n r.2.1)) := by
  obtain ⟨_, M1, ⟨Ma, ea, Mb, eb, _, hM⟩, hD⟩ := hD
  have q : q174 B n c l (kI 0) M1 v N := hD (q174 B n c l) (fun _ _ _ _ hs => S_174_1w hl (fun _ _ _ _ h => h) hs)
  have f : pFr [(7, 0), (7, 1)] M M1 := fun a j _ _ q => by
    simp only [pOut_cons, pOut_nil, true_or, and_true] at q
    rw [hM, eb, ea]
    by_cases e7 : a = 7
    · subst e7
      rw [aPut_at (by omega), aPut_at (by omega)]
    · rw [aPut_cell e7, aPut_cell e7]
  have z0 : M1 7 0 = kI 0 := by rw [hM, eb, aPut_at (by decide), ea, aPut_same]
  have z1 : M1 7 1 = kI 0 := by rw [hM, eb, aPut_same]
  have s6 : M1 6 4 = M 6 4 ∧ M1 6 5 = M 6 5 ∧ M1 6 3 = M 6 3 := ⟨f 6 4 (by decide) rfl (by simp only [pOut_cons, pOut_nil, true_or, and_true]; omega), f 6 5 (by decide) rfl (by simp only [pOut_cons, pOut_nil, true_or, and_true]; omega), f 6 3 (by decide) rfl (by simp only [pOut_cons, pOut_nil, true_or, and_true]; omega)⟩
  obtain ⟨r, r1, r2, r3⟩ := q 16 0 [] [] rfl rfl ⟨zR_fr h f (fun j => rfl) (by rw [s6.2.2]; exact h.2.2.2.2.1), ⟨by rw [z1]; rfl, by decide, fun i x hi => by cases hi⟩, by decide⟩ (by decide) ⟨by rw [z0]; rfl, by decide, fun i x hi => by cases hi⟩
  refine ⟨r, r1, fun e => ?_, r3⟩
  obtain ⟨a1, a2, a3, a4⟩ := r2 e
  rw [List.nil_append] at a1 a4
  exact ⟨a1, a2.trans s6.1, a3.trans s6.2.1, a4⟩
/-! the reference's lines, law -/
def rlL (M : pMem) (o : List Cd) (L : List Ln) : Prop := ∀ i x, L[i]? = some x → (M 205 (64 + i)).toInt + 14 = x.1.toInt ∧ (M 206 (64 + i)).toInt = (rcO (o.take x.2.1)).length ∧ (M 207 (64 + i)).toInt = (rcO (o.take x.2.2.1)).length ∧ (M 208 (64 + i)).toInt = (rcO (o.take x.2.2.2)).length ∧ x.2.1 ≤ x.2.2.1 ∧ x.2.2.1 ≤ x.2.2.2 ∧ x.2.2.2 ≤ o.length
theorem rlL_more {M : pMem} {o o' : List Cd} {L : List Ln} (h : rlL M o L) : rlL M (o ++ o') L := by
  intro i x hi
  obtain ⟨a1, a2, a3, a4, a5, a6, a7⟩ := h i x hi
  have t : ∀ p, p ≤ o.length → (o ++ o').take p = o.take p := fun p hp => List.take_append_of_le_length hp
  rw [t _ (by omega), t _ (by omega), t _ (by omega), List.length_append]
  exact ⟨a1, a2, a3, a4, a5, a6, by omega⟩
theorem rlL_eq {M N : pMem} {o : List Cd} {L : List Ln} (h : rlL M o L) (e : ∀ i, i < L.length → N 205 (64 + i) = M 205 (64 + i) ∧ N 206 (64 + i) = M 206 (64 + i) ∧ N 207 (64 + i) = M 207 (64 + i) ∧ N 208 (64 + i) = M 208 (64 + i)) : rlL N o L := by
  intro i x hi
  obtain ⟨e1, e2, e3, e4⟩ := e i (List.getElem?_eq_some_iff.mp hi).1
  rw [e1, e2, e3, e4]
  exact h i x hi
def q77 (B : Nat → Int32) (n : Nat) (x1 : Int32) (M : pMem) (v : Int32) (N : pMem) : Prop := ∀ (m k : Nat) (o : List Cd) (L : List Ln), x1.toInt = L.length → m + L.length = 16 → rR M B n k → rcd M (rcO o) → M 188 39 = kI 0 → rlL M o L →
  ∃ r, laR (yT B n) (yV B n) m k o r ∧ (r.1 = 0 → v.toInt = ((L ++ r.2.2.2).length : Nat) ∧ rcd N (rcO r.2.2.1) ∧ rlL N r.2.2.1 (L ++ r.2.2.2)) ∧ (r.1 ≠ 0 → rNo B n N v r.1 r.2.1)
theorem S_77_1w {B : Nat → Int32} {n : Nat} {P1 : Int32 → pMem → pT Int32} (hP : ∀ x1 M v N, P1 x1 M v N → q77 B n x1 M v N) {x1 : Int32} {M : pMem} {v : Int32} {N : pMem} (hs : S_77_1 P1 x1 M v N) : q77 B n x1 M v N := by
  intro m k o L hx hm hr hc hop hL
  have c := xRel_c (rR_t hr).1
  have e2 : M 188 27 = kI 2 ↔ (M 188 27).toInt = 2 := yk (by decide) (by decide)
  have e0 : M 188 27 = 0 ↔ (M 188 27).toInt = 0 := by rw [i_eq, i_0]
  have e5 : kI 5 < M 188 28 ↔ 5 < (M 188 28).toInt := by rw [i_lt, kI_toInt (by decide) (by decide)]
  have t101 : yT B n k = kI 101 ↔ (yT B n k).toInt = 101 := yk (by decide) (by decide)
  -- no word that begins a line
  have other : ¬ (14 ≤ (yT B n k).toInt ∧ (yT B n k).toInt ≤ 19) → (tIf (¬ (M 188 27) = 0) (tCall (D_66 (kI 1) M) fun v1 M1 => tRet v1 M1) (tRet x1 M)) v N →
      ∃ r, laR (yT B n) (yV B n) m k o r ∧ (r.1 = 0 → v.toInt = ((L ++ r.2.2.2).length : Nat) ∧ rcd N (rcO r.2.2.1) ∧ rlL N r.2.2.1 (L ++ r.2.2.2)) ∧ (r.1 ≠ 0 → rNo B n N v r.1 r.2.1) := by
    rintro wd (⟨g, v1, M1, h66, hv, hN⟩ | ⟨g, hv, hN⟩)
    · rw [e0] at g
      have n101 : ¬ yT B n k = kI 101 := by
        rw [t101]
        rcases c with c | c | ⟨r, _, c⟩ | c | c <;> omega
      refine ⟨(1, k, o, []), ?_, fun e => absurd e (show ¬ (1 : Nat) = 0 by decide), fun _ => by rw [hv, hN]; exact D_66_w (f := 1) hr h66⟩
      cases m with
      | zero => exact Or.inr ⟨n101, Or.inl ⟨wd, rfl⟩⟩
      | succ m => exact Or.inr ⟨n101, Or.inl ⟨wd, rfl⟩⟩
    · have g := e0.mp (Classical.not_not.mp g)
      have is101 : yT B n k = kI 101 := by
        rw [t101]
        rcases c with c | c | ⟨r, _, c⟩ | c | c <;> omega
      refine ⟨(0, k, o, []), ?_, fun _ => ?_, fun e => absurd rfl e⟩
      · cases m with
        | zero => exact Or.inl ⟨is101, rfl⟩
        | succ m => exact Or.inl ⟨is101, rfl⟩
      · show v.toInt = ((L ++ []).length : Nat) ∧ rcd N (rcO o) ∧ rlL N o (L ++ [])
        rw [hv, hN, List.append_nil]
        exact ⟨hx, hc, hL⟩
  rcases hs with ⟨g, hs⟩ | ⟨g, hs⟩
  · rw [e2] at g
    refine other (fun q => ?_) hs
    rcases c with c | c | ⟨r, _, c⟩ | c | c <;> omega
  · have g := e2.mp (Classical.not_not.mp g)
    obtain ⟨r, r29, cT, cx, _, cv⟩ : ∃ r : Nat, r < 29 ∧ (yT B n k).toInt = xCw r ∧ xCw r < 29 ∧ (M 188 27).toInt = 2 ∧ (M 188 28).toInt = r := by
      rcases c with c | c | c | c | c
      · omega
      · omega
      · exact c
      · omega
      · omega
    have cw := xCw_pl r r29
    rcases hs with ⟨g2, hs⟩ | ⟨g2, hs⟩
    · rw [e5] at g2
      refine other (fun q => ?_) hs
      have : ¬ r ≤ 5 := by omega
      exact this (cw.2.2.1.mpr ⟨by omega, by omega⟩)
    · rw [e5] at g2
      have r5 : r ≤ 5 := by omega
      have wd' := cw.2.2.1.mp r5
      have wr := cw.2.2.2.1 r5
      have wd : 14 ≤ (yT B n k).toInt ∧ (yT B n k).toInt ≤ 19 := by omega
      have n101 : ¬ yT B n k = kI 101 := by rw [t101]; omega
      rcases hs with ⟨g3, hs⟩ | ⟨g3, v1, M1, h66, hv, hN⟩
      · have l16 : L.length < 16 := by
          rw [yk (by decide) (by decide), hx] at g3
          omega
        cases m with
        | zero => omega
        | succ m =>
          obtain ⟨_, M1, e1, u1, M2, h65, _, M3, e3, v2, M4, h72, hs⟩ := hs
          have ei : ix (kI 64 + x1) = 64 + L.length := ix_of (by rw [i_add (by rw [kI_toInt (by decide) (by decide)]; omega) (by rw [kI_toInt (by decide) (by decide)]; omega), kI_toInt (by decide) (by decide), hx]; omega)
          rw [ei] at e1 e3 hs
          have f1 : pFr [(205, 999)] M M1 := fun a j _ _ q => by
            simp only [pOut_cons, pOut_nil, true_or, and_true] at q
            rw [e1, aPut_cell (by omega)]
          have f2 := F_65 h65
          have f3 : pFr [(206, 999)] M2 M3 := fun a j _ _ q => by
            simp only [pOut_cons, pOut_nil, true_or, and_true] at q
            rw [e3, aPut_cell (by omega)]
          have f4 := F_72 h72
          obtain ⟨c2, r2⟩ := D_65_c (rcd_fr hc f1 (by decide +kernel)) (rR_fr hr f1 rfl (fun j => rfl)) h65
          obtain ⟨r1, s1, x1e⟩ := D_72_w (rR_fr r2 f3 rfl (fun j => rfl)) (rcd_fr c2 f3 (by decide +kernel)) h72
          have op3 : M4 188 39 = kI 0 := by
            rw [f4 188 39 (by decide) rfl (by simp only [l_72, pOut_cons, pOut_nil, true_or, and_true]; omega), e3, aPut_cell (by decide), f2 188 39 (by decide) rfl (by simp only [l_65, pOut_cons, pOut_nil, true_or, and_true]; omega), e1, aPut_cell (by decide)]
            exact hop
          -- the draft's rows so far
          have row4 : ∀ a j, (a = 205 ∨ a = 206 ∨ a = 207 ∨ a = 208) → M4 a j = if a = 205 ∧ j = 64 + L.length then M 188 28 else if a = 206 ∧ j = 64 + L.length then M2 188 38 else M a j := by
            intro a j ha
            rw [f4 a j (by omega) (by rcases ha with rfl | rfl | rfl | rfl <;> rfl) (by simp only [l_72, pOut_cons, pOut_nil, true_or, and_true]; omega), e3]
            have m2 : M2 a j = M1 a j := f2 a j (by omega) (by rcases ha with rfl | rfl | rfl | rfl <;> rfl) (by simp only [l_65, pOut_cons, pOut_nil, true_or, and_true]; omega)
            by_cases a6 : a = 206
            · subst a6
              rw [aPut_row, m2, e1, aPut_cell (by decide), if_neg (show ¬ ((206 : Nat) = 205 ∧ j = 64 + L.length) from fun q => absurd q.1 (by decide))]
              by_cases q : j = 64 + L.length
              · rw [if_pos q, if_pos ⟨rfl, q⟩]
              · rw [if_neg q, if_neg (fun p => q p.2)]
            · rw [aPut_cell a6, m2, e1]
              by_cases a5 : a = 205
              · subst a5
                rw [aPut_row]
                by_cases q : j = 64 + L.length
                · rw [if_pos q, if_pos ⟨rfl, q⟩]
                · rw [if_neg q, if_neg (fun p => q p.2), if_neg (fun p => absurd p.1 (by decide))]
              · rw [aPut_cell a5, if_neg (fun p => a5 p.1), if_neg (fun p => a6 p.1)]
          have p1 : (M2 188 38).toInt = (rcO o).length := c2.1
          rcases hs with ⟨g4, _, M5, e5', hs⟩ | ⟨g4, hv, hN⟩
          · have r0 := rE_ok x1e g4
            obtain ⟨_, a2, a3⟩ := x1e.1 r0
            obtain ⟨d1, pre1⟩ := suP_pre s1
            have f5 : pFr [(207, 999)] M4 M5 := fun a j _ _ q => by
              simp only [pOut_cons, pOut_nil, true_or, and_true] at q
              rw [e5', aPut_cell (by omega)]
            have rr5 : rR M5 B n r1.2.1 := rR_fr a2 f5 rfl (fun j => rfl)
            have cc5 : rcd M5 (rcO r1.2.2) := rcd_fr a3 f5 (by decide +kernel)
            have p2 : (M4 188 38).toInt = (rcO r1.2.2).length := a3.1
            have w20 := rR_wd rr5 (r := 11) (by decide)
            have x11 : (xCw 11 : Int) = 20 := rfl
            rw [x11] at w20
            -- the end of the line: at X, before the last row is written
            have tl : ∀ {k2 : Nat} {o2 d2 : List Cd} {X Y : pMem}, rR X B n k2 → rcd X (rcO o2) → o2 = r1.2.2 ++ d2 → X 188 39 = kI 0 → (∀ a j, (a = 205 ∨ a = 206 ∨ a = 207 ∨ a = 208) → X a j = M5 a j) → (∀ q, tailR (yT B n) k2 o2 (yT B n k, o.length, r1.2.2.length, o2.length) q → liR (yT B n) (yV B n) k o q) → Y = aPut X 208 (64 + L.length) (X 188 38) →
                (tIf (¬ (f_68 (kI 59) Y) = 0) (tCall (D_65 Y) fun _ M7 => P1 (x1 + (kI 1)) M7) (tCall (D_66 (kI 1) Y) fun v3 M7 => tRet v3 M7)) v N →
                ∃ r, laR (yT B n) (yV B n) (m + 1) k o r ∧ (r.1 = 0 → v.toInt = ((L ++ r.2.2.2).length : Nat) ∧ rcd N (rcO r.2.2.1) ∧ rlL N r.2.2.1 (L ++ r.2.2.2)) ∧ (r.1 ≠ 0 → rNo B n N v r.1 r.2.1) := by
              intro k2 o2 d2 X Y t1 t2 t3 t4 t5 t6 eY hs
              have fY : pFr [(208, 999)] X Y := fun a j _ _ q => by
                simp only [pOut_cons, pOut_nil, true_or, and_true] at q
                rw [eY, aPut_cell (by omega)]
              have rY : rR Y B n k2 := rR_fr t1 fY rfl (fun j => rfl)
              have cY : rcd Y (rcO o2) := rcd_fr t2 fY (by decide +kernel)
              have s59 := rR_sg rY (s := 59) (by decide) (by decide)
              have pre2 : o2 = o ++ (d1 ++ d2) := by rw [t3, pre1, List.append_assoc]
              rcases hs with ⟨g6, u7, M7, h65b, hs⟩ | ⟨g6, v3, M7, h66, hv, hN⟩
              · have t59 := s59.mp g6
                obtain ⟨y1, y2⟩ := D_65_c cY rY h65b
                have f7 := F_65 h65b
                have ln := t6 _ (Or.inl ⟨t59, rfl⟩)
                -- the rows with the new line
                have rows : rlL M7 o2 (L ++ [(yT B n k, o.length, r1.2.2.length, o2.length)]) := by
                  have r7 : ∀ a j, (a = 205 ∨ a = 206 ∨ a = 207 ∨ a = 208) → M7 a j = Y a j := fun a j ha => f7 a j (by omega) (by rcases ha with rfl | rfl | rfl | rfl <;> rfl) (by simp only [l_65, pOut_cons, pOut_nil, true_or, and_true]; omega)
                  have r5 : ∀ j, M7 205 j = if j = 64 + L.length then M 188 28 else M 205 j := fun j => by
                    rw [r7 205 j (by omega), eY, aPut_cell (by decide), t5 205 j (by omega), e5', aPut_cell (by decide), row4 205 j (by omega)]
                    by_cases q : j = 64 + L.length
                    · rw [if_pos ⟨rfl, q⟩, if_pos q]
                    · rw [if_neg (fun p => q p.2), if_neg (fun p => q p.2), if_neg q]
                  have r6 : ∀ j, M7 206 j = if j = 64 + L.length then M2 188 38 else M 206 j := fun j => by
                    rw [r7 206 j (by omega), eY, aPut_cell (by decide), t5 206 j (by omega), e5', aPut_cell (by decide), row4 206 j (by omega), if_neg (fun p => absurd p.1 (by decide))]
                    by_cases q : j = 64 + L.length
                    · rw [if_pos ⟨rfl, q⟩, if_pos q]
                    · rw [if_neg (fun p => q p.2), if_neg q]
                  have r7' : ∀ j, M7 207 j = if j = 64 + L.length then M4 188 38 else M 207 j := fun j => by
                    rw [r7 207 j (by omega), eY, aPut_cell (by decide), t5 207 j (by omega), e5', aPut_row]
                    by_cases q : j = 64 + L.length
                    · rw [if_pos q, if_pos q]
                    · rw [if_neg q, if_neg q, row4 207 j (by omega), if_neg (fun p => absurd p.1 (by decide)), if_neg (fun p => absurd p.1 (by decide))]
                  have r8 : ∀ j, M7 208 j = if j = 64 + L.length then X 188 38 else M 208 j := fun j => by
                    rw [r7 208 j (by omega), eY, aPut_row]
                    by_cases q : j = 64 + L.length
                    · rw [if_pos q, if_pos q]
                    · rw [if_neg q, if_neg q, t5 208 j (by omega), e5', aPut_cell (by decide), row4 208 j (by omega), if_neg (fun p => absurd p.1 (by decide)), if_neg (fun p => absurd p.1 (by decide))]
                  have old : rlL M7 o2 L := by
                    rw [pre2]
                    refine rlL_more (rlL_eq hL fun i hi => ?_)
                    rw [r5, r6, r7', r8, if_neg (by omega), if_neg (by omega), if_neg (by omega), if_neg (by omega)]
                    exact ⟨rfl, rfl, rfl, rfl⟩
                  intro i x hi
                  by_cases e : i = L.length
                  · rw [e, List.getElem?_append_right (Nat.le_refl _), Nat.sub_self] at hi
                    have := Option.some.inj hi
                    rw [← this, e, r5, r6, r7', r8, if_pos rfl, if_pos rfl, if_pos rfl, if_pos rfl]
                    refine ⟨by show (M 188 28).toInt + 14 = (yT B n k).toInt; omega, ?_, ?_, ?_, ?_, ?_, Nat.le_refl _⟩
                    · show (M2 188 38).toInt = (rcO (o2.take o.length)).length
                      rw [p1, pre2, take_pre]
                    · show (M4 188 38).toInt = (rcO (o2.take r1.2.2.length)).length
                      rw [p2, t3, take_pre]
                    · show (X 188 38).toInt = (rcO (o2.take o2.length)).length
                      rw [List.take_length]
                      exact t2.1
                    · show o.length ≤ r1.2.2.length
                      rw [pre1, List.length_append]
                      omega
                    · show r1.2.2.length ≤ o2.length
                      rw [t3, List.length_append]
                      omega
                  · have hlt := (List.getElem?_eq_some_iff.mp hi).1
                    rw [List.length_append, List.length_singleton] at hlt
                    rw [List.getElem?_append_left (by omega)] at hi
                    exact old i x hi
                obtain ⟨r, z1, z2, z3⟩ := hP _ _ _ _ hs m (k2 + 1) o2 _ (by rw [i_add1 (by omega), hx, List.length_append, List.length_singleton]; omega) (by rw [List.length_append, List.length_singleton]; omega) y2 y1 (by rw [f7 188 39 (by decide) rfl (by simp only [l_65, pOut_cons, pOut_nil, true_or, and_true]; omega), eY, aPut_cell (by decide)]; exact t4) rows
                refine ⟨(r.1, r.2.1, r.2.2.1, [(yT B n k, o.length, r1.2.2.length, o2.length)] ++ r.2.2.2), Or.inr ⟨n101, Or.inr ⟨wd, _, ln, Or.inr ⟨rfl, r, z1, rfl⟩⟩⟩, fun e => ?_, z3⟩
                obtain ⟨w1, w2, w3⟩ := z2 e
                show v.toInt = ((L ++ ([_] ++ r.2.2.2)).length : Nat) ∧ rcd N (rcO r.2.2.1) ∧ rlL N r.2.2.1 (L ++ ([_] ++ r.2.2.2))
                rw [← List.append_assoc]
                exact ⟨w1, w2, w3⟩
              · have n59 : ¬ yT B n k2 = kI 59 := fun e => g6 (s59.mpr e)
                have ln := t6 _ (Or.inr ⟨n59, rfl⟩)
                exact ⟨(1, k2, o2, []), Or.inr ⟨n101, Or.inr ⟨wd, _, ln, Or.inl ⟨show (1 : Nat) ≠ 0 by decide, rfl⟩⟩⟩, fun e => absurd e (show ¬ (1 : Nat) = 0 by decide), fun _ => by rw [hv, hN]; exact D_66_w (f := 1) rY h66⟩
            rcases hs with ⟨g5, hs⟩ | ⟨g5, hs⟩
            · have n20 : ¬ yT B n r1.2.1 = kI 20 := fun e => absurd g5 (w20.mpr e)
              obtain ⟨_, M6, e6, hs⟩ := hs
              try rw [ei] at e6
              exact tl (d2 := []) rr5 cc5 (List.append_nil _).symm (by rw [e5', aPut_cell (by decide)]; exact op3) (fun _ _ _ => rfl) (fun q hq => ⟨r1, s1, Or.inr ⟨r0, Or.inl ⟨n20, hq⟩⟩⟩) e6 hs
            · have t20 := w20.mp g5
              obtain ⟨u6, M6, h65b, v4, M7, h76, hs⟩ := hs
              obtain ⟨y1, y2⟩ := D_65_c cc5 rr5 h65b
              have f6 := F_65 h65b
              have f7 := F_76 h76
              have op6 : M6 188 39 = kI 0 := by
                rw [f6 188 39 (by decide) rfl (by simp only [l_65, pOut_cons, pOut_nil, true_or, and_true]; omega), e5', aPut_cell (by decide)]
                exact op3
              obtain ⟨t, w1, w2⟩ := D_76_w y2 y1 op6 h76
              rcases w2 with ⟨k', o', et, hv4, z1, z2, z3⟩ | ⟨k', S', o', f, et, z1, z2⟩
              · have hs := tIf_p (show ¬ v4 = kI (-1) by rw [hv4]; decide) hs
                obtain ⟨_, M8, e8, hs⟩ := hs
                try rw [ei] at e8
                rw [et] at w1
                obtain ⟨d2, pre2⟩ := sR_pre w1
                exact tl (d2 := d2) z1 z2 pre2 z3 (fun a j ha => by
                  rw [f7 a j (by omega) (by rcases ha with rfl | rfl | rfl | rfl <;> rfl) (by simp only [l_76, pOut_cons, pOut_nil, true_or, and_true]; omega), f6 a j (by omega) (by rcases ha with rfl | rfl | rfl | rfl <;> rfl) (by simp only [l_65, pOut_cons, pOut_nil, true_or, and_true]; omega)]) (fun q hq => ⟨r1, s1, Or.inr ⟨r0, Or.inr ⟨t20, _, w1, Or.inr ⟨rfl, hq⟩⟩⟩⟩) e8 hs
              · obtain ⟨hv, hN⟩ := tIf_n (nn (show v4 = kI (-1) from z2.1)) hs
                rw [et] at w1
                have ln : liR (yT B n) (yV B n) k o (f, k', o', []) := ⟨r1, s1, Or.inr ⟨r0, Or.inr ⟨t20, _, w1, Or.inl ⟨rfl, rfl⟩⟩⟩⟩
                exact ⟨(f, k', o', []), Or.inr ⟨n101, Or.inr ⟨wd, _, ln, Or.inl ⟨z1, rfl⟩⟩⟩, fun e => absurd e z1, fun _ => ⟨hv, by rw [hN]; exact z2.2.1, by rw [hN]; exact z2.2.2⟩⟩
          · have r1' := rE_no x1e (Classical.not_not.mp g4)
            obtain ⟨d1, d2, d3⟩ := x1e.2 r1'
            have ln : liR (yT B n) (yV B n) k o (r1.1, r1.2.1, r1.2.2, []) := ⟨r1, s1, Or.inl ⟨r1', rfl⟩⟩
            exact ⟨(r1.1, r1.2.1, r1.2.2, []), Or.inr ⟨n101, Or.inr ⟨wd, _, ln, Or.inl ⟨r1', rfl⟩⟩⟩, fun e => absurd e r1', fun _ => ⟨hv, by rw [hN]; exact d2, by rw [hN]; exact d3⟩⟩
      · have l16 : L.length = 16 := by
          have g3 := Classical.not_not.mp g3
          rw [yk (by decide) (by decide), hx] at g3
          omega
        cases m with
        | zero => exact ⟨(3, k, o, []), Or.inr ⟨n101, Or.inr ⟨wd, rfl⟩⟩, fun e => absurd e (show ¬ (3 : Nat) = 0 by decide), fun _ => by rw [hv, hN]; exact D_66_w (f := 3) hr h66⟩
        | succ m => omega
theorem D_77_w {M : pMem} {B : Nat → Int32} {n : Nat} (hr : rR M B n 0) (hm : M 188 38 = kI 0) (ho : M 188 39 = kI 0) {v : Int32} {N : pMem} (hD : D_77 M v N) :
    ∃ r, laR (yT B n) (yV B n) 16 0 [] r ∧ (r.1 = 0 → v.toInt = (r.2.2.2.length : Nat) ∧ rcd N (rcO r.2.2.1) ∧ rlL N r.2.2.1 r.2.2.2) ∧ (r.1 ≠ 0 → rNo B n N v r.1 r.2.1) := by
  have q : q77 B n (kI 0) M v N := hD (q77 B n) (fun _ _ _ _ hs => S_77_1w (fun _ _ _ _ h => h) hs)
  exact q 16 0 [] [] rfl rfl hr ⟨by rw [hm]; rfl, fun i x hi => by cases hi⟩ ho (fun i x hi => by cases hi)
