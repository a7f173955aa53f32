/-! the reference's lines, law -/
def rlL (M : pMem) (o : List Cd) (L : List Ln) : Prop := ∀ i x, L[i]? = some x → (M 205 (64 + i)).toInt + 14 = x.1.toInt ∧ (M 206 (64 + i)).toInt = (rcO (o.take x.2.1)).length ∧ (M 207 (64 + i)).toInt = (rcO (o.take x.2.2.1)).length ∧ (M 208 (64 + i)).toInt = (rcO (o.take x.2.2.2)).length ∧ x.2.1 ≤ x.2.2.1 ∧ x.2.2.1 ≤ x.2.2.2 ∧ x.2.2.2 ≤ o.length
theorem rlL_more {M : pMem} {o o' : List Cd} {L : List Ln} (h : rlL M o L) : rlL M (o ++ o') L := by
  intro i x hi
  obtain ⟨a1, a2, a3, a4, a5, a6, a7⟩ := h i x hi
  have t : ∀ p, p ≤ o.length → (o ++ o').take p = o.take p := fun p hp => List.take_append_of_le_length hp
  rw [t _ (by omega), t _ (by omega), t _ (by omega), List.length_append]
  exact ⟨a1, a2, a3, a4, a5, a6, by omega⟩
theorem rlL_eq {M N : pMem} {o : List Cd} {L : List Ln} (h : rlL M o L) (e : ∀ i, i < L.length → N 205 (64 + i) = M 205 (64 + i) ∧ N 206 (64 + i) = M 206 (64 + i) ∧ N 207 (64 + i) = M 207 (64 + i) ∧ N 208 (64 + i) = M 208 (64 + i)) : rlL N o L := by
  intro i x hi
  obtain ⟨e1, e2, e3, e4⟩ := e i (List.getElem?_eq_some_iff.mp hi).1
  rw [e1, e2, e3, e4]
  exact h i x hi
def q77 (B : Nat → Int32) (n : Nat) (x1 : Int32) (M : pMem) (v : Int32) (N : pMem) : Prop := ∀ (m k : Nat) (o : List Cd) (L : List Ln), x1.toInt = L.length → m + L.length = 16 → rR M B n k → rcd M (rcO o) → M 188 39 = kI 0 → rlL M o L →
  ∃ r, laR (yT B n) (yV B n) m k o r ∧ (r.1 = 0 → v.toInt = ((L ++ r.2.2.2).length : Nat) ∧ rcd N (rcO r.2.2.1) ∧ rlL N r.2.2.1 (L ++ r.2.2.2)) ∧ (r.1 ≠ 0 → rNo B n N v r.1 r.2.1)
theorem S_77_1w {B : Nat → Int32} {n : Nat} {P1 : Int32 → pMem → pT Int32} (hP : ∀ x1 M v N, P1 x1 M v N → q77 B n x1 M v N) {x1 : Int32} {M : pMem} {v : Int32} {N : pMem} (hs : S_77_1 P1 x1 M v N) : q77 B n x1 M v N := by
  intro m k o L hx hm hr hc hop hL
  have c := xRel_c (rR_t hr).1
  have e2 : M 188 27 = kI 2 ↔ (M 188 27).toInt = 2 := yk (by decide) (by decide)
  have e0 : M 188 27 = 0 ↔ (M 188 27).toInt = 0 := by rw [i_eq, i_0]
  have e5 : kI 5 < M 188 28 ↔ 5 < (M 188 28).toInt := by rw [i_lt, kI_toInt (by decide) (by decide)]
  have t101 : yT B n k = kI 101 ↔ (yT B n k).toInt = 101 := yk (by decide) (by decide)
  -- no word that begins a line
  have other : ¬ (14 ≤ (yT B n k).toInt ∧ (yT B n k).toInt ≤ 19) → (tIf (¬ (M 188 27) = 0) (tCall (D_66 (kI 1) M) fun v1 M1 => tRet v1 M1) (tRet x1 M)) v N →
      ∃ r, laR (yT B n) (yV B n) m k o r ∧ (r.1 = 0 → v.toInt = ((L ++ r.2.2.2).length : Nat) ∧ rcd N (rcO r.2.2.1) ∧ rlL N r.2.2.1 (L ++ r.2.2.2)) ∧ (r.1 ≠ 0 → rNo B n N v r.1 r.2.1) := by
    rintro wd (⟨g, v1, M1, h66, hv, hN⟩ | ⟨g, hv, hN⟩)
    · rw [e0] at g
      have n101 : ¬ yT B n k = kI 101 := by
        rw [t101]
        rcases c with c | c | ⟨r, _, c⟩ | c | c <;> omega
      refine ⟨(1, k, o, []), ?_, fun e => absurd e (show ¬ (1 : Nat) = 0 by decide), fun _ => by rw [hv, hN]; exact D_66_w (f := 1) hr h66⟩
      cases m with
      | zero => exact Or.inr ⟨n101, Or.inl ⟨wd, rfl⟩⟩
      | succ m => exact Or.inr ⟨n101, Or.inl ⟨wd, rfl⟩⟩
    · have g := e0.mp (Classical.not_not.mp g)
      have is101 : yT B n k = kI 101 := by
        rw [t101]
        rcases c with c | c | ⟨r, _, c⟩ | c | c <;> omega
      refine ⟨(0, k, o, []), ?_, fun _ => ?_, fun e => absurd rfl e⟩
      · cases m with
        | zero => exact Or.inl ⟨is101, rfl⟩
        | succ m => exact Or.inl ⟨is101, rfl⟩
      · show v.toInt = ((L ++ []).length : Nat) ∧ rcd N (rcO o) ∧ rlL N o (L ++ [])
        rw [hv, hN, List.append_nil]
        exact ⟨hx, hc, hL⟩
  rcases hs with ⟨g, hs⟩ | ⟨g, hs⟩
  · rw [e2] at g
    refine other (fun q => ?_) hs
    rcases c with c | c | ⟨r, _, c⟩ | c | c <;> omega
  · have g := e2.mp (Classical.not_not.mp g)
    obtain ⟨r, r29, cT, cx, _, cv⟩ : ∃ r : Nat, r < 29 ∧ (yT B n k).toInt = xCw r ∧ xCw r < 29 ∧ (M 188 27).toInt = 2 ∧ (M 188 28).toInt = r := by
      rcases c with c | c | c | c | c
      · omega
      · omega
      · exact c
      · omega
      · omega
    have cw := xCw_pl r r29
    rcases hs with ⟨g2, hs⟩ | ⟨g2, hs⟩
    · rw [e5] at g2
      refine other (fun q => ?_) hs
      have : ¬ r ≤ 5 := by omega
      exact this (cw.2.2.1.mpr ⟨by omega, by omega⟩)
    · rw [e5] at g2
      have r5 : r ≤ 5 := by omega
      have wd' := cw.2.2.1.mp r5
      have wr := cw.2.2.2.1 r5
      have wd : 14 ≤ (yT B n k).toInt ∧ (yT B n k).toInt ≤ 19 := by omega
      have n101 : ¬ yT B n k = kI 101 := by rw [t101]; omega
      rcases hs with ⟨g3, hs⟩ | ⟨g3, v1, M1, h66, hv, hN⟩
      · have l16 : L.length < 16 := by
          rw [yk (by decide) (by decide), hx] at g3
          omega
        cases m with
        | zero => omega
        | succ m =>
          obtain ⟨_, M1, e1, u1, M2, h65, _, M3, e3, v2, M4, h72, hs⟩ := hs
          have ei : ix (kI 64 + x1) = 64 + L.length := ix_of (by rw [i_add (by rw [kI_toInt (by decide) (by decide)]; omega) (by rw [kI_toInt (by decide) (by decide)]; omega), kI_toInt (by decide) (by decide), hx]; omega)
          rw [ei] at e1 e3 hs
          have f1 : pFr [(205, 999)] M M1 := fun a j _ _ q => by
            simp only [pOut_cons, pOut_nil, true_or, and_true] at q
            rw [e1, aPut_cell (by omega)]
          have f2 := F_65 h65
          have f3 : pFr [(206, 999)] M2 M3 := fun a j _ _ q => by
            simp only [pOut_cons, pOut_nil, true_or, and_true] at q
            rw [e3, aPut_cell (by omega)]
          have f4 := F_72 h72
          obtain ⟨c2, r2⟩ := D_65_c (rcd_fr hc f1 (by decide +kernel)) (rR_fr hr f1 rfl (fun j => rfl)) h65
          obtain ⟨r1, s1, x1e⟩ := D_72_w (rR_fr r2 f3 rfl (fun j => rfl)) (rcd_fr c2 f3 (by decide +kernel)) h72
          have op3 : M4 188 39 = kI 0 := by
            rw [f4 188 39 (by decide) rfl (by simp only [l_72, pOut_cons, pOut_nil, true_or, and_true]; omega), e3, aPut_cell (by decide), f2 188 39 (by decide) rfl (by simp only [l_65, pOut_cons, pOut_nil, true_or, and_true]; omega), e1, aPut_cell (by decide)]
            exact hop
          -- the draft's rows so far
          have row4 : ∀ a j, (a = 205 ∨ a = 206 ∨ a = 207 ∨ a = 208) → M4 a j = if a = 205 ∧ j = 64 + L.length then M 188 28 else if a = 206 ∧ j = 64 + L.length then M2 188 38 else M a j := by
            intro a j ha
            rw [f4 a j (by omega) (by rcases ha with rfl | rfl | rfl | rfl <;> rfl) (by simp only [l_72, pOut_cons, pOut_nil, true_or, and_true]; omega), e3]
            have m2 : M2 a j = M1 a j := f2 a j (by omega) (by rcases ha with rfl | rfl | rfl | rfl <;> rfl) (by simp only [l_65, pOut_cons, pOut_nil, true_or, and_true]; omega)
            by_cases a6 : a = 206
            · subst a6
              rw [aPut_row, m2, e1, aPut_cell (by decide), if_neg (show ¬ ((206 : Nat) = 205 ∧ j = 64 + L.length) from fun q => absurd q.1 (by decide))]
              by_cases q : j = 64 + L.length
              · rw [if_pos q, if_pos ⟨rfl, q⟩]
              · rw [if_neg q, if_neg (fun p => q p.2)]
            · rw [aPut_cell a6, m2, e1]
              by_cases a5 : a = 205
              · subst a5
                rw [aPut_row]
                by_cases q : j = 64 + L.length
                · rw [if_pos q, if_pos ⟨rfl, q⟩]
                · rw [if_neg q, if_neg (fun p => q p.2), if_neg (fun p => absurd p.1 (by decide))]
              · rw [aPut_cell a5, if_neg (fun p => a5 p.1), if_neg (fun p => a6 p.1)]
          have p1 : (M2 188 38).toInt = (rcO o).length := c2.1
          rcases hs with ⟨g4, _, M5, e5', hs⟩ | ⟨g4, hv, hN⟩
          · have r0 := rE_ok x1e g4
            obtain ⟨_, a2, a3⟩ := x1e.1 r0
            obtain ⟨d1, pre1⟩ := suP_pre s1
            have f5 : pFr [(207, 999)] M4 M5 := fun a j _ _ q => by
              simp only [pOut_cons, pOut_nil, true_or, and_true] at q
              rw [e5', aPut_cell (by omega)]
            have rr5 : rR M5 B n r1.2.1 := rR_fr a2 f5 rfl (fun j => rfl)
            have cc5 : rcd M5 (rcO r1.2.2) := rcd_fr a3 f5 (by decide +kernel)
            have p2 : (M4 188 38).toInt = (rcO r1.2.2).length := a3.1
            have w20 := rR_wd rr5 (r := 11) (by decide)
            have x11 : (xCw 11 : Int) = 20 := rfl
            rw [x11] at w20
            -- the end of the line: at X, before the last row is written
            have tl : ∀ {k2 : Nat} {o2 d2 : List Cd} {X Y : pMem}, rR X B n k2 → rcd X (rcO o2) → o2 = r1.2.2 ++ d2 → X 188 39 = kI 0 → (∀ a j, (a = 205 ∨ a = 206 ∨ a = 207 ∨ a = 208) → X a j = M5 a j) → (∀ q, tailR (yT B n) k2 o2 (yT B n k, o.length, r1.2.2.length, o2.length) q → liR (yT B n) (yV B n) k o q) → Y = aPut X 208 (64 + L.length) (X 188 38) →
                (tIf (¬ (f_68 (kI 59) Y) = 0) (tCall (D_65 Y) fun _ M7 => P1 (x1 + (kI 1)) M7) (tCall (D_66 (kI 1) Y) fun v3 M7 => tRet v3 M7)) v N →
                ∃ r, laR (yT B n) (yV B n) (m + 1) k o r ∧ (r.1 = 0 → v.toInt = ((L ++ r.2.2.2).length : Nat) ∧ rcd N (rcO r.2.2.1) ∧ rlL N r.2.2.1 (L ++ r.2.2.2)) ∧ (r.1 ≠ 0 → rNo B n N v r.1 r.2.1) := by
              intro k2 o2 d2 X Y t1 t2 t3 t4 t5 t6 eY hs
              have fY : pFr [(208, 999)] X Y := fun a j _ _ q => by
                simp only [pOut_cons, pOut_nil, true_or, and_true] at q
                rw [eY, aPut_cell (by omega)]
              have rY : rR Y B n k2 := rR_fr t1 fY rfl (fun j => rfl)
              have cY : rcd Y (rcO o2) := rcd_fr t2 fY (by decide +kernel)
              have s59 := rR_sg rY (s := 59) (by decide) (by decide)
              have pre2 : o2 = o ++ (d1 ++ d2) := by rw [t3, pre1, List.append_assoc]
              rcases hs with ⟨g6, u7, M7, h65b, hs⟩ | ⟨g6, v3, M7, h66, hv, hN⟩
              · have t59 := s59.mp g6
                obtain ⟨y1, y2⟩ := D_65_c cY rY h65b
                have f7 := F_65 h65b
                have ln := t6 _ (Or.inl ⟨t59, rfl⟩)
                -- the rows with the new line
                have rows : rlL M7 o2 (L ++ [(yT B n k, o.length, r1.2.2.length, o2.length)]) := by
                  have r7 : ∀ a j, (a = 205 ∨ a = 206 ∨ a = 207 ∨ a = 208) → M7 a j = Y a j := fun a j ha => f7 a j (by omega) (by rcases ha with rfl | rfl | rfl | rfl <;> rfl) (by simp only [l_65, pOut_cons, pOut_nil, true_or, and_true]; omega)
                  have r5 : ∀ j, M7 205 j = if j = 64 + L.length then M 188 28 else M 205 j := fun j => by
                    rw [r7 205 j (by omega), eY, aPut_cell (by decide), t5 205 j (by omega), e5', aPut_cell (by decide), row4 205 j (by omega)]
                    by_cases q : j = 64 + L.length
                    · rw [if_pos ⟨rfl, q⟩, if_pos q]
                    · rw [if_neg (fun p => q p.2), if_neg (fun p => q p.2), if_neg q]
                  have r6 : ∀ j, M7 206 j = if j = 64 + L.length then M2 188 38 else M 206 j := fun j => by
                    rw [r7 206 j (by omega), eY, aPut_cell (by decide), t5 206 j (by omega), e5', aPut_cell (by decide), row4 206 j (by omega), if_neg (fun p => absurd p.1 (by decide))]
                    by_cases q : j = 64 + L.length
                    · rw [if_pos ⟨rfl, q⟩, if_pos q]
                    · rw [if_neg (fun p => q p.2), if_neg q]
                  have r7' : ∀ j, M7 207 j = if j = 64 + L.length then M4 188 38 else M 207 j := fun j => by
                    rw [r7 207 j (by omega), eY, aPut_cell (by decide), t5 207 j (by omega), e5', aPut_row]
                    by_cases q : j = 64 + L.length
                    · rw [if_pos q, if_pos q]
                    · rw [if_neg q, if_neg q, row4 207 j (by omega), if_neg (fun p => absurd p.1 (by decide)), if_neg (fun p => absurd p.1 (by decide))]
                  have r8 : ∀ j, M7 208 j = if j = 64 + L.length then X 188 38 else M 208 j := fun j => by
                    rw [r7 208 j (by omega), eY, aPut_row]
                    by_cases q : j = 64 + L.length
                    · rw [if_pos q, if_pos q]
                    · rw [if_neg q, if_neg q, t5 208 j (by omega), e5', aPut_cell (by decide), row4 208 j (by omega), if_neg (fun p => absurd p.1 (by decide)), if_neg (fun p => absurd p.1 (by decide))]
                  have old : rlL M7 o2 L := by
                    rw [pre2]
                    refine rlL_more (rlL_eq hL fun i hi => ?_)
                    rw [r5, r6, r7', r8, if_neg (by omega), if_neg (by omega), if_neg (by omega), if_neg (by omega)]
                    exact ⟨rfl, rfl, rfl, rfl⟩
                  intro i x hi
                  by_cases e : i = L.length
                  · rw [e, List.getElem?_append_right (Nat.le_refl _), Nat.sub_self] at hi
                    have := Option.some.inj hi
                    rw [← this, e, r5, r6, r7', r8, if_pos rfl, if_pos rfl, if_pos rfl, if_pos rfl]
                    refine ⟨by show (M 188 28).toInt + 14 = (yT B n k).toInt; omega, ?_, ?_, ?_, ?_, ?_, Nat.le_refl _⟩
                    · show (M2 188 38).toInt = (rcO (o2.take o.length)).length
                      rw [p1, pre2, take_pre]
                    · show (M4 188 38).toInt = (rcO (o2.take r1.2.2.length)).length
                      rw [p2, t3, take_pre]
                    · show (X 188 38).toInt = (rcO (o2.take o2.length)).length
                      rw [List.take_length]
                      exact t2.1
                    · show o.length ≤ r1.2.2.length
                      rw [pre1, List.length_append]
                      omega
                    · show r1.2.2.length ≤ o2.length
                      rw [t3, List.length_append]
                      omega
                  · have hlt := (List.getElem?_eq_some_iff.mp hi).1
                    rw [List.length_append, List.length_singleton] at hlt
                    rw [List.getElem?_append_left (by omega)] at hi
                    exact old i x hi
                obtain ⟨r, z1, z2, z3⟩ := hP _ _ _ _ hs m (k2 + 1) o2 _ (by rw [i_add1 (by omega), hx, List.length_append, List.length_singleton]; omega) (by rw [List.length_append, List.length_singleton]; omega) y2 y1 (by rw [f7 188 39 (by decide) rfl (by simp only [l_65, pOut_cons, pOut_nil, true_or, and_true]; omega), eY, aPut_cell (by decide)]; exact t4) rows
                refine ⟨(r.1, r.2.1, r.2.2.1, [(yT B n k, o.length, r1.2.2.length, o2.length)] ++ r.2.2.2), Or.inr ⟨n101, Or.inr ⟨wd, _, ln, Or.inr ⟨rfl, r, z1, rfl⟩⟩⟩, fun e => ?_, z3⟩
                obtain ⟨w1, w2, w3⟩ := z2 e
                show v.toInt = ((L ++ ([_] ++ r.2.2.2)).length : Nat) ∧ rcd N (rcO r.2.2.1) ∧ rlL N r.2.2.1 (L ++ ([_] ++ r.2.2.2))
                rw [← List.append_assoc]
                exact ⟨w1, w2, w3⟩
              · have n59 : ¬ yT B n k2 = kI 59 := fun e => g6 (s59.mpr e)
                have ln := t6 _ (Or.inr ⟨n59, rfl⟩)
                exact ⟨(1, k2, o2, []), Or.inr ⟨n101, Or.inr ⟨wd, _, ln, Or.inl ⟨show (1 : Nat) ≠ 0 by decide, rfl⟩⟩⟩, fun e => absurd e (show ¬ (1 : Nat) = 0 by decide), fun _ => by rw [hv, hN]; exact D_66_w (f := 1) rY h66⟩
            rcases hs with ⟨g5, hs⟩ | ⟨g5, hs⟩
            · have n20 : ¬ yT B n r1.2.1 = kI 20 := fun e => absurd g5 (w20.mpr e)
              obtain ⟨_, M6, e6, hs⟩ := hs
              try rw [ei] at e6
              exact tl (d2 := []) rr5 cc5 (List.append_nil _).symm (by rw [e5', aPut_cell (by decide)]; exact op3) (fun _ _ _ => rfl) (fun q hq => ⟨r1, s1, Or.inr ⟨r0, Or.inl ⟨n20, hq⟩⟩⟩) e6 hs
            · have t20 := w20.mp g5
              obtain ⟨u6, M6, h65b, v4, M7, h76, hs⟩ := hs
              obtain ⟨y1, y2⟩ := D_65_c cc5 rr5 h65b
              have f6 := F_65 h65b
              have f7 := F_76 h76
              have op6 : M6 188 39 = kI 0 := by
                rw [f6 188 39 (by decide) rfl (by simp only [l_65, pOut_cons, pOut_nil, true_or, and_true]; omega), e5', aPut_cell (by decide)]
                exact op3
              obtain ⟨t, w1, w2⟩ := D_76_w y2 y1 op6 h76
              rcases w2 with ⟨k', o', et, hv4, z1, z2, z3⟩ | ⟨k', S', o', f, et, z1, z2⟩
              · have hs := tIf_p (show ¬ v4 = kI (-1) by rw [hv4]; decide) hs
                obtain ⟨_, M8, e8, hs⟩ := hs
                try rw [ei] at e8
                rw [et] at w1
                obtain ⟨d2, pre2⟩ := sR_pre w1
                exact tl (d2 := d2) z1 z2 pre2 z3 (fun a j ha => by
                  rw [f7 a j (by omega) (by rcases ha with rfl | rfl | rfl | rfl <;> rfl) (by simp only [l_76, pOut_cons, pOut_nil, true_or, and_true]; omega), f6 a j (by omega) (by rcases ha with rfl | rfl | rfl | rfl <;> rfl) (by simp only [l_65, pOut_cons, pOut_nil, true_or, and_true]; omega)]) (fun q hq => ⟨r1, s1, Or.inr ⟨r0, Or.inr ⟨t20, _, w1, Or.inr ⟨rfl, hq⟩⟩⟩⟩) e8 hs
              · obtain ⟨hv, hN⟩ := tIf_n (nn (show v4 = kI (-1) from z2.1)) hs
                rw [et] at w1
                have ln : liR (yT B n) (yV B n) k o (f, k', o', []) := ⟨r1, s1, Or.inr ⟨r0, Or.inr ⟨t20, _, w1, Or.inl ⟨rfl, rfl⟩⟩⟩⟩
                exact ⟨(f, k', o', []), Or.inr ⟨n101, Or.inr ⟨wd, _, ln, Or.inl ⟨z1, rfl⟩⟩⟩, fun e => absurd e z1, fun _ => ⟨hv, by rw [hN]; exact z2.2.1, by rw [hN]; exact z2.2.2⟩⟩
          · have r1' := rE_no x1e (Classical.not_not.mp g4)
            obtain ⟨d1, d2, d3⟩ := x1e.2 r1'
            have ln : liR (yT B n) (yV B n) k o (r1.1, r1.2.1, r1.2.2, []) := ⟨r1, s1, Or.inl ⟨r1', rfl⟩⟩
            exact ⟨(r1.1, r1.2.1, r1.2.2, []), Or.inr ⟨n101, Or.inr ⟨wd, _, ln, Or.inl ⟨r1', rfl⟩⟩⟩, fun e => absurd e r1', fun _ => ⟨hv, by rw [hN]; exact d2, by rw [hN]; exact d3⟩⟩
      · have l16 : L.length = 16 := by
          have g3 := Classical.not_not.mp g3
          rw [yk (by decide) (by decide), hx] at g3
          omega
        cases m with
        | zero => exact ⟨(3, k, o, []), Or.inr ⟨n101, Or.inr ⟨wd, rfl⟩⟩, fun e => absurd e (show ¬ (3 : Nat) = 0 by decide), fun _ => by rw [hv, hN]; exact D_66_w (f := 3) hr h66⟩
        | succ m => omega
theorem D_77_w {M : pMem} {B : Nat → Int32} {n : Nat} (hr : rR M B n 0) (hm : M 188 38 = kI 0) (ho : M 188 39 = kI 0) {v : Int32} {N : pMem} (hD : D_77 M v N) :
    ∃ r, laR (yT B n) (yV B n) 16 0 [] r ∧ (r.1 = 0 → v.toInt = (r.2.2.2.length : Nat) ∧ rcd N (rcO r.2.2.1) ∧ rlL N r.2.2.1 r.2.2.2) ∧ (r.1 ≠ 0 → rNo B n N v r.1 r.2.1) := by
  have q : q77 B n (kI 0) M v N := hD (q77 B n) (fun _ _ _ _ hs => S_77_1w (fun _ _ _ _ h => h) hs)
  exact q 16 0 [] [] rfl rfl hr ⟨by rw [hm]; rfl, fun i x hi => by cases hi⟩ ho (fun i x hi => by cases hi)
