/-! loyal ones, what is kept -/
theorem frs_cg {o : List Cd} {L : List Ln} {V U : pMem} {b : Nat} (h1 : thV U = thV V) (h2 : FcV U b = FcV V b) (h3 : lkV U = lkV V) : frs o L U b = frs o L V b := by
  have c : cnF U b = cnF V b := by
    funext j
    unfold cnF
    rw [h1]
  have w : wtF o L U b = wtF o L V b := by
    funext j
    unfold wtF
    rw [h2, h3]
  unfold frs
  rw [c, w]
theorem acr_cg {o : List Cd} {L : List Ln} {V U : pMem} {b : Nat} (h1 : thV U = thV V) (h2 : FcV U b = FcV V b) (h3 : lkV U = lkV V) (h4 : U 189 = V 189) : acr o L U b = acr o L V b := by
  have a : acF U b (frs o L U b) = acF V b (frs o L V b) := by
    funext k
    unfold acF
    rw [frs_cg h1 h2 h3, h4]
  unfold acr
  rw [a]
/-- where but loyalty and what is kept is the same -/
theorem same_lo {V U : pMem} (h : ∀ b, b ≠ 192 → b ≠ 201 → U b = V b) : thV U = thV V ∧ FcV U = FcV V ∧ lkV U = lkV V ∧ U 189 = V 189 := by
  have e8 := h 188 (by decide) (by decide)
  have fd : FdV U = FdV V := by
    funext lot k
    unfold FdV
    rw [e8]
  have lk : lkV U = lkV V := lkV_c (h 194 (by decide) (by decide))
  refine ⟨?_, ?_, lk, h 189 (by decide) (by decide)⟩
  · funext i
    unfold thV
    rw [h 191 (by decide) (by decide)]
  · funext i j k
    unfold FcV
    rw [h 190 (by decide) (by decide), lk, h 195 (by decide) (by decide), h 189 (by decide) (by decide), fd]
noncomputable def loB (o : List Cd) (L : List Ln) (V : pMem) (i : Nat) : Bool := thV V i && (decide (V 192 i = kI 1) && decide (acr o L V i = 0))
noncomputable def loN (o : List Cd) (L : List Ln) (V : pMem) (n : Nat) : pMem := aRow V 192 fun i => if i < n ∧ loB o L V i = true then kI 0 else V 192 i
theorem loN_c {o : List Cd} {L : List Ln} {V : pMem} {n b : Nat} (h : b ≠ 192) : loN o L V n b = V b := aRow_cell h
theorem loN_v {o : List Cd} {L : List Ln} {V : pMem} {n i : Nat} : loN o L V n 192 i = if i < n ∧ loB o L V i = true then kI 0 else V 192 i := by
  unfold loN
  rw [aRow_same']
/-- loyal ones: as a set, as a row -/
def rLo (w : Nat) (M V : pMem) : Prop := nb (M w 3) ∧ ∀ i, i < 24 → bt (M w 3) i = decide (V 192 i = kI 1)
def rVl (V : pMem) : Prop := ∃ n, rNb V n ∧ ∀ i, i < 24 → bo (V 192 i) ∧ (n ≤ i → V 192 i = 0 ∧ V 189 i = 0)
/-- what of the class stays -/
def frL (w l : Nat) (M N : pMem) : Prop := (∀ a, a ≠ w → (a < 132 ∨ 137 < a) → a ≠ l + 6 → N a = M a) ∧ ∀ j, j ≠ 3 → N w j = M w j
theorem D_190_v {w l : Nat} (hw : pK 10 w = true) (hl : pK 2 l = true) {M V : pMem} (hV : rV V) (h : rW w M V) (hlo : rLo w M V) {o : List Cd} {L : List Ln} (hc : cLk M l o L) {v N} (hD : D_190 w l M v N) : rW w N V ∧ rLo w N (loN o L V 24) ∧ frL w l M N := by
  have lc := lCell hl
  have keep : ∀ {M' : pMem}, frL w l M M' → rW w M' V ∧ cLk M' l o L := fun {M'} hk => by
    refine ⟨?_, cLk_c hc fun a h1 h2 => hk.1 a (fun e => lwCell hl hw (a - l) (by omega) 0 (by decide) (by omega)) (by omega) (by omega)⟩
    obtain ⟨h1, h2, h3, h4, h5, h6⟩ := h
    have c : ∀ j, 0 < j → j < 5 → M' (w + j) = M (w + j) := fun j h0 hj => hk.1 _ (by omega) (wCell2 hw j hj) (fun e => lwCell hl hw 6 (by decide) j hj e.symm)
    refine ⟨by rw [hk.2 0 (by decide)]; exact h1, by rw [hk.2 1 (by decide), hk.2 2 (by decide)]; exact h2, fun i hi => ?_, fun i j hi hj => ?_, by rw [hk.2 4 (by decide), hk.2 5 (by decide), hk.2 6 (by decide), hk.2 7 (by decide), hk.2 8 (by decide), hk.2 9 (by decide), hk.2 10 (by decide)]; exact h5, fun m hm => by rw [c 4 (by decide) (by decide)]; exact h6 m hm⟩
    · rw [hk.2 1 (by decide), hk.2 2 (by decide), c 1 (by decide) (by decide)]
      exact h3 i hi
    · rw [c 2 (by decide) (by decide), c 3 (by decide) (by decide)]
      exact h4 i j hi hj
  have w6 : w ≠ l + 6 := fun e => lwCell hl hw 6 (by decide) 0 (by decide) e.symm
  have w2 := wCell2 hw 0 (by decide)
  have q := hD (fun x3 M' v N => ∀ i : Nat, x3.toInt = i → i ≤ 24 → frL w l M M' → rLo w M' (loN o L V i) → frL w l M N ∧ rLo w N (loN o L V 24)) ?_
  · have z : rLo w M (loN o L V 0) := ⟨hlo.1, fun i hi => by rw [loN_v, if_neg (fun s => by omega)]; exact hlo.2 i hi⟩
    obtain ⟨q1, q2⟩ := q 0 rfl (Nat.zero_le _) ⟨fun _ _ _ _ => rfl, fun _ _ => rfl⟩ z
    exact ⟨(keep q1).1, q2, q1⟩
  · intro x3 M' v N hs i hi hi24 hf hL
    obtain ⟨kW, kL⟩ := keep hf
    rcases hs with ⟨g, _, hN⟩ | ⟨g, hs⟩
    · rw [i_le, hi, kI_toInt (by decide) (by decide)] at g
      have e : i = 24 := by omega
      rw [e] at hL
      rw [hN]
      exact ⟨hf, hL⟩
    · rw [i_le, hi, kI_toInt (by decide) (by decide)] at g
      have bits : bt ((M' w 2) &&& (M' w 3)) i = (thV V i && decide (V 192 i = kI 1)) := by
        rw [bt_and, (kW.2.2.1 i (by omega)).2.1, ← thV_y hV (by omega), hL.2 i (by omega), loN_v, if_neg (fun s => by omega)]
      -- from i to i + 1, where it stays so
      have stay : ∀ {M2 : pMem}, loB o L V i = false → M2 w 3 = M' w 3 → rLo w M2 (loN o L V (i + 1)) := fun e e3 => by
        refine ⟨by rw [e3]; exact hL.1, fun j hj => ?_⟩
        rw [e3, hL.2 j hj, loN_v, loN_v]
        by_cases q : j = i
        · rw [q, e, if_neg (fun s => by cases s.2), if_neg (fun s => by cases s.2)]
        · by_cases r : j < i ∧ loB o L V j = true
          · rw [if_pos r, if_pos ⟨by omega, r.2⟩]
          · rw [if_neg r, if_neg (fun s => r ⟨by omega, s.2⟩)]
      rcases hs with ⟨g2, hs⟩ | ⟨g2, _, M1, h185, v2, M2, h187, hs⟩
      · rw [f37_n hi (by omega), bits] at g2
        refine hs (i + 1) (n_add1 hi (by omega)) (by omega) hf (stay ?_ rfl)
        unfold loB
        rw [← Bool.and_assoc, g2]
        rfl
      · rw [f37_y hi (by omega), bits] at g2
        obtain ⟨a1, a2, a3⟩ := D_185_v hw hl hV kW kL hi (by omega) h185
        have f1 : frL w l M M1 := ⟨fun a h1 h2 h3 => (a3 a h2 h3).trans (hf.1 a h1 h2 h3), fun j hj => by rw [a3 w w2 w6]; exact hf.2 j hj⟩
        obtain ⟨b1, b2⟩ := D_187_v hV (keep f1).1 a2 hi (by omega) h187
        have va : v2 = acr o L V i := by
          rw [b1]
          unfold acr
          rw [acF_cg a1]
        rw [b2] at hs
        have e3 : M1 w 3 = M' w 3 := by rw [a3 w w2 w6]
        rcases hs with ⟨g3, hs⟩ | ⟨g3, M3, e4, hs⟩
        · refine hs (i + 1) (n_add1 hi (by omega)) (by omega) f1 (stay ?_ e3)
          unfold loB
          rw [decide_eq_false (show ¬ acr o L V i = 0 by rw [← va]; exact g3), Bool.and_false, Bool.and_false]
        · have hy : loB o L V i = true := by
            unfold loB
            rw [← Bool.and_assoc, g2, decide_eq_true (show acr o L V i = 0 by rw [← va]; exact Classical.not_not.mp g3)]
            rfl
          refine hs (i + 1) (n_add1 hi (by omega)) (by omega) ⟨fun a h1 h2 h3 => ?_, fun j hj => ?_⟩ ⟨?_, fun j hj => ?_⟩
          · rw [← f1.1 a h1 h2 h3, e4]
            funext k
            exact aPut_cell h1
          · rw [e4, aPut_at hj]
            exact f1.2 j hj
          · rw [e4, aPut_same, e3]
            exact nb_and hL.1
          · rw [e4, aPut_same, e3, bt_and, bt_not (by omega), bt_sh hi (by omega), hL.2 j hj, loN_v, loN_v]
            by_cases q : j = i
            · rw [q, decide_eq_true (show i = i from rfl), Bool.not_true, Bool.and_false, if_pos ⟨by omega, hy⟩]
              decide
            · rw [decide_eq_false q, Bool.not_false, Bool.and_true]
              by_cases r : j < i ∧ loB o L V j = true
              · rw [if_pos r, if_pos ⟨by omega, r.2⟩]
              · rw [if_neg r, if_neg (fun s => r ⟨by omega, s.2⟩)]
/-- the reference -/
theorem rV_lo {o : List Cd} {L : List Ln} {V : pMem} {n : Nat} (h : rV V) : rV (loN o L V n) := by
  obtain ⟨⟨m, n1, n2, n3⟩, h2, h3, h4⟩ := h
  exact ⟨⟨m, n1, by rw [loN_c (by decide)]; exact n2, by rw [loN_c (by decide)]; exact n3⟩, by rw [loN_c (by decide), loN_c (by decide)]; exact h2, by rw [loN_c (by decide)]; exact h3, by rw [loN_c (by decide)]; exact h4⟩
theorem rLk_lo {o' o : List Cd} {L' L : List Ln} {V : pMem} {k n : Nat} (h : rLk V k o' L') : rLk (loN o L V n) k o' L' := rLk_v h (fun b h1 _ => loN_c (by omega)) (by rw [loN_c (by decide)])
theorem loN_24 {o : List Cd} {L : List Ln} {V : pMem} {n : Nat} (hn : rNb V n) : ∀ i, i < 24 → loN o L V n 192 i = loN o L V 24 192 i := fun i hi => by
  rw [loN_v, loN_v]
  by_cases q : i < n
  · by_cases r : loB o L V i = true
    · rw [if_pos ⟨q, r⟩, if_pos ⟨hi, r⟩]
    · rw [if_neg (fun s => r s.2), if_neg (fun s => r s.2)]
  · rw [if_neg (fun s => q s.1), if_neg]
    rintro ⟨_, s⟩
    unfold loB at s
    rw [thV_0 hn (by omega) hi] at s
    cases s
theorem D_99_v {k : Nat} {o : List Cd} {L : List Ln} {M V : pMem} (hs0 : sc V M) (hV : rV V) (hc : rLk V k o L) {n : Nat} (hn : rNb V n) {v N} (h : D_99 M v N) : sc (loN o L V n) N := by
  obtain ⟨n24, hn2, hn3⟩ := id hn
  have z : loN o L V 0 = V := by
    funext a j
    by_cases e : a = 192
    · subst e
      rw [loN_v, if_neg (fun s => by omega)]
    · rw [loN_c e]
  have q := h (fun x1 M' v N => ∀ i : Nat, x1.toInt = i → i ≤ n → sc (loN o L V i) M' → sc (loN o L V n) N) ?_
  · exact q 0 rfl (Nat.zero_le _) (by rw [z]; exact hs0)
  · intro x1 M' v N hs i hi hin hM
    have m2 : M' 188 2 = V 188 2 := by rw [sc_r8 hM (by decide) (by decide), loN_c (by decide)]
    rcases hs with ⟨g, _, hN⟩ | ⟨g, _, hs⟩
    · rw [m2, i_le, hi, hn2] at g
      have e : i = n := by omega
      rw [e] at hM
      rw [hN]
      exact hM
    · rw [m2, i_le, hi, hn2] at g
      have r192 : M' 192 = loN o L V i 192 := sc_row hM (by decide) rfl (by decide)
      rw [(sc_rows hM).2.2.1, loN_c (by decide), ix_of hi, r192, loN_v, if_neg (fun s => by omega)] at hs
      have stay : loB o L V i = false → loN o L V (i + 1) = loN o L V i := fun e => by
        unfold loN
        congr 1
        funext j
        by_cases q : j = i
        · rw [q, e, if_neg (fun s => by cases s.2), if_neg (fun s => by cases s.2)]
        · by_cases r : j < i ∧ loB o L V j = true
          · rw [if_pos r, if_pos ⟨by omega, r.2⟩]
          · rw [if_neg r, if_neg (fun s => r ⟨by omega, s.2⟩)]
      rcases hs with ⟨g2, hs⟩ | ⟨g2, _, hs⟩
      · refine hs (i + 1) (n_add1 hi (by omega)) (by omega) ?_
        rw [stay]
        · exact hM
        · unfold loB
          rw [thV_y hV (by omega), decide_eq_false g2]
          rfl
      · rcases hs with ⟨g3, hs⟩ | ⟨g3, v1, M1, h97, hs⟩
        · refine hs (i + 1) (n_add1 hi (by omega)) (by omega) ?_
          rw [stay]
          · exact hM
          · unfold loB
            rw [decide_eq_false g3, Bool.false_and, Bool.and_false]
        · have sl := same_lo (V := V) (U := loN o L V i) (fun b h1 _ => loN_c h1)
          have nl : rNb (loN o L V i) n := ⟨n24, by rw [loN_c (by decide)]; exact hn2, by rw [loN_c (by decide)]; exact hn3⟩
          obtain ⟨a1, a2⟩ := D_97_v hM (rV_lo hV) (rLk_lo hc) nl hi (by omega) h97
          rw [acr_cg sl.1 (by rw [sl.2.1]) sl.2.2.1 sl.2.2.2] at a1
          have s1 := sc_t hM (sc_96 a2)
          have yes : loB o L V i = decide (acr o L V i = 0) := by
            unfold loB
            rw [thV_y hV (by omega), decide_eq_true (Classical.not_not.mp g2), decide_eq_true (Classical.not_not.mp g3), Bool.true_and, Bool.true_and]
          rcases hs with ⟨g4, hs⟩ | ⟨g4, _, M2, e2, hs⟩
          · refine hs (i + 1) (n_add1 hi (by omega)) (by omega) ?_
            rw [stay]
            · exact s1
            · rw [yes, decide_eq_false (show ¬ acr o L V i = 0 by rw [← a1]; exact g4)]
          · refine hs (i + 1) (n_add1 hi (by omega)) (by omega) ?_
            have hy : loB o L V i = true := by rw [yes, decide_eq_true (show acr o L V i = 0 by rw [← a1]; exact Classical.not_not.mp g4)]
            have e : loN o L V (i + 1) = aPut (loN o L V i) 192 i (kI 0) := by
              funext a j
              by_cases ea : a = 192
              · subst ea
                rw [aPut_row, loN_v, loN_v]
                by_cases q : j = i
                · rw [if_pos q, if_pos ⟨by omega, by rw [q]; exact hy⟩]
                · rw [if_neg q]
                  by_cases r : j < i ∧ loB o L V j = true
                  · rw [if_pos r, if_pos ⟨by omega, r.2⟩]
                  · rw [if_neg r, if_neg (fun s => r ⟨by omega, s.2⟩)]
              · rw [aPut_cell ea, loN_c ea, loN_c ea]
            rw [e, e2]
            exact sc_p s1 rfl
/-! what is kept of a day -/
def kpV (V : pMem) (m : Nat) : Int32 := if m = 7 then V 188 17 else if m = 6 then kI (cN (thV V) 24 : Nat) else if m = 5 then V 188 54 else if m = 4 then V 188 20 else if m = 3 then mnS (inL V (kI 1)) (inL V (kI 0)) (lkV V)
  else if m = 2 then mnS (inL V (kI 0)) (inL V (kI 1)) (lkV V) else if m = 1 then mnS (inL V (kI 1)) (inL V (kI 1)) (lkV V) else mnS (inL V (kI 0)) (inL V (kI 0)) (lkV V)
/-- the row, d days being by -/
def keR (V : pMem) (d : Nat) (k : Nat) : Int32 := if 8 * d ≤ k ∧ k < 8 * d + 8 then kpV V (k - 8 * d) else V 201 k
theorem cN_lots {V : pMem} (hV : rV V) : cN (thV V) 24 = cN (inL V (kI 0)) 24 + cN (inL V (kI 1)) 24 := by
  have key : ∀ n, n ≤ 24 → cN (thV V) n = cN (inL V (kI 0)) n + cN (inL V (kI 1)) n := by
    intro n
    induction n with
    | zero => intro _; rfl
    | succ n ih =>
      intro hn
      show cN (thV V) n + _ = cN (inL V (kI 0)) n + (if inL V (kI 0) n = true then 1 else 0) + (cN (inL V (kI 1)) n + (if inL V (kI 1) n = true then 1 else 0))
      rw [ih (by omega)]
      have e : (if thV V n = true then 1 else 0) = (if inL V (kI 0) n = true then 1 else 0) + (if inL V (kI 1) n = true then 1 else 0) := by
        unfold inL
        rcases (hV.2.1 n (by omega)).1 with q | q
        · rw [q]
          cases thV V n <;> rfl
        · rw [q]
          cases thV V n <;> rfl
      rw [e]
      omega
  exact key 24 (Nat.le_refl _)
theorem D_100_v {M V : pMem} (hs0 : sc V M) (hV : rV V) {d : Nat} (hd : (V 188 3).toInt = d) {v N} (h : D_100 M v N) : sc (aRow V 201 (if d < 60 then keR V d else V 201)) N := by
  obtain ⟨⟨n, hn⟩, hb, hk, hl⟩ := id hV
  have m3 : M 188 3 = V 188 3 := sc_r8 hs0 (by decide) (by decide)
  rcases h with ⟨g, h⟩ | ⟨g, _, hN⟩
  · rw [m3, i_lt, hd, kI_toInt (by decide) (by decide)] at g
    have e8 : ∀ j : Nat, j < 8 → ix (kI 8 * M 188 3 + kI (j : Nat)) = 8 * d + j := fun j hj => by
      have a : (kI 8 * M 188 3).toInt = 8 * d := by rw [m3, i_mul (by rw [hd, kI_toInt (by decide) (by decide)]; omega) (by rw [hd, kI_toInt (by decide) (by decide)]; omega), hd, kI_toInt (by decide) (by decide)]
      exact ix_of (by rw [i_add (by rw [a, kI_toInt (by omega) (by omega)]; omega) (by rw [a, kI_toInt (by omega) (by omega)]; omega), a, kI_toInt (by omega) (by omega)]; omega)
    have e0 : ix (kI 8 * M 188 3) = 8 * d := by
      have a : (kI 8 * M 188 3).toInt = ((8 * d : Nat) : Int) := by rw [m3, i_mul (by rw [hd, kI_toInt (by decide) (by decide)]; omega) (by rw [hd, kI_toInt (by decide) (by decide)]; omega), hd, kI_toInt (by decide) (by decide)]; omega
      exact ix_of a
    obtain ⟨v1, M1, h1, _, M2, e2, v2, M3, h2, _, M4, e4, v3, M5, h3, _, M6, e6, v4, M7, h4, _, M8, e8', _, M9, e9, _, M10, e10, v5, M11, h5, v6, M12, h6, _, M13, e13, _, M14, e14, _, hN⟩ := h
    rw [e0] at e2
    rw [show ix (kI 8 * M 188 3 + kI 1) = 8 * d + 1 from e8 1 (by decide)] at e4
    rw [show ix (kI 8 * M 188 3 + kI 2) = 8 * d + 2 from e8 2 (by decide)] at e6
    rw [show ix (kI 8 * M 188 3 + kI 3) = 8 * d + 3 from e8 3 (by decide)] at e8'
    rw [show ix (kI 8 * M 188 3 + kI 4) = 8 * d + 4 from e8 4 (by decide)] at e9
    rw [show ix (kI 8 * M 188 3 + kI 5) = 8 * d + 5 from e8 5 (by decide)] at e10
    rw [show ix (kI 8 * M 188 3 + kI 6) = 8 * d + 6 from e8 6 (by decide)] at e13
    rw [show ix (kI 8 * M 188 3 + kI 7) = 8 * d + 7 from e8 7 (by decide)] at e14
    have nM := rNb_sc hs0 hn
    have c2 : ∀ b, b ≠ 201 → M2 b = M1 b := fun b h => by rw [e2]; funext j; exact aPut_cell h
    obtain ⟨a1, a1'⟩ := D_54_w nM h1
    have k2 : ∀ b, b ≠ 201 → M2 b = M b := fun b h => by rw [c2 b h, a1']
    have nb_ : ∀ {K : pMem}, (∀ b, b ≠ 201 → K b = M b) → rNb K n := fun {K} hK => ⟨nM.1, by rw [hK 188 (by decide)]; exact nM.2.1, by rw [hK 191 (by decide)]; exact nM.2.2⟩
    have il : ∀ {K : pMem}, (∀ b, b ≠ 201 → K b = M b) → inL K = inL V ∧ lkV K = lkV V := fun {K} hK => by
      refine ⟨?_, ?_⟩
      · rw [← inL_sc hs0]
        exact funext fun _ => inL_c (hK 191 (by decide)) (hK 189 (by decide))
      · rw [← lkV_sc hs0]
        exact lkV_c (hK 194 (by decide))
    obtain ⟨a2, a2'⟩ := D_54_w (nb_ k2) h2
    have k4 : ∀ b, b ≠ 201 → M4 b = M b := fun b h => by rw [e4, a2', ← k2 b h]; funext j; exact aPut_cell h
    obtain ⟨a3, a3'⟩ := D_54_w (nb_ k4) h3
    have k6 : ∀ b, b ≠ 201 → M6 b = M b := fun b h => by rw [e6, a3', ← k4 b h]; funext j; exact aPut_cell h
    obtain ⟨a4, a4'⟩ := D_54_w (nb_ k6) h4
    have k8 : ∀ b, b ≠ 201 → M8 b = M b := fun b h => by rw [e8', a4', ← k6 b h]; funext j; exact aPut_cell h
    have k9 : ∀ b, b ≠ 201 → M9 b = M b := fun b h => by rw [e9, ← k8 b h]; funext j; exact aPut_cell h
    have k10 : ∀ b, b ≠ 201 → M10 b = M b := fun b h => by rw [e10, ← k9 b h]; funext j; exact aPut_cell h
    have hbm : ∀ {K : pMem}, (∀ b, b ≠ 201 → K b = M b) → ∀ i, i < 24 → bo (K 191 i) := fun {K} hK i hi => by
      rw [hK 191 (by decide), (sc_rows hs0).2.2.1]
      exact (hb i hi).2
    obtain ⟨a5, a5'⟩ := D_53_w (nb_ k10) (hbm k10) h5
    have k11 : ∀ b, b ≠ 201 → M11 b = M b := fun b h => by rw [a5', k10 b h]
    obtain ⟨a6, a6'⟩ := D_53_w (nb_ k11) (hbm k11) h6
    have k12 : ∀ b, b ≠ 201 → M12 b = M b := fun b h => by rw [a6', k11 b h]
    have k13 : ∀ b, b ≠ 201 → M13 b = M b := fun b h => by rw [e13, ← k12 b h]; funext j; exact aPut_cell h
    have k14 : ∀ b, b ≠ 201 → M14 b = M b := fun b h => by rw [e14, ← k13 b h]; funext j; exact aPut_cell h
    have kM : ∀ b, b ≠ 201 → M b = M b := fun _ _ => rfl
    rw [(il kM).1, (il kM).2] at a1
    rw [(il k2).1, (il k2).2] at a2
    rw [(il k4).1, (il k4).2] at a3
    rw [(il k6).1, (il k6).2] at a4
    rw [(il k10).1] at a5
    rw [(il k11).1] at a6
    have q20 : M8 188 20 = V 188 20 := by rw [k8 188 (by decide)]; exact sc_r8 hs0 (by decide) (by decide)
    have q54 : M9 188 54 = V 188 54 := by rw [k9 188 (by decide)]; exact sc_r8 hs0 (by decide) (by decide)
    have q17 : M13 188 17 = V 188 17 := by rw [k13 188 (by decide)]; exact sc_r8 hs0 (by decide) (by decide)
    have r201 : M 201 = V 201 := sc_row hs0 (by decide) rfl (by decide)
    have vs : v5 + v6 = kI (cN (thV V) 24 : Nat) := by rw [a5, a6, cN_lots hV, kI_n1]
    rw [hN, if_pos (by omega)]
    intro a j h1 h2
    by_cases ea : a = 201
    · subst ea
      rw [aRow_same', e14, aPut_row, q17, e13, aPut_row, vs, a6', a5', e10, aPut_row, q54, e9, aPut_row, q20, e8', aPut_row, a4', e6, aPut_row, a3', e4, aPut_row, a2', e2, aPut_row, a1', a4, a3, a2, a1, r201]
      unfold keR
      by_cases hj : 8 * d ≤ j ∧ j < 8 * d + 8
      · rw [if_pos hj]
        unfold kpV
        have hj0 : j = 8 * d ∨ j = 8 * d + 1 ∨ j = 8 * d + 2 ∨ j = 8 * d + 3 ∨ j = 8 * d + 4 ∨ j = 8 * d + 5 ∨ j = 8 * d + 6 ∨ j = 8 * d + 7 := by omega
        by_cases c7 : j = 8 * d + 7
        · rw [if_pos c7, if_pos (by omega)]
        · rw [if_neg c7, if_neg (show ¬ j - 8 * d = 7 by omega)]
          by_cases c6 : j = 8 * d + 6
          · rw [if_pos c6, if_pos (by omega)]
          · rw [if_neg c6, if_neg (show ¬ j - 8 * d = 6 by omega)]
            by_cases c5 : j = 8 * d + 5
            · rw [if_pos c5, if_pos (by omega)]
            · rw [if_neg c5, if_neg (show ¬ j - 8 * d = 5 by omega)]
              by_cases c4 : j = 8 * d + 4
              · rw [if_pos c4, if_pos (by omega)]
              · rw [if_neg c4, if_neg (show ¬ j - 8 * d = 4 by omega)]
                by_cases c3 : j = 8 * d + 3
                · rw [if_pos c3, if_pos (by omega)]
                · rw [if_neg c3, if_neg (show ¬ j - 8 * d = 3 by omega)]
                  by_cases c2 : j = 8 * d + 2
                  · rw [if_pos c2, if_pos (by omega)]
                  · rw [if_neg c2, if_neg (show ¬ j - 8 * d = 2 by omega)]
                    by_cases c1 : j = 8 * d + 1
                    · rw [if_pos c1, if_pos (by omega)]
                    · rw [if_neg c1, if_pos (by omega), if_neg (show ¬ j - 8 * d = 1 by omega)]
      · rw [if_neg hj, if_neg (by omega), if_neg (by omega), if_neg (by omega), if_neg (by omega), if_neg (by omega), if_neg (by omega), if_neg (by omega), if_neg (by omega)]
    · rw [aRow_cell ea, k14 a ea]
      exact hs0 a j h1 h2
  · rw [m3, i_lt, hd, kI_toInt (by decide) (by decide)] at g
    rw [hN, if_neg (by omega)]
    intro a j h1 h2
    by_cases ea : a = 201
    · subst ea
      rw [aRow_same']
      exact hs0 201 j h1 h2
    · rw [aRow_cell ea]
      exact hs0 a j h1 h2
/-- the class: the day being over -/
theorem D_218_v {M V : pMem} (hV : rV V) (h : rW 19 M V) (h54 : M 19 11 = V 188 54) {d : Nat} (hd : (V 188 3).toInt = ((d + 1 : Nat) : Int)) (hd2 : d ≤ 100000) {v N} (hD : D_218 M v N) : (∀ k, k < 480 → N 26 k = if d < 60 ∧ 8 * d ≤ k ∧ k < 8 * d + 8 then kpV V (k - 8 * d) else M 26 k) ∧ ∀ b, b ≠ 26 → N b = M b := by
  have hw : pK 10 19 = true := by decide +kernel
  have m4 : (M 19 4).toInt = ((d + 1 : Nat) : Int) := by rw [h.2.2.2.2.1.1]; exact hd
  have fs : ((M 19 4 - kI 1) * kI 8).toInt = 8 * d := by
    have e1 : (M 19 4 - kI 1).toInt = (d : Nat) := dn2 m4
    rw [i_mul (by rw [e1, kI_toInt (by decide) (by decide)]; omega) (by rw [e1, kI_toInt (by decide) (by decide)]; omega), e1, kI_toInt (by decide) (by decide)]
    omega
  have k480 : (Int32.ofNat 480).toInt = 480 := by decide
  have hD := tIf_n (show ¬ (M 19 4 - kI 1) * kI 8 < 0 by rw [i_lt, fs, i_0]; omega) hD
  have pl : ((M 19 4 - kI 1) * kI 8 + kI 8).toInt = 8 * d + 8 := by rw [i_add (by rw [fs, kI_toInt (by decide) (by decide)]; omega) (by rw [fs, kI_toInt (by decide) (by decide)]; omega), fs, kI_toInt (by decide) (by decide)]
  rcases hD with ⟨g, v1, M1, h1, _, M2, e2, v2, M3, h2, _, M4, e4, v3, M5, h3, _, M6, e6, v4, M7, h4, _, M8, e8', _, M9, e9, _, M10, e10, _, M11, e11, _, M12, e12, _, hN⟩ | ⟨g, _, hN⟩
  · rw [i_le, pl, k480] at g
    have d60 : d < 60 := by omega
    have e0 : ix ((M 19 4 - kI 1) * kI 8) = 8 * d := ix_of (by rw [fs]; omega)
    have e8 : ∀ j : Nat, j < 8 → ix ((M 19 4 - kI 1) * kI 8 + kI (j : Nat)) = 8 * d + j := fun j hj =>
      ix_of (by rw [i_add (by rw [fs, kI_toInt (by omega) (by omega)]; omega) (by rw [fs, kI_toInt (by omega) (by omega)]; omega), fs, kI_toInt (by omega) (by omega)]; omega)
    rw [e0] at e2
    rw [show ix ((M 19 4 - kI 1) * kI 8 + kI 1) = 8 * d + 1 from e8 1 (by decide)] at e4
    rw [show ix ((M 19 4 - kI 1) * kI 8 + kI 2) = 8 * d + 2 from e8 2 (by decide)] at e6
    rw [show ix ((M 19 4 - kI 1) * kI 8 + kI 3) = 8 * d + 3 from e8 3 (by decide)] at e8'
    rw [show ix ((M 19 4 - kI 1) * kI 8 + kI 4) = 8 * d + 4 from e8 4 (by decide)] at e9
    rw [show ix ((M 19 4 - kI 1) * kI 8 + kI 5) = 8 * d + 5 from e8 5 (by decide)] at e10
    rw [show ix ((M 19 4 - kI 1) * kI 8 + kI 6) = 8 * d + 6 from e8 6 (by decide)] at e11
    rw [show ix ((M 19 4 - kI 1) * kI 8 + kI 7) = 8 * d + 7 from e8 7 (by decide)] at e12
    have rk : ∀ {K : pMem}, (∀ b, b ≠ 26 → K b = M b) → rW 19 K V := fun hK => rW_eq h fun j hj => hK _ (by omega)
    -- means, in what stands
    have own : ∀ {K K' : pMem} {p y : Int32}, (∀ b, b ≠ 26 → K b = M b) → bo p → D_228 19 p K y K' → y = mnS (inL V p) (inL V p) (lkV V) ∧ K' = K := fun {K K' p y} hK hp hd => by
      obtain ⟨v1, K1, h231, hv, hN⟩ := hd
      obtain ⟨m1, m2⟩ := mem_w hV (rk hK) hp
      obtain ⟨a1, a2⟩ := D_231_w m2 m2 h231
      rw [hv, hN, a2, a1, mn_w (rk hK) m1 m1]
      exact ⟨rfl, rfl⟩
    have acs : ∀ {K K' : pMem} {p y : Int32}, (∀ b, b ≠ 26 → K b = M b) → bo p → D_229 19 p K y K' → y = mnS (inL V p) (inL V (kI 1 - p)) (lkV V) ∧ K' = K := fun {K K' p y} hK hp hd => by
      obtain ⟨v1, K1, h231, hv, hN⟩ := hd
      obtain ⟨m1, m2⟩ := mem_w hV (rk hK) hp
      obtain ⟨o1, o2⟩ := mem_w hV (rk hK) (bo_o hp)
      obtain ⟨a1, a2⟩ := D_231_w m2 o2 h231
      rw [hv, hN, a2, a1, mn_w (rk hK) m1 o1]
      exact ⟨rfl, rfl⟩
    obtain ⟨a1, a1'⟩ := own (fun _ _ => rfl) (Or.inl rfl) h1
    have k2 : ∀ b, b ≠ 26 → M2 b = M b := fun b h => by rw [e2, a1']; funext j; exact aPut_cell h
    obtain ⟨a2, a2'⟩ := own k2 (Or.inr rfl) h2
    have k4 : ∀ b, b ≠ 26 → M4 b = M b := fun b h => by rw [e4, a2', ← k2 b h]; funext j; exact aPut_cell h
    obtain ⟨a3, a3'⟩ := acs k4 (Or.inl rfl) h3
    have k6 : ∀ b, b ≠ 26 → M6 b = M b := fun b h => by rw [e6, a3', ← k4 b h]; funext j; exact aPut_cell h
    obtain ⟨a4, a4'⟩ := acs k6 (Or.inr rfl) h4
    have k8 : ∀ b, b ≠ 26 → M8 b = M b := fun b h => by rw [e8', a4', ← k6 b h]; funext j; exact aPut_cell h
    have k9 : ∀ b, b ≠ 26 → M9 b = M b := fun b h => by rw [e9, ← k8 b h]; funext j; exact aPut_cell h
    have k10 : ∀ b, b ≠ 26 → M10 b = M b := fun b h => by rw [e10, ← k9 b h]; funext j; exact aPut_cell h
    have k11 : ∀ b, b ≠ 26 → M11 b = M b := fun b h => by rw [e11, ← k10 b h]; funext j; exact aPut_cell h
    have k12 : ∀ b, b ≠ 26 → M12 b = M b := fun b h => by rw [e12, ← k11 b h]; funext j; exact aPut_cell h
    rw [show kI 1 - kI 0 = kI 1 by decide] at a3
    rw [show kI 1 - kI 1 = kI 0 by decide] at a4
    have q9 : M8 19 9 = V 188 20 := by rw [k8 19 (by decide)]; exact h.2.2.2.2.1.2.2.2.2.2.1
    have q11 : M9 19 11 = V 188 54 := by rw [k9 19 (by decide)]; exact h54
    have q6 : M11 19 6 = V 188 17 := by rw [k11 19 (by decide)]; exact h.2.2.2.2.1.2.2.1
    have q2 : f_239 (M10 19 2) = kI (cN (thV V) 24 : Nat) := by
      rw [k10 19 (by decide), f239_24 h.2.1.2, cN_cg (q := thV V) fun i hi => by rw [(h.2.2.1 i hi).2.1, ← thV_y hV hi]]
    rw [hN]
    refine ⟨fun j _ => ?_, k12⟩
    rw [e12, aPut_row, q6, e11, aPut_row, q2, e10, aPut_row, q11, e9, aPut_row, q9, e8', aPut_row, a4', e6, aPut_row, a3', e4, aPut_row, a2', e2, aPut_row, a1', a4, a3, a2, a1]
    by_cases hj : 8 * d ≤ j ∧ j < 8 * d + 8
    · rw [if_pos (show d < 60 ∧ 8 * d ≤ j ∧ j < 8 * d + 8 from ⟨d60, hj⟩)]
      unfold kpV
      by_cases c7 : j = 8 * d + 7
      · rw [if_pos c7, if_pos (by omega)]
      · rw [if_neg c7, if_neg (show ¬ j - 8 * d = 7 by omega)]
        by_cases c6 : j = 8 * d + 6
        · rw [if_pos c6, if_pos (by omega)]
        · rw [if_neg c6, if_neg (show ¬ j - 8 * d = 6 by omega)]
          by_cases c5 : j = 8 * d + 5
          · rw [if_pos c5, if_pos (by omega)]
          · rw [if_neg c5, if_neg (show ¬ j - 8 * d = 5 by omega)]
            by_cases c4 : j = 8 * d + 4
            · rw [if_pos c4, if_pos (by omega)]
            · rw [if_neg c4, if_neg (show ¬ j - 8 * d = 4 by omega)]
              by_cases c3 : j = 8 * d + 3
              · rw [if_pos c3, if_pos (by omega)]
              · rw [if_neg c3, if_neg (show ¬ j - 8 * d = 3 by omega)]
                by_cases c2 : j = 8 * d + 2
                · rw [if_pos c2, if_pos (by omega)]
                · rw [if_neg c2, if_neg (show ¬ j - 8 * d = 2 by omega)]
                  by_cases c1 : j = 8 * d + 1
                  · rw [if_pos c1, if_pos (by omega)]
                  · rw [if_neg c1, if_pos (by omega), if_neg (show ¬ j - 8 * d = 1 by omega)]
    · rw [if_neg (show ¬ (d < 60 ∧ 8 * d ≤ j ∧ j < 8 * d + 8) from fun s => hj s.2), if_neg (by omega), if_neg (by omega), if_neg (by omega), if_neg (by omega), if_neg (by omega), if_neg (by omega), if_neg (by omega), if_neg (by omega)]
  · rw [i_le, pl, k480] at g
    rw [hN]
    exact ⟨fun k _ => (if_neg (fun s => by omega)).symm, fun _ _ => rfl⟩
