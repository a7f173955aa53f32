/-! loyal ones, what is kept -/
theorem frs_cg {o : List Cd} {L : List Ln} {V U : pMem} {b : Nat} (h1 : thV U = thV V) (h2 : FcV U b = FcV V b) (h3 : lkV U = lkV V) : frs o L U b = frs o L V b := by
  have c : cnF U b = cnF V b := by
    funext j
    unfold cnF
    rw [h1]
  have w : wtF o L U b = wtF o L V b := by
    funext j
    unfold wtF
    rw [h2, h3]
  unfold frs
  rw [c, w]
theorem acr_cg {o : List Cd} {L : List Ln} {V U : pMem} {b : Nat} (h1 : thV U = thV V) (h2 : FcV U b = FcV V b) (h3 : lkV U = lkV V) (h4 : U 189 = V 189) : acr o L U b = acr o L V b := by
  have a : acF U b (frs o L U b) = acF V b (frs o L V b) := by
    funext k
    unfold acF
    rw [frs_cg h1 h2 h3, h4]
  unfold acr
  rw [a]
/-- where but loyalty and what is kept is the same -/
theorem same_lo {V U : pMem} (h : ∀ b, b ≠ 192 → b ≠ 201 → U b = V b) : thV U = thV V ∧ FcV U = FcV V ∧ lkV U = lkV V ∧ U 189 = V 189 := by
  have e8 := h 188 (by decide) (by decide)
  have fd : FdV U = FdV V := by
    funext lot k
    unfold FdV
    rw [e8]
  have lk : lkV U = lkV V := lkV_c (h 194 (by decide) (by decide))
  refine ⟨?_, ?_, lk, h 189 (by decide) (by decide)⟩
  · funext i
    unfold thV
    rw [h 191 (by decide) (by decide)]
  · funext i j k
    unfold FcV
    rw [h 190 (by decide) (by decide), lk, h 195 (by decide) (by decide), h 189 (by decide) (by decide), fd]
noncomputable def loB (o : List Cd) (L : List Ln) (V : pMem) (i : Nat) : Bool := thV V i && (decide (V 192 i = kI 1) && decide (acr o L V i = 0))
noncomputable def loN (o : List Cd) (L : List Ln) (V : pMem) (n : Nat) : pMem := aRow V 192 fun i => if i < n ∧ loB o L V i = true then kI 0 else V 192 i
theorem loN_c {o : List Cd} {L : List Ln} {V : pMem} {n b : Nat} (h : b ≠ 192) : loN o L V n b = V b := aRow_cell h
theorem loN_v {o : List Cd} {L : List Ln} {V : pMem} {n i : Nat} : loN o L V n 192 i = if i < n ∧ loB o L V i = true then kI 0 else V 192 i := by
  unfold loN
  rw [aRow_same']
/-- loyal ones: as a set, as a row -/
def rLo (w : Nat) (M V : pMem) : Prop := nb (M w 3) ∧ ∀ i, i < 24 → bt (M w 3) i = decide (V 192 i = kI 1)
def rVl (V : pMem) : Prop := ∃ n, rNb V n ∧ ∀ i, i < 24 → bo (V 192 i) ∧ (n ≤ i → V 192 i = 0 ∧ V 189 i = 0)
/-- what of the class stays -/
def frL (w l : Nat) (M N : pMem) : Prop := (∀ a, a ≠ w → (a < 132 ∨ 137 < a) → a ≠ l + 6 → N a = M a) ∧ ∀ j, j ≠ 3 → N w j = M w j
theorem D_190_v {w l : Nat} (hw : pK 10 w = true) (hl : pK 2 l = true) {M V : pMem} (hV : rV V) (h : rW w M V) (hlo : rLo w M V) {o : List Cd} {L : List Ln} (hc : cLk M l o L) {v N} (hD : D_190 w l M v N) : rW w N V ∧ rLo w N (loN o L V 24) ∧ frL w l M N := by
  have lc := lCell hl
  have keep : ∀ {M' : pMem}, frL w l M M' → rW w M' V ∧ cLk M' l o L := fun {M'} hk => by
    refine ⟨?_, cLk_c hc fun a h1 h2 => hk.1 a (fun e => lwCell hl hw (a - l) (by omega) 0 (by decide) (by omega)) (by omega) (by omega)⟩
    obtain ⟨h1, h2, h3, h4, h5, h6⟩ := h
    have c : ∀ j, 0 < j → j < 5 → M' (w + j) = M (w + j) := fun j h0 hj => hk.1 _ (by omega) (wCell2 hw j hj) (fun e => lwCell hl hw 6 (by decide) j hj e.symm)
    refine ⟨by rw [hk.2 0 (by decide)]; exact h1, by rw [hk.2 1 (by decide), hk.2 2 (by decide)]; exact h2, fun i hi => ?_, fun i j hi hj => ?_, by rw [hk.2 4 (by decide), hk.2 5 (by decide), hk.2 6 (by decide), hk.2 7 (by decide), hk.2 8 (by decide), hk.2 9 (by decide), hk.2 10 (by decide)]; exact h5, fun m hm => by rw [c 4 (by decide) (by decide)]; exact h6 m hm⟩
    · rw [hk.2 1 (by decide), hk.2 2 (by decide), c 1 (by decide) (by decide)]
      exact h3 i hi
    · rw [c 2 (by decide) (by decide), c 3 (by decide) (by decide)]
      exact h4 i j hi hj
  have w6 : w ≠ l + 6 := fun e => lwCell hl hw 6 (by decide) 0 (by decide) e.symm
  have w2 := wCell2 hw 0 (by decide)
  have q := hD (fun x3 M' v N => ∀ i : Nat, x3.toInt = i → i ≤ 24 → frL w l M M' → rLo w M' (loN o L V i) → frL w l M N ∧ rLo w N (loN o L V 24)) ?_
  · have z : rLo w M (loN o L V 0) := ⟨hlo.1, fun i hi => by rw [loN_v, if_neg (fun s => by omega)]; exact hlo.2 i hi⟩
    obtain ⟨q1, q2⟩ := q 0 rfl (Nat.zero_le _) ⟨fun _ _ _ _ => rfl, fun _ _ => rfl⟩ z
    exact ⟨(keep q1).1, q2, q1⟩
  · intro x3 M' v N hs i hi hi24 hf hL
    obtain ⟨kW, kL⟩ := keep hf
    rcases hs with ⟨g, _, hN⟩ | ⟨g, hs⟩
    · rw [i_le, hi, kI_toInt (by decide) (by decide)] at g
      have e : i = 24 := by omega
      rw [e] at hL
      rw [hN]
      exact ⟨hf, hL⟩
    · rw [i_le, hi, kI_toInt (by decide) (by decide)] at g
      have bits : bt ((M' w 2) &&& (M' w 3)) i = (thV V i && decide (V 192 i = kI 1)) := by
        rw [bt_and, (kW.2.2.1 i (by omega)).2.1, ← thV_y hV (by omega), hL.2 i (by omega), loN_v, if_neg (fun s => by omega)]
      -- from i to i + 1, where it stays so
      have stay : ∀ {M2 : pMem}, loB o L V i = false → M2 w 3 = M' w 3 → rLo w M2 (loN o L V (i + 1)) := fun e e3 => by
        refine ⟨by rw [e3]; exact hL.1, fun j hj => ?_⟩
        rw [e3, hL.2 j hj, loN_v, loN_v]
        by_cases q : j = i
        · rw [q, e, if_neg (fun s => by cases s.2), if_neg (fun s => by cases s.2)]
        · by_cases r : j < i ∧ loB o L V j = true
          · rw [if_pos r, if_pos ⟨by omega, r.2⟩]
          · rw [if_neg r, if_neg (fun s => r ⟨by omega, s.2⟩)]
      rcases hs with ⟨g2, hs⟩ | ⟨g2, _, M1, h185, v2, M2, h187, hs⟩
      · rw [f37_n hi (by omega), bits] at g2
        refine hs (i + 1) (n_add1 hi (by omega)) (by omega) hf (stay ?_ rfl)
        unfold loB
        rw [← Bool.and_assoc, g2]
        rfl
      · rw [f37_y hi (by omega), bits] at g2
        obtain ⟨a1, a2, a3⟩ := D_185_v hw hl hV kW kL hi (by omega) h185
        have f1 : frL w l M M1 := ⟨fun a h1 h2 h3 => (a3 a h2 h3).trans (hf.1 a h1 h2 h3), fun j hj => by rw [a3 w w2 w6]; exact hf.2 j hj⟩
        obtain ⟨b1, b2⟩ := D_187_v hV (keep f1).1 a2 hi (by omega) h187
        have va : v2 = acr o L V i := by
          rw [b1]
          unfold acr
          rw [acF_cg a1]
        rw [b2] at hs
        have e3 : M1 w 3 = M' w 3 := by rw [a3 w w2 w6]
        rcases hs with ⟨g3, hs⟩ | ⟨g3, M3, e4, hs⟩
        · refine hs (i + 1) (n_add1 hi (by omega)) (by omega) f1 (stay ?_ e3)
          unfold loB
          rw [decide_eq_false (show ¬ acr o L V i = 0 by rw [← va]; exact g3), Bool.and_false, Bool.and_false]
        · have hy : loB o L V i = true := by
            unfold loB
            rw [← Bool.and_assoc, g2, decide_eq_true (show acr o L V i = 0 by rw [← va]; exact Classical.not_not.mp g3)]
            rfl
          refine hs (i + 1) (n_add1 hi (by omega)) (by omega) ⟨fun a h1 h2 h3 => ?_, fun j hj => ?_⟩ ⟨?_, fun j hj => ?_⟩
          · rw [← f1.1 a h1 h2 h3, e4]
            funext k
            exact aPut_cell h1
          · rw [e4, aPut_at hj]
            exact f1.2 j hj
          · rw [e4, aPut_same, e3]
            exact nb_and hL.1
          · rw [e4, aPut_same, e3, bt_and, bt_not (by omega), bt_sh hi (by omega), hL.2 j hj, loN_v, loN_v]
            by_cases q : j = i
            · rw [q, decide_eq_true (show i = i from rfl), Bool.not_true, Bool.and_false, if_pos ⟨by omega, hy⟩]
              decide
            · rw [decide_eq_false q, Bool.not_false, Bool.and_true]
              by_cases r : j < i ∧ loB o L V j = true
              · rw [if_pos r, if_pos ⟨by omega, r.2⟩]
              · rw [if_neg r, if_neg (fun s => r ⟨by omega, s.2⟩)]
/-- the reference -/
theorem rV_lo {o : List Cd} {L : List Ln} {V : pMem} {n : Nat} (h : rV V) : rV (loN o L V n) := by
  obtain ⟨⟨m, n1, n2, n3⟩, h2, h3, h4⟩ := h
  exact ⟨⟨m, n1, by rw [loN_c (by decide)]; exact n2, by rw [loN_c (by decide)]; exact n3⟩, by rw [loN_c (by decide), loN_c (by decide)]; exact h2, by rw [loN_c (by decide)]; exact h3, by rw [loN_c (by decide)]; exact h4⟩
theorem rLk_lo {o' o : List Cd} {L' L : List Ln} {V : pMem} {k n : Nat} (h : rLk V k o' L') : rLk (loN o L V n) k o' L' := rLk_v h (fun b h1 _ => loN_c (by omega)) (by rw [loN_c (by decide)])
theorem loN_24 {o : List Cd} {L : List Ln} {V : pMem} {n : Nat} (hn : rNb V n) : ∀ i, i < 24 → loN o L V n 192 i = loN o L V 24 192 i := fun i hi => by
  rw [loN_v, loN_v]
  by_cases q : i < n
  · by_cases r : loB o L V i = true
    · rw [if_pos ⟨q, r⟩, if_pos ⟨hi, r⟩]
    · rw [if_neg (fun s => r s.2), if_neg (fun s => r s.2)]
  · rw [if_neg (fun s => q s.1), if_neg]
    rintro ⟨_, s⟩
    unfold loB at s
    rw [thV_0 hn (by omega) hi] at s
    cases s
theorem D_99_v {k : Nat} {o : List Cd} {L : List Ln} {M V : pMem} (hs0 : sc V M) (hV : rV V) (hc : rLk V k o L) {n : Nat} (hn : rNb V n) {v N} (h : D_99 M v N) : sc (loN o L V n) N := by
  obtain ⟨n24, hn2, hn3⟩ := id hn
  have z : loN o L V 0 = V := by
    funext a j
    by_cases e : a = 192
    · subst e
      rw [loN_v, if_neg (fun s => by omega)]
    · rw [loN_c e]
  have q := h (fun x1 M' v N => ∀ i : Nat, x1.toInt = i → i ≤ n → sc (loN o L V i) M' → sc (loN o L V n) N) ?_
  · exact q 0 rfl (Nat.zero_le _) (by rw [z]; exact hs0)
  · intro x1 M' v N hs i hi hin hM
    have m2 : M' 188 2 = V 188 2 := by rw [sc_r8 hM (by decide) (by decide), loN_c (by decide)]
    rcases hs with ⟨g, _, hN⟩ | ⟨g, _, hs⟩
    · rw [m2, i_le, hi, hn2] at g
      have e : i = n := by omega
      rw [e] at hM
      rw [hN]
      exact hM
    · rw [m2, i_le, hi, hn2] at g
      have r192 : M' 192 = loN o L V i 192 := sc_row hM (by decide) rfl (by decide)
      rw [(sc_rows hM).2.2.1, loN_c (by decide), ix_of hi, r192, loN_v, if_neg (fun s => by omega)] at hs
      have stay : loB o L V i = false → loN o L V (i + 1) = loN o L V i := fun e => by
        unfold loN
        congr 1
        funext j
        by_cases q : j = i
        · rw [q, e, if_neg (fun s => by cases s.2), if_neg (fun s => by cases s.2)]
        · by_cases r : j < i ∧ loB o L V j = true
          · rw [if_pos r, if_pos ⟨by omega, r.2⟩]
          · rw [if_neg r, if_neg (fun s => r ⟨by omega, s.2⟩)]
      rcases hs with ⟨g2, hs⟩ | ⟨g2, _, hs⟩
      · refine hs (i + 1) (n_add1 hi (by omega)) (by omega) ?_
        rw [stay]
        · exact hM
        · unfold loB
          rw [thV_y hV (by omega), decide_eq_false g2]
          rfl
      · rcases hs with ⟨g3, hs⟩ | ⟨g3, v1, M1, h97, hs⟩
        · refine hs (i + 1) (n_add1 hi (by omega)) (by omega) ?_
          rw [stay]
          · exact hM
          · unfold loB
            rw [decide_eq_false g3, Bool.false_and, Bool.and_false]
        · have sl := same_lo (V := V) (U := loN o L V i) (fun b h1 _ => loN_c h1)
          have nl : rNb (loN o L V i) n := ⟨n24, by rw [loN_c (by decide)]; exact hn2, by rw [loN_c (by decide)]; exact hn3⟩
          obtain ⟨a1, a2⟩ := D_97_v hM (rV_lo hV) (rLk_lo hc) nl hi (by omega) h97
          rw [acr_cg sl.1 (by rw [sl.2.1]) sl.2.2.1 sl.2.2.2] at a1
          have s1 := sc_t hM (sc_96 a2)
          have yes : loB o L V i = decide (acr o L V i = 0) := by
            unfold loB
            rw [thV_y hV (by omega), decide_eq_true (Classical.not_not.mp g2), decide_eq_true (Classical.not_not.mp g3), Bool.true_and, Bool.true_and]
          rcases hs with ⟨g4, hs⟩ | ⟨g4, _, M2, e2, hs⟩
          · refine hs (i + 1) (n_add1 hi (by omega)) (by omega) ?_
            rw [stay]
            · exact s1
            · rw [yes, decide_eq_false (show ¬ acr o L V i = 0 by rw [← a1]; exact g4)]
          · refine hs (i + 1) (n_add1 hi (by omega)) (by omega) ?_
            have hy : loB o L V i = true := by rw [yes, decide_eq_true (show acr o L V i = 0 by rw [← a1]; exact Classical.not_not.mp g4)]
            have e : loN o L V (i + 1) = aPut (loN o L V i) 192 i (kI 0) := by
              funext a j
              by_cases ea : a = 192
              · subst ea
                rw [aPut_row, loN_v, loN_v]
                by_cases q : j = i
                · rw [if_pos q, if_pos ⟨by omega, by rw [q]; exact hy⟩]
                · rw [if_neg q]
                  by_cases r : j < i ∧ loB o L V j = true
                  · rw [if_pos r, if_pos ⟨by omega, r.2⟩]
                  · rw [if_neg r, if_neg (fun s => r ⟨by omega, s.2⟩)]
              · rw [aPut_cell ea, loN_c ea, loN_c ea]
            rw [e, e2]
            exact sc_p s1 rfl
/-! what is kept of a day -/
def kpV (V : pMem) (m : Nat) : Int32 := if m = 7 then V 188 17 else if m = 6 then kI (cN (thV V) 24 : Nat) else if m = 5 then V 188 54 else if m = 4 then V 188 20 else if m = 3 then mnS (inL V (kI 1)) (inL V (kI 0)) (lkV V)
  else if m = 2 then mnS (inL V (kI 0)) (inL V (kI 1)) (lkV V) else if m = 1 then mnS (inL V (kI 1)) (inL V (kI 1)) (lkV V) else mnS (inL V (kI 0)) (inL V (kI 0)) (lkV V)
/-- the row, d days being by -/
def keR (V : pMem) (d : Nat) (k : Nat) : Int32 := if 8 * d ≤ k ∧ k < 8 * d + 8 then kpV V (k - 8 * d) else V 201 k
theorem cN_lots {V : pMem} (hV : rV V) : cN (thV V) 24 = cN (inL V (kI 0)) 24 + cN (inL V (kI 1)) 24 := by
  have key : ∀ n, n ≤ 24 → cN (thV V) n = cN (inL V (kI 0)) n + cN (inL V (kI 1)) n := by
    intro n
    induction n with
    | zero => intro _; rfl
    | succ n ih =>
      intro hn
      show cN (thV V) n + _ = cN (inL V (kI 0)) n + (if inL V (kI 0) n = true then 1 else 0) + (cN (inL V (kI 1)) n + (if inL V (kI 1) n = true then 1 else 0))
      rw [ih (by omega)]
      have e : (if thV V n = true then 1 else 0) = (if inL V (kI 0) n = true then 1 else 0) + (if inL V (kI 1) n = true then 1 else 0) := by
        unfold inL
        rcases (hV.2.1 n (by omega)).1 with q | q
        · rw [q]
          cases thV V n <;> rfl
        · rw [q]
          cases thV V n <;> rfl
      rw [e]
      omega
  exact key 24 (Nat.le_refl _)
theorem D_100_v {M V : pMem} (hs0 : sc V M) (hV : rV V) {d : Nat} (hd : (V 188 3).toInt = d) {v N} (h : D_100 M v N) : sc (aRow V 201 (if d < 60 then keR V d else V 201)) N := by
  obtain ⟨⟨n, hn⟩, hb, hk, hl⟩ := id hV
  have m3 : M 188 3 = V 188 3 := sc_r8 hs0 (by decide) (by decide)
  rcases h with ⟨g, h⟩ | ⟨g, _, hN⟩
  · rw [m3, i_lt, hd, kI_toInt (by decide) (by decide)] at g
    have e8 : ∀ j : Nat, j < 8 → ix (kI 8 * M 188 3 + kI (j : Nat)) = 8 * d + j := fun j hj => by
      have a : (kI 8 * M 188 3).toInt = 8 * d := by rw [m3, i_mul (by rw [hd, kI_toInt (by decide) (by decide)]; omega) (by rw [hd, kI_toInt (by decide) (by decide)]; omega), hd, kI_toInt (by decide) (by decide)]
      exact ix_of (by rw [i_add (by rw [a, kI_toInt (by omega) (by omega)]; omega) (by rw [a, kI_toInt (by omega) (by omega)]; omega), a, kI_toInt (by omega) (by omega)]; omega)
    have e0 : ix (kI 8 * M 188 3) = 8 * d := by
      have a : (kI 8 * M 188 3).toInt = ((8 * d : Nat) : Int) := by rw [m3, i_mul (by rw [hd, kI_toInt (by decide) (by decide)]; omega) (by rw [hd, kI_toInt (by decide) (by decide)]; omega), hd, kI_toInt (by decide) (by decide)]; omega
      exact ix_of a
    obtain ⟨v1, M1, h1, _, M2, e2, v2, M3, h2, _, M4, e4, v3, M5, h3, _, M6, e6, v4, M7, h4, _, M8, e8', _, M9, e9, _, M10, e10, v5, M11, h5, v6, M12, h6, _, M13, e13, _, M14, e14, _, hN⟩ := h
    rw [e0] at e2
    rw [show ix (kI 8 * M 188 3 + kI 1) = 8 * d + 1 from e8 1 (by decide)] at e4
    rw [show ix (kI 8 * M 188 3 + kI 2) = 8 * d + 2 from e8 2 (by decide)] at e6
    rw [show ix (kI 8 * M 188 3 + kI 3) = 8 * d + 3 from e8 3 (by decide)] at e8'
    rw [show ix (kI 8 * M 188 3 + kI 4) = 8 * d + 4 from e8 4 (by decide)] at e9
    rw [show ix (kI 8 * M 188 3 + kI 5) = 8 * d + 5 from e8 5 (by decide)] at e10
    rw [show ix (kI 8 * M 188 3 + kI 6) = 8 * d + 6 from e8 6 (by decide)] at e13
    rw [show ix (kI 8 * M 188 3 + kI 7) = 8 * d + 7 from e8 7 (by decide)] at e14
    have nM := rNb_sc hs0 hn
    have c2 : ∀ b, b ≠ 201 → M2 b = M1 b := fun b h => by rw [e2]; funext j; exact aPut_cell h
    obtain ⟨a1, a1'⟩ := D_54_w nM h1
    have k2 : ∀ b, b ≠ 201 → M2 b = M b := fun b h => by rw [c2 b h, a1']
    have nb_ : ∀ {K : pMem}, (∀ b, b ≠ 201 → K b = M b) → rNb K n := fun {K} hK => ⟨nM.1, by rw [hK 188 (by decide)]; exact nM.2.1, by rw [hK 191 (by decide)]; exact nM.2.2⟩
    have il : ∀ {K : pMem}, (∀ b, b ≠ 201 → K b = M b) → inL K = inL V ∧ lkV K = lkV V := fun {K} hK => by
      refine ⟨?_, ?_⟩
      · rw [← inL_sc hs0]
        exact funext fun _ => inL_c (hK 191 (by decide)) (hK 189 (by decide))
      · rw [← lkV_sc hs0]
        exact lkV_c (hK 194 (by decide))
    obtain ⟨a2, a2'⟩ := D_54_w (nb_ k2) h2
    have k4 : ∀ b, b ≠ 201 → M4 b = M b := fun b h => by rw [e4, a2', ← k2 b h]; funext j; exact aPut_cell h
    obtain ⟨a3, a3'⟩ := D_54_w (nb_ k4) h3
    have k6 : ∀ b, b ≠ 201 → M6 b = M b := fun b h => by rw [e6, a3', ← k4 b h]; funext j; exact aPut_cell h
    obtain ⟨a4, a4'⟩ := D_54_w (nb_ k6) h4
    have k8 : ∀ b, b ≠ 201 → M8 b = M b := fun b h => by rw [e8', a4', ← k6 b h]; funext j; exact aPut_cell h
    have k9 : ∀ b, b ≠ 201 → M9 b = M b := fun b h => by rw [e9, ← k8 b h]; funext j; exact aPut_cell h
    have k10 : ∀ b, b ≠ 201 → M10 b = M b := fun b h => by rw [e10, ← k9 b h]; funext j; exact aPut_cell h
    have hbm : ∀ {K : pMem}, (∀ b, b ≠ 201 → K b = M b) → ∀ i, i < 24 → bo (K 191 i) := fun {K} hK i hi => by
      rw [hK 191 (by decide), (sc_rows hs0).2.2.1]
      exact (hb i hi).2
    obtain ⟨a5, a5'⟩ := D_53_w (nb_ k10) (hbm k10) h5
    have k11 : ∀ b, b ≠ 201 → M11 b = M b := fun b h => by rw [a5', k10 b h]
    obtain ⟨a6, a6'⟩ := D_53_w (nb_ k11) (hbm k11) h6
    have k12 : ∀ b, b ≠ 201 → M12 b = M b := fun b h => by rw [a6', k11 b h]
    have k13 : ∀ b, b ≠ 201 → M13 b = M b := fun b h => by rw [e13, ← k12 b h]; funext j; exact aPut_cell h
    have k14 : ∀ b, b ≠ 201 → M14 b = M b := fun b h => by rw [e14, ← k13 b h]; funext j; exact aPut_cell h
    have kM : ∀ b, b ≠ 201 → M b = M b := fun _ _ => rfl
    rw [(il kM).1, (il kM).2] at a1
    rw [(il k2).1, (il k2).2] at a2
    rw [(il k4).1, (il k4).2] at a3
    rw [(il k6).1, (il k6).2] at a4
    rw [(il k10).1] at a5
    rw [(il k11).1] at a6
    have q20 : M8 188 20 = V 188 20 := by rw [k8 188 (by decide)]; exact sc_r8 hs0 (by decide) (by decide)
    have q54 : M9 188 54 = V 188 54 := by rw [k9 188 (by decide)]; exact sc_r8 hs0 (by decide) (by decide)
    have q17 : M13 188 17 = V 188 17 := by rw [k13 188 (by decide)]; exact sc_r8 hs0 (by decide) (by decide)
    have r201 : M 201 = V 201 := sc_row hs0 (by decide) rfl (by decide)
    have vs : v5 + v6 = kI (cN (thV V) 24 : Nat) := by rw [a5, a6, cN_lots hV, kI_n1]
    rw [hN, if_pos (by omega)]
    intro a j h1 h2
    by_cases ea : a = 201
    · subst ea
      rw [aRow_same', e14, aPut_row, q17, e13, aPut_row, vs, a6', a5', e10, aPut_row, q54, e9, aPut_row, q20, e8', aPut_row, a4', e6, aPut_row, a3', e4, aPut_row, a2', e2, aPut_row, a1', a4, a3, a2, a1, r201]
      unfold keR
      by_cases hj : 8 * d ≤ j ∧ j < 8 * d + 8
      · rw [if_pos hj]
        unfold kpV
        have hj0 : j = 8 * d ∨ j = 8 * d + 1 ∨ j = 8 * d + 2 ∨ j = 8 * d + 3 ∨ j = 8 * d + 4 ∨ j = 8 * d + 5 ∨ j = 8 * d + 6 ∨ j = 8 * d + 7 := by omega
        by_cases c7 : j = 8 * d + 7
        · rw [if_pos c7, if_pos (by omega)]
        · rw [if_neg c7, if_neg (show ¬ j - 8 * d = 7 by omega)]
          by_cases c6 : j = 8 * d + 6
          · rw [if_pos c6, if_pos (by omega)]
          · rw [if_neg c6, if_neg (show ¬ j - 8 * d = 6 by omega)]
            by_cases c5 : j = 8 * d + 5
            · rw [if_pos c5, if_pos (by omega)]
            · rw [if_neg c5, if_neg (show ¬ j - 8 * d = 5 by omega)]
              by_cases c4 : j = 8 * d + 4
              · rw [if_pos c4, if_pos (by omega)]
              · rw [if_neg c4, if_neg (show ¬ j - 8 * d = 4 by omega)]
                by_cases c3 : j = 8 * d + 3
                · rw [if_pos c3, if_pos (by omega)]
                · rw [if_neg c3, if_neg (show ¬ j - 8 * d = 3 by omega)]
                  by_cases c2 : j = 8 * d + 2
                  · rw [if_pos c2, if_pos (by omega)]
                  · rw [if_neg c2, if_neg (show ¬ j - 8 * d = 2 by omega)]
                    by_cases c1 : j = 8 * d + 1
                    · rw [if_pos c1, if_pos (by omega)]
                    · rw [if_neg c1, if_pos (by omega), if_neg (show ¬ j - 8 * d = 1 by omega)]
      · rw [if_neg hj, if_neg (by omega), if_neg (by omega), if_neg (by omega), if_neg (by omega), if_neg (by omega), if_neg (by omega), if_neg (by omega), if_neg (by omega)]
    · rw [aRow_cell ea, k14 a ea]
      exact hs0 a j h1 h2
  · rw [m3, i_lt, hd, kI_toInt (by decide) (by decide)] at g
    rw [hN, if_neg (by omega)]
    intro a j h1 h2
    by_cases ea : a = 201
    · subst ea
      rw [aRow_same']
      exact hs0 201 j h1 h2
    · rw [aRow_cell ea]
      exact hs0 a j h1 h2
/-- the class: the day being over -/
theorem D_218_v {M V : pMem} (hV : rV V) (h : rW 19 M V) (h54 : M 19 11 = V 188 54) {d : Nat} (hd : (V 188 3).toInt = ((d + 1 : Nat) : Int)) (hd2 : d ≤ 100000) {v N} (hD : D_218 M v N) : (∀ k, k < 480 → N 26 k = if d < 60 ∧ 8 * d ≤ k ∧ k < 8 * d + 8 then kpV V (k - 8 * d) else M 26 k) ∧ ∀ b, b ≠ 26 → N b = M b := by
  have hw : pK 10 19 = true := by decide +kernel
  have m4 : (M 19 4).toInt = ((d + 1 : Nat) : Int) := by rw [h.2.2.2.2.1.1]; exact hd
  have fs : ((M 19 4 - kI 1) * kI 8).toInt = 8 * d := by
    have e1 : (M 19 4 - kI 1).toInt = (d : Nat) := dn2 m4
    rw [i_mul (by rw [e1, kI_toInt (by decide) (by decide)]; omega) (by rw [e1, kI_toInt (by decide) (by decide)]; omega), e1, kI_toInt (by decide) (by decide)]
    omega
  have k480 : (Int32.ofNat 480).toInt = 480 := by decide
  have hD := tIf_n (show ¬ (M 19 4 - kI 1) * kI 8 < 0 by rw [i_lt, fs, i_0]; omega) hD
  have pl : ((M 19 4 - kI 1) * kI 8 + kI 8).toInt = 8 * d + 8 := by rw [i_add (by rw [fs, kI_toInt (by decide) (by decide)]; omega) (by rw [fs, kI_toInt (by decide) (by decide)]; omega), fs, kI_toInt (by decide) (by decide)]
  rcases hD with ⟨g, v1, M1, h1, _, M2, e2, v2, M3, h2, _, M4, e4, v3, M5, h3, _, M6, e6, v4, M7, h4, _, M8, e8', _, M9, e9, _, M10, e10, _, M11, e11, _, M12, e12, _, hN⟩ | ⟨g, _, hN⟩
  · rw [i_le, pl, k480] at g
    have d60 : d < 60 := by omega
    have e0 : ix ((M 19 4 - kI 1) * kI 8) = 8 * d := ix_of (by rw [fs]; omega)
    have e8 : ∀ j : Nat, j < 8 → ix ((M 19 4 - kI 1) * kI 8 + kI (j : Nat)) = 8 * d + j := fun j hj =>
      ix_of (by rw [i_add (by rw [fs, kI_toInt (by omega) (by omega)]; omega) (by rw [fs, kI_toInt (by omega) (by omega)]; omega), fs, kI_toInt (by omega) (by omega)]; omega)
    rw [e0] at e2
    rw [show ix ((M 19 4 - kI 1) * kI 8 + kI 1) = 8 * d + 1 from e8 1 (by decide)] at e4
    rw [show ix ((M 19 4 - kI 1) * kI 8 + kI 2) = 8 * d + 2 from e8 2 (by decide)] at e6
    rw [show ix ((M 19 4 - kI 1) * kI 8 + kI 3) = 8 * d + 3 from e8 3 (by decide)] at e8'
    rw [show ix ((M 19 4 - kI 1) * kI 8 + kI 4) = 8 * d + 4 from e8 4 (by decide)] at e9
    rw [show ix ((M 19 4 - kI 1) * kI 8 + kI 5) = 8 * d + 5 from e8 5 (by decide)] at e10
    rw [show ix ((M 19 4 - kI 1) * kI 8 + kI 6) = 8 * d + 6 from e8 6 (by decide)] at e11
    rw [show ix ((M 19 4 - kI 1) * kI 8 + kI 7) = 8 * d + 7 from e8 7 (by decide)] at e12
    have rk : ∀ {K : pMem}, (∀ b, b ≠ 26 → K b = M b) → rW 19 K V := fun hK => rW_eq h fun j hj => hK _ (by omega)
    -- means, in what stands
    have own : ∀ {K K' : pMem} {p y : Int32}, (∀ b, b ≠ 26 → K b = M b) → bo p → D_228 19 p K y K' → y = mnS (inL V p) (inL V p) (lkV V) ∧ K' = K := fun {K K' p y} hK hp hd => by
      obtain ⟨v1, K1, h231, hv, hN⟩ := hd
      obtain ⟨m1, m2⟩ := mem_w hV (rk hK) hp
      obtain ⟨a1, a2⟩ := D_231_w m2 m2 h231
      rw [hv, hN, a2, a1, mn_w (rk hK) m1 m1]
      exact ⟨rfl, rfl⟩
    have acs : ∀ {K K' : pMem} {p y : Int32}, (∀ b, b ≠ 26 → K b = M b) → bo p → D_229 19 p K y K' → y = mnS (inL V p) (inL V (kI 1 - p)) (lkV V) ∧ K' = K := fun {K K' p y} hK hp hd => by
      obtain ⟨v1, K1, h231, hv, hN⟩ := hd
      obtain ⟨m1, m2⟩ := mem_w hV (rk hK) hp
      obtain ⟨o1, o2⟩ := mem_w hV (rk hK) (bo_o hp)
      obtain ⟨a1, a2⟩ := D_231_w m2 o2 h231
      rw [hv, hN, a2, a1, mn_w (rk hK) m1 o1]
      exact ⟨rfl, rfl⟩
    obtain ⟨a1, a1'⟩ := own (fun _ _ => rfl) (Or.inl rfl) h1
    have k2 : ∀ b, b ≠ 26 → M2 b = M b := fun b h => by rw [e2, a1']; funext j; exact aPut_cell h
    obtain ⟨a2, a2'⟩ := own k2 (Or.inr rfl) h2
    have k4 : ∀ b, b ≠ 26 → M4 b = M b := fun b h => by rw [e4, a2', ← k2 b h]; funext j; exact aPut_cell h
    obtain ⟨a3, a3'⟩ := acs k4 (Or.inl rfl) h3
    have k6 : ∀ b, b ≠ 26 → M6 b = M b := fun b h => by rw [e6, a3', ← k4 b h]; funext j; exact aPut_cell h
    obtain ⟨a4, a4'⟩ := acs k6 (Or.inr rfl) h4
    have k8 : ∀ b, b ≠ 26 → M8 b = M b := fun b h => by rw [e8', a4', ← k6 b h]; funext j; exact aPut_cell h
    have k9 : ∀ b, b ≠ 26 → M9 b = M b := fun b h => by rw [e9, ← k8 b h]; funext j; exact aPut_cell h
    have k10 : ∀ b, b ≠ 26 → M10 b = M b := fun b h => by rw [e10, ← k9 b h]; funext j; exact aPut_cell h
    have k11 : ∀ b, b ≠ 26 → M11 b = M b := fun b h => by rw [e11, ← k10 b h]; funext j; exact aPut_cell h
    have k12 : ∀ b, b ≠ 26 → M12 b = M b := fun b h => by rw [e12, ← k11 b h]; funext j; exact aPut_cell h
    rw [show kI 1 - kI 0 = kI 1 by decide] at a3
    rw [show kI 1 - kI 1 = kI 0 by decide] at a4
    have q9 : M8 19 9 = V 188 20 := by rw [k8 19 (by decide)]; exact h.2.2.2.2.1.2.2.2.2.2.1
    have q11 : M9 19 11 = V 188 54 := by rw [k9 19 (by decide)]; exact h54
    have q6 : M11 19 6 = V 188 17 := by rw [k11 19 (by decide)]; exact h.2.2.2.2.1.2.2.1
    have q2 : f_239 (M10 19 2) = kI (cN (thV V) 24 : Nat) := by
      rw [k10 19 (by decide), f239_24 h.2.1.2, cN_cg (q := thV V) fun i hi => by rw [(h.2.2.1 i hi).2.1, ← thV_y hV hi]]
    rw [hN]
    refine ⟨fun j _ => ?_, k12⟩
    rw [e12, aPut_row, q6, e11, aPut_row, q2, e10, aPut_row, q11, e9, aPut_row, q9, e8', aPut_row, a4', e6, aPut_row, a3', e4, aPut_row, a2', e2, aPut_row, a1', a4, a3, a2, a1]
    by_cases hj : 8 * d ≤ j ∧ j < 8 * d + 8
    · rw [if_pos (show d < 60 ∧ 8 * d ≤ j ∧ j < 8 * d + 8 from ⟨d60, hj⟩)]
      unfold kpV
      by_cases c7 : j = 8 * d + 7
      · rw [if_pos c7, if_pos (by omega)]
      · rw [if_neg c7, if_neg (show ¬ j - 8 * d = 7 by omega)]
        by_cases c6 : j = 8 * d + 6
        · rw [if_pos c6, if_pos (by omega)]
        · rw [if_neg c6, if_neg (show ¬ j - 8 * d = 6 by omega)]
          by_cases c5 : j = 8 * d + 5
          · rw [if_pos c5, if_pos (by omega)]
          · rw [if_neg c5, if_neg (show ¬ j - 8 * d = 5 by omega)]
            by_cases c4 : j = 8 * d + 4
            · rw [if_pos c4, if_pos (by omega)]
            · rw [if_neg c4, if_neg (show ¬ j - 8 * d = 4 by omega)]
              by_cases c3 : j = 8 * d + 3
              · rw [if_pos c3, if_pos (by omega)]
              · rw [if_neg c3, if_neg (show ¬ j - 8 * d = 3 by omega)]
                by_cases c2 : j = 8 * d + 2
                · rw [if_pos c2, if_pos (by omega)]
                · rw [if_neg c2, if_neg (show ¬ j - 8 * d = 2 by omega)]
                  by_cases c1 : j = 8 * d + 1
                  · rw [if_pos c1, if_pos (by omega)]
                  · rw [if_neg c1, if_pos (by omega), if_neg (show ¬ j - 8 * d = 1 by omega)]
    · rw [if_neg (show ¬ (d < 60 ∧ 8 * d ≤ j ∧ j < 8 * d + 8) from fun s => hj s.2), if_neg (by omega), if_neg (by omega), if_neg (by omega), if_neg (by omega), if_neg (by omega), if_neg (by omega), if_neg (by omega), if_neg (by omega)]
  · rw [i_le, pl, k480] at g
    rw [hN]
    exact ⟨fun k _ => (if_neg (fun s => by omega)).symm, fun _ _ => rfl⟩
/-! all that is told, on both sides: the class's at t, the reference's where V says -/
def rLw (l : Nat) (M V : pMem) (k : Nat) : Prop := ∃ o L, clLaw M l o L ∧ rfLaw (V 204 k) (V 205) (V 206) (V 207) (V 208) (16 * k) (V 209 k) (V 210) (V 211) (500 * k) o L ∧ (rcO o).length ≤ 500 ∧ wfLw o L
def rOt (t : Nat) (M V : pMem) : Prop := (M t 7 = V 188 4 ∧ 0 ≤ (V 188 4).toInt ∧ (V 188 4).toInt < 4) ∧ (M t 8 = V 188 71 ∧ 0 ≤ (V 188 71).toInt ∧ (V 188 71).toInt ≤ 5) ∧
  (∀ i, i < 24 → bo (V 226 i) ∧ M (t + 10) i = (if V 226 i = 0 then kI (-100) else V 227 i) ∧ (¬ V 226 i = 0 → -50 ≤ (V 227 i).toInt ∧ (V 227 i).toInt ≤ 50)) ∧
  ∀ i, i < 24 → M (t + 11) i = V 193 i ∧ 0 ≤ (V 193 i).toInt ∧ (V 193 i).toInt ≤ 99
def rT (t : Nat) (M V : pMem) : Prop := (rV V ∧ rVl V ∧ 0 ≤ (V 188 3).toInt ∧ (V 188 3).toInt ≤ 60) ∧ (rW (t + 1) M V ∧ rLo (t + 1) M V) ∧ (∀ k, k < 480 → M (t + 8) k = V 201 k) ∧ (∀ k, k < 4 → rLw (t + 12 + 11 * k) M V k) ∧ rOt t M V
/-- the class's cells of t in N as those of s in M -/
def cpC (t s : Nat) (M N : pMem) : Prop :=
  (∀ j, j < 12 → N (t + 1) j = M (s + 1) j) ∧ (∀ i, i < 24 → N (t + 2) i = M (s + 2) i ∧ N (t + 3) i = M (s + 3) i) ∧ (∀ i, i < 576 → N (t + 4) i = M (s + 4) i) ∧ (∀ i, i < 18 → N (t + 5) i = M (s + 5) i) ∧
  (∀ k, k < 4 → N (t + 12 + 11 * k) 0 = M (s + 12 + 11 * k) 0 ∧ (∀ i, i < 16 → N (t + 13 + 11 * k) i = M (s + 13 + 11 * k) i ∧ N (t + 14 + 11 * k) i = M (s + 14 + 11 * k) i ∧ N (t + 15 + 11 * k) i = M (s + 15 + 11 * k) i ∧ N (t + 16 + 11 * k) i = M (s + 16 + 11 * k) i) ∧ (∀ i, i < 500 → N (t + 17 + 11 * k) i = M (s + 17 + 11 * k) i)) ∧
  (∀ i, i < 480 → N (t + 8) i = M (s + 8) i) ∧ (∀ i, i < 24 → N (t + 10) i = M (s + 10) i ∧ N (t + 11) i = M (s + 11) i) ∧ N t 7 = M s 7 ∧ N t 8 = M s 8
theorem cpC_T {d s : Nat} {M N : pMem} (h : cpT d s M N) : cpC d s M N := by
  obtain ⟨h1, h2, h3, h4, h5, h6, _, h8, h9, h10, _⟩ := h
  exact ⟨h1, h2, h3, h4, fun k hk => ⟨(h5 k hk).1 0 (by decide), (h5 k hk).2.1, (h5 k hk).2.2.1⟩, h6, h8, h9, h10⟩
/-- where both say the same of all that is told -/
def agT (V U : pMem) : Prop := agV V U ∧ (U 188 4 = V 188 4 ∧ U 188 71 = V 188 71) ∧ (∀ i, i < 24 → U 192 i = V 192 i ∧ U 193 i = V 193 i ∧ U 226 i = V 226 i ∧ U 227 i = V 227 i) ∧ (∀ k, k < 480 → U 201 k = V 201 k) ∧
  (∀ k, k < 4 → U 204 k = V 204 k ∧ U 209 k = V 209 k) ∧ (∀ i, i < 64 → U 205 i = V 205 i ∧ U 206 i = V 206 i ∧ U 207 i = V 207 i ∧ U 208 i = V 208 i) ∧ ∀ i, i < 2000 → U 210 i = V 210 i ∧ U 211 i = V 211 i
theorem rLw_mv {l l' : Nat} {M N V U : pMem} {k : Nat} (hk : k < 4) (h : rLw l M V k) (c0 : N l' 0 = M l 0) (c1 : ∀ i, i < 16 → N (l' + 1) i = M (l + 1) i ∧ N (l' + 2) i = M (l + 2) i ∧ N (l' + 3) i = M (l + 3) i ∧ N (l' + 4) i = M (l + 4) i) (c2 : ∀ i, i < 500 → N (l' + 5) i = M (l + 5) i)
    (a1 : ∀ k, k < 4 → U 204 k = V 204 k ∧ U 209 k = V 209 k) (a2 : ∀ i, i < 64 → U 205 i = V 205 i ∧ U 206 i = V 206 i ∧ U 207 i = V 207 i ∧ U 208 i = V 208 i) (a3 : ∀ i, i < 2000 → U 210 i = V 210 i ∧ U 211 i = V 211 i) : rLw l' N U k := by
  obtain ⟨o, L, ⟨h1, h2, h3, h4, h5⟩, ⟨g1, g2, g3, g4⟩, h7, h8⟩ := h
  refine ⟨o, L, ⟨by rw [c0]; exact h1, h2, h3, fun i x hi => ?_, fun i x hi => ?_⟩, ⟨by rw [(a1 k hk).1]; exact g1, by rw [(a1 k hk).2]; exact g2, fun i x hi => ?_, fun i x hi => ?_⟩, h7, h8⟩
  · have hl := (List.getElem?_eq_some_iff.mp hi).1
    rw [c2 i (by omega)]
    exact h4 i x hi
  · have hl := (List.getElem?_eq_some_iff.mp hi).1
    obtain ⟨d1, d2, d3, d4⟩ := c1 i (by omega)
    rw [d1, d2, d3, d4]
    exact h5 i x hi
  · have hl := (List.getElem?_eq_some_iff.mp hi).1
    rw [(a3 (500 * k + i) (by omega)).1, (a3 (500 * k + i) (by omega)).2]
    exact g3 i x hi
  · have hl := (List.getElem?_eq_some_iff.mp hi).1
    obtain ⟨d1, d2, d3, d4⟩ := a2 (16 * k + i) (by omega)
    rw [d1, d2, d3, d4]
    exact g4 i x hi
theorem rVl_cg {V U : pMem} (h : rVl V) (a : agV V U) (b : ∀ i, i < 24 → U 192 i = V 192 i) : rVl U := by
  obtain ⟨n, ⟨n1, n2, n3⟩, h2⟩ := h
  obtain ⟨⟨_, b2, _⟩, c, _⟩ := a
  exact ⟨n, ⟨n1, by rw [b2]; exact n2, fun i h1 h3 => by rw [(c i h3).2.2]; exact n3 i h1 h3⟩, fun i hi => by rw [b i hi, (c i hi).1]; exact h2 i hi⟩
theorem rW_mv {w w' : Nat} {M N V : pMem} (h : rW w M V) (c1 : ∀ j, j < 12 → N w' j = M w j) (c2 : ∀ i, i < 24 → N (w' + 1) i = M (w + 1) i ∧ N (w' + 2) i = M (w + 2) i) (c3 : ∀ i, i < 576 → N (w' + 3) i = M (w + 3) i) (c4 : ∀ i, i < 18 → N (w' + 4) i = M (w + 4) i) : rW w' N V := by
  obtain ⟨h1, h2, h3, h4, h5, h6⟩ := h
  refine ⟨by rw [c1 0 (by decide)]; exact h1, by rw [c1 1 (by decide), c1 2 (by decide)]; exact h2, fun i hi => by rw [c1 1 (by decide), c1 2 (by decide), (c2 i hi).1]; exact h3 i hi, fun i j hi hj => by rw [(c2 i hi).2, c3 _ (by omega)]; exact h4 i j hi hj,
    by rw [c1 4 (by decide), c1 5 (by decide), c1 6 (by decide), c1 7 (by decide), c1 8 (by decide), c1 9 (by decide), c1 10 (by decide)]; exact h5, fun l hl => by rw [c4 _ (by omega), c4 _ (by omega), c4 _ (by omega), c4 _ (by omega), c4 _ (by omega)]; exact h6 l hl⟩
theorem rLo_mv {w w' : Nat} {M N V U : pMem} (h : rLo w M V) (c : N w' 3 = M w 3) (b : ∀ i, i < 24 → U 192 i = V 192 i) : rLo w' N U := ⟨by rw [c]; exact h.1, fun i hi => by rw [c, b i hi]; exact h.2 i hi⟩
theorem rT_mv {t s : Nat} {M N V U : pMem} (h : rT s M V) (c : cpC t s M N) (a : agT V U) : rT t N U := by
  obtain ⟨⟨h1, h2, h3, h4⟩, ⟨h5, h6⟩, h7, h8, ⟨g1, g1'⟩, ⟨g2, g2'⟩, g3, g4⟩ := h
  obtain ⟨c1, c2, c3, c4, c5, c6, c7, c8, c9⟩ := c
  obtain ⟨a0, ⟨a1, a2⟩, a3, a4, a5, a6, a7⟩ := a
  have d3 : U 188 3 = V 188 3 := a0.1.2.2.1
  refine ⟨⟨rV_cg h1 a0, rVl_cg h2 a0 fun i hi => (a3 i hi).1, by rw [d3]; exact h3, by rw [d3]; exact h4⟩, ⟨rW_cg (rW_mv h5 c1 c2 c3 c4) a0, rLo_mv h6 (c1 3 (by decide)) fun i hi => (a3 i hi).1⟩, fun k hk => by rw [c6 k hk, a4 k hk]; exact h7 k hk, fun k hk => ?_, ⟨by rw [c8, a1]; exact g1, by rw [a1]; exact g1'⟩, ⟨by rw [c9, a2]; exact g2, by rw [a2]; exact g2'⟩, fun i hi => ?_, fun i hi => ?_⟩
  · obtain ⟨e1, e2, e3⟩ := c5 k hk
    refine rLw_mv hk (h8 k hk) e1 (fun i hi => ?_) (fun i hi => ?_) a5 a6 a7
    · obtain ⟨q1, q2, q3, q4⟩ := e2 i hi
      exact ⟨by rw [show t + 12 + 11 * k + 1 = t + 13 + 11 * k by omega, q1, show s + 12 + 11 * k + 1 = s + 13 + 11 * k by omega], by rw [show t + 12 + 11 * k + 2 = t + 14 + 11 * k by omega, q2, show s + 12 + 11 * k + 2 = s + 14 + 11 * k by omega],
        by rw [show t + 12 + 11 * k + 3 = t + 15 + 11 * k by omega, q3, show s + 12 + 11 * k + 3 = s + 15 + 11 * k by omega], by rw [show t + 12 + 11 * k + 4 = t + 16 + 11 * k by omega, q4, show s + 12 + 11 * k + 4 = s + 16 + 11 * k by omega]⟩
    · rw [show t + 12 + 11 * k + 5 = t + 17 + 11 * k by omega, e3 i hi, show s + 12 + 11 * k + 5 = s + 17 + 11 * k by omega]
  · obtain ⟨b1, b2, b3, b4⟩ := a3 i hi
    rw [(c7 i hi).1, b3, b4]
    exact g3 i hi
  · obtain ⟨b1, b2, b3, b4⟩ := a3 i hi
    rw [(c7 i hi).2, b2]
    exact g4 i hi
theorem agT_r {V : pMem} : agT V V := ⟨⟨⟨rfl, rfl, rfl, rfl, rfl, rfl, rfl, rfl⟩, fun _ _ => ⟨rfl, rfl, rfl⟩, fun _ _ => ⟨rfl, rfl⟩, fun _ _ => ⟨rfl, rfl, rfl, rfl, rfl⟩⟩, ⟨rfl, rfl⟩, fun _ _ => ⟨rfl, rfl, rfl, rfl⟩, fun _ _ => rfl, fun _ _ => ⟨rfl, rfl⟩, fun _ _ => ⟨rfl, rfl, rfl, rfl⟩, fun _ _ => ⟨rfl, rfl⟩⟩
/-- out of one saying for each place -/
def plT (a j : Nat) : Prop := (a = 188 ∧ (j = 1 ∨ j = 2 ∨ j = 3 ∨ j = 4 ∨ j = 17 ∨ j = 18 ∨ j = 19 ∨ j = 20 ∨ j = 21 ∨ j = 71)) ∨ ((189 ≤ a ∧ a ≤ 193 ∨ a = 226 ∨ a = 227) ∧ j < 24) ∨ ((a = 194 ∨ a = 195) ∧ j < 576) ∨ (196 ≤ a ∧ a ≤ 200 ∧ j < 2) ∨ (a = 201 ∧ j < 480) ∨ ((a = 204 ∨ a = 209) ∧ j < 4) ∨ (205 ≤ a ∧ a ≤ 208 ∧ j < 64) ∨ ((a = 210 ∨ a = 211) ∧ j < 2000)
theorem agT_of {V U : pMem} (h : ∀ a j, plT a j → U a j = V a j) : agT V U := by
  have e8 : ∀ j, (j = 1 ∨ j = 2 ∨ j = 3 ∨ j = 4 ∨ j = 17 ∨ j = 18 ∨ j = 19 ∨ j = 20 ∨ j = 21 ∨ j = 71) → U 188 j = V 188 j := fun j hj => h 188 j (Or.inl ⟨rfl, hj⟩)
  refine ⟨⟨⟨e8 1 (by omega), e8 2 (by omega), e8 3 (by omega), e8 17 (by omega), e8 18 (by omega), e8 19 (by omega), e8 20 (by omega), e8 21 (by omega)⟩, fun i hi => ⟨?_, ?_, ?_⟩, fun k hk => ⟨?_, ?_⟩, fun l hl => ⟨?_, ?_, ?_, ?_, ?_⟩⟩, ⟨e8 4 (by omega), e8 71 (by omega)⟩, fun i hi => ⟨?_, ?_, ?_, ?_⟩, fun k hk => ?_, fun k hk => ⟨?_, ?_⟩, fun i hi => ⟨?_, ?_, ?_, ?_⟩, fun i hi => ⟨?_, ?_⟩⟩
  all_goals (apply h; unfold plT; omega)
/-! the image -/
def isA (a j : Nat) : Bool := (Nat.beq a 188 && !(Nat.beq j 2 || Nat.beq j 71)) || (Nat.beq a 191 || (Nat.beq a 192 || (Nat.beq a 194 || (Nat.ble 196 a && Nat.ble a 201))))
def iV (M : pMem) : pMem := fun a j => if isA a j = true then M 229 (7000 + asR a j) else M 229 (imR a j)
theorem asP_8 : asP 0 = (188, 1) ∧ asP 1 = (188, 3) ∧ asP 2 = (188, 4) ∧ asP 3 = (188, 17) ∧ asP 4 = (188, 18) ∧ asP 5 = (188, 19) ∧ asP 6 = (188, 20) ∧ asP 7 = (188, 21) := by decide
theorem imP_8 : imP 4460 = (188, 2) ∧ imP 4461 = (188, 71) := by decide +kernel
/-- each place of what is told has its place aside, or in the image -/
theorem pl_as {a j : Nat} (h : plT a j) : (isA a j = true ∧ asR a j < 1122 ∧ asP (asR a j) = (a, j)) ∨ (isA a j = false ∧ imR a j < 5163 ∧ imP (imR a j) = (a, j)) := by
  obtain ⟨p0, p1, p2, p3, p4, p5, p6, p7⟩ := asP_8
  rcases h with ⟨rfl, h⟩ | ⟨h, hj⟩ | ⟨h, hj⟩ | ⟨h1, h2, hj⟩ | ⟨rfl, hj⟩ | ⟨h, hj⟩ | ⟨h1, h2, hj⟩ | ⟨h, hj⟩
  · rcases h with rfl | rfl | rfl | rfl | rfl | rfl | rfl | rfl | rfl | rfl
    · exact Or.inl ⟨rfl, by decide, p0⟩
    · exact Or.inr ⟨rfl, by decide, imP_8.1⟩
    · exact Or.inl ⟨rfl, by decide, p1⟩
    · exact Or.inl ⟨rfl, by decide, p2⟩
    · exact Or.inl ⟨rfl, by decide, p3⟩
    · exact Or.inl ⟨rfl, by decide, p4⟩
    · exact Or.inl ⟨rfl, by decide, p5⟩
    · exact Or.inl ⟨rfl, by decide, p6⟩
    · exact Or.inl ⟨rfl, by decide, p7⟩
    · exact Or.inr ⟨rfl, by decide, imP_8.2⟩
  · obtain ⟨s1, s2⟩ := as_18 j hj
    obtain ⟨i1, i2, i3, i4, i5⟩ := im_4467 j hj
    have e : a = 189 ∨ a = 190 ∨ a = 191 ∨ a = 192 ∨ a = 193 ∨ a = 226 ∨ a = 227 := by omega
    rcases e with rfl | rfl | rfl | rfl | rfl | rfl | rfl
    · exact Or.inr ⟨rfl, by show 4467 + 5 * j < 5163; omega, i1⟩
    · exact Or.inr ⟨rfl, by show 4468 + 5 * j < 5163; omega, by show imP (4468 + 5 * j) = _; rw [show 4468 + 5 * j = 4467 + 5 * j + 1 by omega]; exact i2⟩
    · exact Or.inl ⟨rfl, by show 18 + 2 * j + 0 < 1122; omega, s1⟩
    · exact Or.inl ⟨rfl, by show 18 + 2 * j + 1 < 1122; omega, s2⟩
    · exact Or.inr ⟨rfl, by show 4469 + 5 * j < 5163; omega, by show imP (4469 + 5 * j) = _; rw [show 4469 + 5 * j = 4467 + 5 * j + 1 + 1 by omega]; exact i3⟩
    · exact Or.inr ⟨rfl, by show 4470 + 5 * j < 5163; omega, by show imP (4470 + 5 * j) = _; rw [show 4470 + 5 * j = 4467 + 5 * j + 1 + 1 + 1 by omega]; exact i4⟩
    · exact Or.inr ⟨rfl, by show 4471 + 5 * j < 5163; omega, by show imP (4471 + 5 * j) = _; rw [show 4471 + 5 * j = 4467 + 5 * j + 1 + 1 + 1 + 1 by omega]; exact i5⟩
  · rcases h with rfl | rfl
    · exact Or.inl ⟨rfl, by show j + 66 < 1122; omega, by show asP (j + 66) = _; rw [Nat.add_comm]; exact as_66 hj⟩
    · exact Or.inr ⟨rfl, by show 4587 + j < 5163; omega, im_4587 hj⟩
  · obtain ⟨s1, s2, s3, s4, s5⟩ := as_8 j hj
    have e : a = 196 ∨ a = 197 ∨ a = 198 ∨ a = 199 ∨ a = 200 := by omega
    rcases e with rfl | rfl | rfl | rfl | rfl
    · exact Or.inl ⟨rfl, by show 8 + 5 * j + 0 < 1122; omega, s1⟩
    · exact Or.inl ⟨rfl, by show 8 + 5 * j + 1 < 1122; omega, s2⟩
    · exact Or.inl ⟨rfl, by show 8 + 5 * j + 2 < 1122; omega, s3⟩
    · exact Or.inl ⟨rfl, by show 8 + 5 * j + 3 < 1122; omega, s4⟩
    · exact Or.inl ⟨rfl, by show 8 + 5 * j + 4 < 1122; omega, s5⟩
  · exact Or.inl ⟨rfl, by show j + 642 < 1122; omega, by show asP (j + 642) = _; rw [Nat.add_comm]; exact as_642 hj⟩
  · obtain ⟨i1, i2, i3⟩ := im_0 j hj
    rcases h with rfl | rfl
    · exact Or.inr ⟨rfl, by show 3 * j < 5163; omega, i1⟩
    · exact Or.inr ⟨rfl, by show 3 * j + 1 < 5163; omega, i2⟩
  · obtain ⟨i1, i2, i3, i4⟩ := im_12 j hj
    have e : a = 205 ∨ a = 206 ∨ a = 207 ∨ a = 208 := by omega
    rcases e with rfl | rfl | rfl | rfl
    · exact Or.inr ⟨rfl, by show 12 + 4 * j + 0 < 5163; omega, i1⟩
    · exact Or.inr ⟨rfl, by show 12 + 4 * j + 1 < 5163; omega, i2⟩
    · exact Or.inr ⟨rfl, by show 12 + 4 * j + 2 < 5163; omega, i3⟩
    · exact Or.inr ⟨rfl, by show 12 + 4 * j + 3 < 5163; omega, i4⟩
  · obtain ⟨i1, i2⟩ := im_268 hj
    rcases h with rfl | rfl
    · exact Or.inr ⟨rfl, by show 268 + 2 * j + 0 < 5163; omega, i1⟩
    · exact Or.inr ⟨rfl, by show 268 + 2 * j + 1 < 5163; omega, i2⟩
/-- what was put into the image -/
theorem iV_put {M N : pMem} (h1 : ∀ i, i < 5163 → N 229 i = M (imP i).1 (imP i).2) (h2 : ∀ i, i < 1122 → N 229 (7000 + i) = M (asP i).1 (asP i).2) : agT M (iV N) := agT_of fun a j h => by
  unfold iV
  rcases pl_as h with ⟨e, l, p⟩ | ⟨e, l, p⟩
  · rw [if_pos e, h2 _ l, p]
  · rw [if_neg (by rw [e]; decide), h1 _ l, p]
theorem iV_get {M N : pMem} (h1 : ∀ i, i < 5163 → N (imP i).1 (imP i).2 = M 229 i) (h2 : ∀ i, i < 1122 → N (asP i).1 (asP i).2 = M 229 (7000 + i)) : agT (iV M) N := agT_of fun a j h => by
  unfold iV
  rcases pl_as h with ⟨e, l, p⟩ | ⟨e, l, p⟩
  · rw [if_pos e, ← h2 _ l, p]
  · rw [if_neg (by rw [e]; decide), ← h1 _ l, p]
/-- all of both sides: what is told now, and what was when the image was taken -/
def rI (M : pMem) : Prop := M 0 8 = kI 1 → rT 74 M (iV M)
def rF (M : pMem) : Prop := rA M ∧ rT 18 M M ∧ rI M
theorem cpC_of {t : Nat} {M N : pMem} (h : ∀ a j, t ≤ a → a < t + 56 → (∀ k, k < 4 → a ≠ t + 18 + 11 * k) → N a j = M a j) : cpC t t M N := by
  have q : ∀ a j, t ≤ a → a < t + 56 → (∀ k, k < 4 → a ≠ t + 18 + 11 * k) → N a j = M a j := h
  refine ⟨fun j _ => ?_, fun i _ => ⟨?_, ?_⟩, fun i _ => ?_, fun i _ => ?_, fun k hk => ⟨?_, fun i _ => ⟨?_, ?_, ?_, ?_⟩, fun i _ => ?_⟩, fun i _ => ?_, fun i _ => ⟨?_, ?_⟩, ?_, ?_⟩
  all_goals (refine q _ _ (by omega) (by omega) (fun k' hk' => ?_); omega)
theorem iV_eq {M N : pMem} (h : N 229 = M 229) : iV N = iV M := by
  funext a j
  unfold iV
  rw [h]
theorem rI_keep {M N : pMem} (h : rI M) (h8 : N 0 8 = M 0 8) (h229 : N 229 = M 229) (hc : ∀ a j, 74 ≤ a → a < 130 → (∀ k, k < 4 → a ≠ 92 + 11 * k) → N a j = M a j) : rI N := fun e => by
  rw [iV_eq h229]
  exact rT_mv (h (by rw [← h8]; exact e)) (cpC_of fun a j h1 h2 h3 => hc a j h1 (by omega) (fun k hk => by have := h3 k hk; omega)) agT_r
theorem op_image_F {p1 v u : Int32} {M M1 M2 : pMem} (h : rF M) (h1 : D_28 p1 M v M1) (h2 : D_135 p1 M1 u M2) : rF M2 := by
  obtain ⟨hA, hT, hI⟩ := h
  have hA2 := (op_image hA h1 h2).2
  obtain ⟨_, _, _, ⟨k1, k2⟩, p, r1, r2⟩ := hA
  refine ⟨hA2, ?_⟩
  rcases h1 with ⟨g, h1⟩ | ⟨g, _, Ma, h216, Mb, eb, hv, hM⟩
  · rcases h1 with ⟨g2, hv, hM⟩ | ⟨g2, _, Ma, h216, hv, hM⟩
    · -- no image
      subst hM
      obtain ⟨hu, hN⟩ := D_135_no h2 g (by rw [← k1]; exact g2)
      have o : ∀ a j, ¬ (a = 188 ∧ j = 0) → M2 a j = M1 a j := fun a j q => by
        rw [hN]
        by_cases e : a = 188
        · subst e
          exact aPut_at (fun q2 => q ⟨rfl, q2⟩)
        · exact aPut_cell e
      refine ⟨rT_mv hT (cpC_of fun a j h1 h2 _ => o a j (by omega)) (agT_of fun a j hp => o a j (by unfold plT at hp; omega)), rI_keep hI (o 0 8 (by omega)) (funext fun j => o 229 j (by omega)) fun a j h1 h2 _ => o a j (by omega)⟩
    · -- back to it
      subst hM
      have cp := D_216b_w h216
      have c10 : ∀ a, (a < 18 ∨ 74 ≤ a) → M1 a = M a := fun a ha => cp.2.2.2.2.2.2.2.2.2.2 a (by omega)
      have tk : M 0 8 = kI 1 := k2.resolve_left g2
      obtain ⟨hu, d77, d1, d2, d3, d4⟩ := D_135_get h2 g (by rw [c10 188 (by omega), ← k1, tk]; decide) (fun b hb => by rw [c10 226 (by omega), c10 229 (by omega)]; exact r2 b hb)
      have o3 : ∀ a j, a < 188 → M2 a j = M1 a j := fun a j ha => d4 a j ⟨by omega, by omega, by omega⟩ (im_no (Or.inl (Or.inr (Or.inr ha)))).1 (im_no (Or.inl (Or.inr (Or.inr ha)))).2
      have e229 : M2 229 = M 229 := funext fun j => by rw [d3, c10 229 (by omega)]
      have hI2 : rI M2 := rI_keep hI (by rw [o3 0 8 (by omega), c10 0 (by omega)]) e229 fun a j h1 h2 _ => by rw [o3 a j (by omega), c10 a (by omega)]
      refine ⟨?_, hI2⟩
      have iT := hI tk
      have e1 : iV M1 = iV M := iV_eq (by rw [c10 229 (by omega)])
      have ag := iV_get (M := M1) d1 d2
      rw [e1] at ag
      have cc : cpC 18 74 M M2 := by
        obtain ⟨x1, x2, x3, x4, x5, x6, x7, x8, x9⟩ := cpC_T cp
        have o3' : ∀ a, a < 188 → M2 a = M1 a := fun a ha => funext fun j => o3 a j ha
        refine ⟨fun j hj => ?_, fun i hi => ?_, fun i hi => ?_, fun i hi => ?_, fun k hk => ?_, fun i hi => ?_, fun i hi => ?_, ?_, ?_⟩
        · rw [o3' _ (by omega)]; exact x1 j hj
        · rw [o3' _ (by omega), o3' _ (by omega)]; exact x2 i hi
        · rw [o3' _ (by omega)]; exact x3 i hi
        · rw [o3' _ (by omega)]; exact x4 i hi
        · rw [o3' _ (by omega), o3' _ (by omega), o3' _ (by omega), o3' _ (by omega), o3' _ (by omega), o3' _ (by omega)]; exact x5 k hk
        · rw [o3' _ (by omega)]; exact x6 i hi
        · rw [o3' _ (by omega), o3' _ (by omega)]; exact x7 i hi
        · rw [o3' _ (by omega)]; exact x8
        · rw [o3' _ (by omega)]; exact x9
      exact rT_mv iT cc ag
  · -- it is taken
    have cp := D_216t_w h216
    have c10 : ∀ a, (a < 74 ∨ 130 ≤ a) → Ma a = M a := fun a ha => cp.2.2.2.2.2.2.2.2.2.2 a (by omega)
    have m1 : ∀ a j, ¬ (a = 0 ∧ j = 8) → M1 a j = Ma a j := fun a j q => by
      rw [hM, eb]
      by_cases e : a = 0
      · subst e
        exact aPut_at (fun q2 => q ⟨rfl, q2⟩)
      · exact aPut_cell e
    obtain ⟨hu, d77, d1, d2, d4⟩ := D_135_put h2 g (fun b hb => by rw [m1 226 b (by omega), c10 226 (by omega)]; exact (r2 b hb).1)
    have o3 : ∀ a j, a < 188 → M2 a j = M1 a j := fun a j ha => d4 a j ⟨by omega, by omega, by omega⟩
    -- what is told now stands
    have pT : ∀ a j, plT a j → M2 a j = M1 a j := fun a j hp => d4 a j ⟨by unfold plT at hp; omega, by unfold plT at hp; omega, by unfold plT at hp; omega⟩
    have n18 : ∀ a j, 18 ≤ a → a < 74 → M2 a j = M a j := fun a j h1 h2 => by rw [o3 a j (by omega), m1 a j (by omega), c10 a (by omega)]
    have nV : ∀ a j, plT a j → M2 a j = M a j := fun a j hp => by
      have : 188 ≤ a := by unfold plT at hp; omega
      rw [pT a j hp, m1 a j (by omega), c10 a (by omega)]
    refine ⟨rT_mv hT (cpC_of fun a j h1 h2 _ => n18 a j h1 (by omega)) (agT_of nV), fun _ => ?_⟩
    have ag := iV_put (M := M1) d1 d2
    have am : agT M M1 := agT_of fun a j hp => by
      have : 188 ≤ a := by unfold plT at hp; omega
      rw [m1 a j (by omega), c10 a (by omega)]
    have hT1 : rT 18 M M1 := rT_mv hT (cpC_of fun a j _ _ _ => rfl) am
    have cc : cpC 74 18 M M2 := by
      obtain ⟨x1, x2, x3, x4, x5, x6, x7, x8, x9⟩ := cpC_T cp
      have o3' : ∀ a, a < 188 → 0 < a → M2 a = Ma a := fun a ha h0 => funext fun j => by rw [o3 a j ha, m1 a j (by omega)]
      refine ⟨fun j hj => ?_, fun i hi => ?_, fun i hi => ?_, fun i hi => ?_, fun k hk => ?_, fun i hi => ?_, fun i hi => ?_, ?_, ?_⟩
      · rw [o3' _ (by omega) (by omega)]; exact x1 j hj
      · rw [o3' _ (by omega) (by omega), o3' _ (by omega) (by omega)]; exact x2 i hi
      · rw [o3' _ (by omega) (by omega)]; exact x3 i hi
      · rw [o3' _ (by omega) (by omega)]; exact x4 i hi
      · rw [o3' _ (by omega) (by omega), o3' _ (by omega) (by omega), o3' _ (by omega) (by omega), o3' _ (by omega) (by omega), o3' _ (by omega) (by omega), o3' _ (by omega) (by omega)]; exact x5 k hk
      · rw [o3' _ (by omega) (by omega)]; exact x6 i hi
      · rw [o3' _ (by omega) (by omega), o3' _ (by omega) (by omega)]; exact x7 i hi
      · rw [o3' _ (by omega) (by omega)]; exact x8
      · rw [o3' _ (by omega) (by omega)]; exact x9
    exact rT_mv hT1 cc ag
/-! what the calls keep of all that is told -/
def skT (o : Nat) : Bool := Nat.beq o 18 || (Nat.beq o 29 || (Nat.beq o 40 || Nat.beq o 51))
theorem skT_n {t a : Nat} (h1 : t ≤ a) (h2 : a < t + 56) (h : ∀ k, k < 4 → a ≠ t + 18 + 11 * k) : skT (a - t) = false := Bool.eq_false_iff.mpr fun q => by
  have k0 := h 0 (by decide)
  have k1 := h 1 (by decide)
  have k2 := h 2 (by decide)
  have k3 := h 3 (by decide)
  unfold skT at q
  simp only [Bool.or_eq_true] at q
  rcases q with q | q | q | q
  · have := Nat.eq_of_beq_eq_true q; omega
  · have := Nat.eq_of_beq_eq_true q; omega
  · have := Nat.eq_of_beq_eq_true q; omega
  · have := Nat.eq_of_beq_eq_true q; omega
theorem scC : ∀ o, o < 56 → skT o = false → pScrA (18 + o) = false ∧ pScrA (74 + o) = false := by decide +kernel
theorem scR {s a : Nat} (hs : s = 18 ∨ s = 74) (h1 : s ≤ a) (h2 : a < s + 56) (h3 : ∀ k, k < 4 → a ≠ s + 18 + 11 * k) (j : Nat) : a < 188 ∧ pScr a j = false := by
  obtain ⟨c1, c2⟩ := scC (a - s) (by omega) (skT_n h1 h2 h3)
  refine ⟨by omega, pScr_of ?_ (by omega) j⟩
  rcases hs with rfl | rfl
  · rw [show 18 + (a - 18) = a by omega] at c1; exact c1
  · rw [show 74 + (a - 74) = a by omega] at c2; exact c2
def kC (s : Nat) (L : List (Nat × Nat)) : Bool := (List.range 56).all fun o => skT o || pNo L (s + o)
theorem kC_s {s : Nat} (hs : s = 18 ∨ s = 74) {L : List (Nat × Nat)} {M N : pMem} (f : pFr L M N) (k : kC s L = true) : ∀ a j, s ≤ a → a < s + 56 → (∀ k, k < 4 → a ≠ s + 18 + 11 * k) → N a j = M a j := by
  intro a j h1 h2 h3
  have q : (skT (a - s) || pNo L (s + (a - s))) = true := List.all_eq_true.mp k (a - s) (List.mem_range.mpr (by omega))
  rw [skT_n h1 h2 h3, Bool.false_or, show s + (a - s) = a by omega] at q
  obtain ⟨c1, c2⟩ := scR hs h1 h2 h3 j
  exact f a j (by omega) c2 (pNo_out q j)
def plRows : List Nat := [189, 190, 191, 192, 193, 194, 195, 196, 197, 198, 199, 200, 201, 204, 205, 206, 207, 208, 209, 210, 211, 226, 227]
def pl188 : List Nat := [1, 2, 3, 4, 17, 18, 19, 20, 21, 71]
theorem plRows_sc : ∀ a, a ∈ plRows → a < 230 ∧ pScrA a = false ∧ a ≠ 188 := by decide +kernel
theorem pl188_sc : ∀ j, j ∈ pl188 → pScr 188 j = false := by decide +kernel
theorem plT_in {a j : Nat} (h : plT a j) : a ∈ plRows ∨ (a = 188 ∧ j ∈ pl188) := by
  unfold plT at h
  unfold plRows pl188
  simp only [List.mem_cons, List.not_mem_nil, or_false]
  rcases h with ⟨h, hj⟩ | ⟨h | h | h, _⟩ | ⟨h | h, _⟩ | ⟨h1, h2, _⟩ | ⟨h, _⟩ | ⟨h | h, _⟩ | ⟨h1, h2, _⟩ | ⟨h | h, _⟩
  · exact Or.inr ⟨h, hj⟩
  all_goals (left; omega)
def kV (L : List (Nat × Nat)) : Bool := plRows.all (fun a => pNo L a) && pl188.all (fun j => pOut L 188 j)
theorem kV_s {L : List (Nat × Nat)} {M N : pMem} (f : pFr L M N) (k : kV L = true) : agT M N := agT_of fun a j h => by
  obtain ⟨k1, k2⟩ := zAnd k
  rcases plT_in h with q | ⟨e, q⟩
  · obtain ⟨c1, c2, c3⟩ := plRows_sc a q
    exact f a j c1 (pScr_of c2 c3 j) (pNo_out (List.all_eq_true.mp k1 a q) j)
  · subst e
    exact f 188 j (by decide) (pl188_sc j q) (List.all_eq_true.mp k2 j q)
def kTd (L : List (Nat × Nat)) : Bool := kC 18 L && kV L
theorem rT_fr {L : List (Nat × Nat)} {M N : pMem} (f : pFr L M N) (k : kTd L = true) (h : rT 18 M M) : rT 18 N N := by
  obtain ⟨k1, k2⟩ := zAnd k
  exact rT_mv h (cpC_of (kC_s (Or.inl rfl) f k1)) (kV_s f k2)
def kIm (L : List (Nat × Nat)) : Bool := pOut L 0 8 && (pNo L 229 && kC 74 L)
theorem rI_fr {L : List (Nat × Nat)} {M N : pMem} (f : pFr L M N) (k : kIm L = true) (h : rI M) : rI N := by
  obtain ⟨k1, k2⟩ := zAnd k
  obtain ⟨k2, k3⟩ := zAnd k2
  exact rI_keep h (f 0 8 (by decide) rfl k1) (funext fun j => f 229 j (by decide) rfl (pNo_out k2 j)) fun a j h1 h2 h3 => kC_s (Or.inr rfl) f k3 a j h1 h2 (fun k hk => by have := h3 k hk; omega)
theorem op_fr_F {L1 L2 : List (Nat × Nat)} {M M1 M2 : pMem} (h : rF M) (hA : rA M2) (f1 : pFr L1 M M1) (f2 : pFr L2 M1 M2) (k1 : (kTd L1 && kIm L1) = true) (k2 : (kTd L2 && kIm L2) = true) : rF M2 :=
  ⟨hA, rT_fr f2 (zAnd k2).1 (rT_fr f1 (zAnd k1).1 h.2.1), rI_fr f2 (zAnd k2).2 (rI_fr f1 (zAnd k1).2 h.2.2)⟩
/-! in thought -/
def imRows : List Nat := [189, 190, 193, 195, 204, 205, 206, 207, 208, 209, 210, 211, 226, 227]
theorem imRows_sc : ∀ a, a ∈ imRows → a < 230 ∧ pScrA a = false ∧ a ≠ 188 := by decide +kernel
theorem plT_im {a j : Nat} (h : plT a j) : isA a j = true ∨ a ∈ imRows ∨ (a = 188 ∧ (j = 2 ∨ j = 71)) := by
  unfold plT at h
  rcases h with ⟨rfl, hj⟩ | ⟨h | h | h, _⟩ | ⟨h | h, _⟩ | ⟨h1, h2, _⟩ | ⟨h, _⟩ | ⟨h | h, _⟩ | ⟨h1, h2, _⟩ | ⟨h | h, _⟩
  · rcases hj with rfl | rfl | rfl | rfl | rfl | rfl | rfl | rfl | rfl | rfl
    · exact Or.inl rfl
    · exact Or.inr (Or.inr ⟨rfl, Or.inl rfl⟩)
    · exact Or.inl rfl
    · exact Or.inl rfl
    · exact Or.inl rfl
    · exact Or.inl rfl
    · exact Or.inl rfl
    · exact Or.inl rfl
    · exact Or.inl rfl
    · exact Or.inr (Or.inr ⟨rfl, Or.inr rfl⟩)
  · have e : a = 189 ∨ a = 190 ∨ a = 191 ∨ a = 192 ∨ a = 193 := by omega
    rcases e with rfl | rfl | rfl | rfl | rfl
    · exact Or.inr (Or.inl (by decide))
    · exact Or.inr (Or.inl (by decide))
    · exact Or.inl rfl
    · exact Or.inl rfl
    · exact Or.inr (Or.inl (by decide))
  · subst h; exact Or.inr (Or.inl (by decide))
  · subst h; exact Or.inr (Or.inl (by decide))
  · subst h; exact Or.inl rfl
  · subst h; exact Or.inr (Or.inl (by decide))
  · have e : a = 196 ∨ a = 197 ∨ a = 198 ∨ a = 199 ∨ a = 200 := by omega
    rcases e with rfl | rfl | rfl | rfl | rfl <;> exact Or.inl rfl
  · subst h; exact Or.inl rfl
  · subst h; exact Or.inr (Or.inl (by decide))
  · subst h; exact Or.inr (Or.inl (by decide))
  · have e : a = 205 ∨ a = 206 ∨ a = 207 ∨ a = 208 := by omega
    rcases e with rfl | rfl | rfl | rfl <;> exact Or.inr (Or.inl (by decide))
  · subst h; exact Or.inr (Or.inl (by decide))
  · subst h; exact Or.inr (Or.inl (by decide))
def kW (L : List (Nat × Nat)) : Bool := imRows.all (fun a => pNo L a) && (pOut L 188 2 && pOut L 188 71)
theorem kW_s {L : List (Nat × Nat)} {M N : pMem} (f : pFr L M N) (k : kW L = true) (s : rS M N) : agT M N := agT_of fun a j h => by
  obtain ⟨k1, k2⟩ := zAnd k
  obtain ⟨k2, k3⟩ := zAnd k2
  rcases plT_im h with e | q | ⟨e, q⟩
  · rcases pl_as h with ⟨_, l, p⟩ | ⟨e2, _, _⟩
    · have q := s _ l
      rw [p] at q
      exact q
    · rw [e] at e2
      cases e2
  · obtain ⟨c1, c2, c3⟩ := imRows_sc a q
    exact f a j c1 (pScr_of c2 c3 j) (pNo_out (List.all_eq_true.mp k1 a q) j)
  · subst e
    rcases q with rfl | rfl
    · exact f 188 2 (by decide) rfl k2
    · exact f 188 71 (by decide) rfl k3
theorem op_th_F {L1 L2 : List (Nat × Nat)} {M M1 M2 : pMem} (h : rF M) (hA : rA M2) (f1 : pFr L1 M M1) (f2 : pFr L2 M1 M2) (k1 : (kTd L1 && kIm L1) = true) (k2 : (kC 18 L2 && (kW L2 && kIm L2)) = true) (s : rS M1 M2) : rF M2 := by
  obtain ⟨q1, q2⟩ := zAnd k2
  obtain ⟨q2, q3⟩ := zAnd q2
  exact ⟨hA, rT_mv (rT_fr f1 (zAnd k1).1 h.2.1) (cpC_of (kC_s (Or.inl rfl) f2 q1)) (kW_s f2 q2 s), rI_fr f2 q3 (rI_fr f1 (zAnd k1).2 h.2.2)⟩
theorem rF_fQ {M N : pMem} (f : fQ M N) (h : rF M) : rF N := by
  have g : ∀ s, (s = 18 ∨ s = 74) → ∀ a j, s ≤ a → a < s + 56 → (∀ k, k < 4 → a ≠ s + 18 + 11 * k) → N a j = M a j := fun s hs a j h1 h2 h3 => by
    obtain ⟨c1, c2⟩ := scR hs h1 h2 h3 j
    exact f a j (by omega) c2 (by omega)
  refine ⟨rA_fQ f h.1, rT_mv h.2.1 (cpC_of (g 18 (Or.inl rfl))) (agT_of fun a j hp => ?_), rI_keep h.2.2 (f 0 8 (by decide) rfl (by decide)) (funext fun j => f 229 j (by decide) rfl (by decide)) fun a j h1 h2 h3 => g 74 (Or.inr rfl) a j h1 h2 (fun k hk => by have := h3 k hk; omega)⟩
  rcases plT_in hp with q | ⟨e, q⟩
  · obtain ⟨c1, c2, c3⟩ := plRows_sc a q
    refine f a j c1 (pScr_of c2 c3 j) (Or.inr ?_)
    unfold plT at hp
    omega
  · subst e
    exact f 188 j (by decide) (pl188_sc j q) (by decide)
theorem op_parts_F {p1 p2 p3 v u : Int32} {M M1 M2 : pMem} (h : rF M) (h1 : D_21 p1 p2 p3 M v M1) (h2 : D_116 p1 p2 p3 M1 u M2) : rF M2 :=
  op_th_F (rF_fQ (D_21_q h1) h) (op_parts h.1 h1 h2) (pFr_refl (L := [])) (F_116 h2) (by decide +kernel) (by decide +kernel) (D_116_s h2)
/-! the calls that tell one thing: over what is told, part by part -/
theorem apR {M : pMem} {a b j : Nat} {x : Int32} (h : b ≠ a) : aPut M a j x b = M b := funext fun _ => aPut_cell h
theorem rT_w {M V N U : pMem} (h : rT 18 M V) (hV : rV U ∧ rVl U ∧ 0 ≤ (U 188 3).toInt ∧ (U 188 3).toInt ≤ 60) (hW : rW 19 N U ∧ rLo 19 N U) (c26 : N 26 = M 26) (v201 : U 201 = V 201) (cl : ∀ b, 30 ≤ b → b ≤ 68 → N b = M b) (vl : ∀ b, 204 ≤ b → b ≤ 211 → U b = V b) (ho : rOt 18 N U) : rT 18 N U := by
  obtain ⟨_, _, h7, h8, _⟩ := h
  have h7 : ∀ k, k < 480 → M 26 k = V 201 k := h7
  refine ⟨hV, hW, ?_, fun k hk => ?_, ho⟩
  · show ∀ k, k < 480 → N 26 k = U 201 k
    rw [c26, v201]
    exact h7
  · obtain ⟨o, L, c, r, x⟩ := h8 k hk
    refine ⟨o, L, clLaw_eq c fun b h1 h2 => cl b (by omega) (by omega), ?_, x⟩
    rw [vl 204 (by decide) (by decide), vl 205 (by decide) (by decide), vl 206 (by decide) (by decide), vl 207 (by decide) (by decide), vl 208 (by decide) (by decide), vl 209 (by decide) (by decide), vl 210 (by decide) (by decide), vl 211 (by decide) (by decide)]
    exact r
theorem rOt_c {M V N U : pMem} (h : rOt 18 M V) (e7 : N 18 7 = M 18 7) (e8 : N 18 8 = M 18 8) (e28 : N 28 = M 28) (e29 : N 29 = M 29) (v4 : U 188 4 = V 188 4) (v71 : U 188 71 = V 188 71) (v226 : U 226 = V 226) (v227 : U 227 = V 227) (v193 : U 193 = V 193) : rOt 18 N U := by
  have e10 : N (18 + 10) = M (18 + 10) := e28
  have e11 : N (18 + 11) = M (18 + 11) := e29
  unfold rOt at h ⊢
  rw [e7, e8, e10, e11, v4, v71, v226, v227, v193]
  exact h
theorem rV_c {V U : pMem} (h : rV V) (e2 : U 188 2 = V 188 2) (e189 : U 189 = V 189) (e191 : U 191 = V 191) (e195 : U 195 = V 195) (e196 : U 196 = V 196) : rV U := by
  unfold rV rNb at h ⊢
  rw [e2, e189, e191, e195, e196]
  exact h
theorem rVl_c {V U : pMem} (h : rVl V) (e2 : U 188 2 = V 188 2) (e189 : U 189 = V 189) (e191 : U 191 = V 191) (e192 : U 192 = V 192) : rVl U := by
  unfold rVl rNb at h ⊢
  rw [e2, e189, e191, e192]
  exact h
theorem rLo_c {w : Nat} {M V N U : pMem} (h : rLo w M V) (e3 : N w 3 = M w 3) (e192 : U 192 = V 192) : rLo w N U := by
  unfold rLo at h ⊢
  rw [e3, e192]
  exact h
/-- like -/
theorem rT_like {M V : pMem} (h : rT 18 M V) {i j : Nat} (hi : i < 24) (hj : j < 24) {x : Int32} : rT 18 (aPut M 22 (24 * i + j) x) (aPut V 194 (24 * i + j) x) := by
  obtain ⟨⟨h1, h2, h3⟩, ⟨h5, h6⟩, _, _, h9⟩ := id h
  have h5 : rW 19 M V := h5
  have h6 : rLo 19 M V := h6
  refine rT_w h ⟨rV_c h1 (aPut_cell (by decide)) (apR (by decide)) (apR (by decide)) (apR (by decide)) (apR (by decide)), rVl_c h2 (aPut_cell (by decide)) (apR (by decide)) (apR (by decide)) (apR (by decide)), by rw [aPut_cell (by decide)]; exact h3⟩
    ⟨?_, rLo_c h6 (aPut_cell (by decide)) (apR (by decide))⟩ (apR (by decide)) (apR (by decide)) (fun b _ _ => apR (by omega)) (fun b _ _ => apR (by omega)) (rOt_c h9 (aPut_cell (by decide)) (aPut_cell (by decide)) (apR (by decide)) (apR (by decide)) (aPut_cell (by decide)) (aPut_cell (by decide)) (apR (by decide)) (apR (by decide)) (apR (by decide)))
  obtain ⟨w1, w2, w3, w4, w5, w6⟩ := h5
  refine ⟨by rw [aPut_cell (by decide), aPut_cell (by decide)]; exact w1, by rw [aPut_cell (by decide), aPut_cell (by decide)]; exact w2, fun i hi => ?_, fun i' j' hi' hj' => ?_, ?_, fun l hl => ?_⟩
  · rw [aPut_cell (by decide), aPut_cell (by decide), aPut_cell (by decide), aPut_cell (by decide), aPut_cell (by decide), aPut_cell (by decide)]
    exact w3 i hi
  · obtain ⟨q1, q2⟩ := w4 i' j' hi' hj'
    have q2 : M 22 (24 * i' + j') = V 194 (24 * i' + j') := q2
    refine ⟨by rw [aPut_cell (by decide), aPut_cell (by decide)]; exact q1, ?_⟩
    show aPut M 22 (24 * i + j) x 22 (24 * i' + j') = aPut V 194 (24 * i + j) x 194 (24 * i' + j')
    rw [aPut_row, aPut_row, q2]
  · rw [aPut_cell (by decide), aPut_cell (by decide), aPut_cell (by decide), aPut_cell (by decide), aPut_cell (by decide), aPut_cell (by decide), aPut_cell (by decide), aPut_cell (by decide), aPut_cell (by decide), aPut_cell (by decide), aPut_cell (by decide), aPut_cell (by decide), aPut_cell (by decide), aPut_cell (by decide)]
    exact w5
  · rw [apR (by decide), apR (by decide), apR (by decide), apR (by decide), apR (by decide), apR (by decide)]
    exact w6 l hl
/-- state -/
theorem rT_state {M V : pMem} (h : rT 18 M V) {x : Int32} : rT 18 (aPut M 19 5 x) (aPut V 188 1 x) := by
  obtain ⟨⟨h1, h2, h3⟩, ⟨h5, h6⟩, _, _, h9⟩ := id h
  have h5 : rW 19 M V := h5
  have h6 : rLo 19 M V := h6
  refine rT_w h ⟨rV_c h1 (aPut_at (by decide)) (apR (by decide)) (apR (by decide)) (apR (by decide)) (apR (by decide)), rVl_c h2 (aPut_at (by decide)) (apR (by decide)) (apR (by decide)) (apR (by decide)), by rw [aPut_at (by decide)]; exact h3⟩
    ⟨?_, rLo_c h6 (aPut_at (by decide)) (apR (by decide))⟩ (apR (by decide)) (apR (by decide)) (fun b _ _ => apR (by omega)) (fun b _ _ => apR (by omega)) (rOt_c h9 (aPut_cell (by decide)) (aPut_cell (by decide)) (apR (by decide)) (apR (by decide)) (aPut_at (by decide)) (aPut_at (by decide)) (apR (by decide)) (apR (by decide)) (apR (by decide)))
  obtain ⟨w1, w2, w3, w4, ⟨x1, x2, x3⟩, w6⟩ := h5
  have c : ∀ j, j ≠ 5 → aPut M 19 5 x 19 j = M 19 j := fun j hj => aPut_at hj
  have d : ∀ j, j ≠ 1 → aPut V 188 1 x 188 j = V 188 j := fun j hj => aPut_at hj
  refine ⟨by rw [c 0 (by decide), d 2 (by decide)]; exact w1, by rw [c 1 (by decide), c 2 (by decide)]; exact w2, fun i hi => ?_, fun i j hi hj => ?_, ⟨by rw [c 4 (by decide), d 3 (by decide)]; exact x1, by rw [aPut_same, aPut_same], by rw [c 6 (by decide), c 7 (by decide), c 8 (by decide), c 9 (by decide), c 10 (by decide), d 17 (by decide), d 18 (by decide), d 19 (by decide), d 20 (by decide), d 21 (by decide)]; exact x3⟩, fun l hl => ?_⟩
  · rw [c 1 (by decide), c 2 (by decide), apR (by decide), apR (by decide), apR (by decide), apR (by decide)]
    exact w3 i hi
  · rw [apR (by decide), apR (by decide), apR (by decide), apR (by decide)]
    exact w4 i j hi hj
  · rw [apR (by decide), apR (by decide), apR (by decide), apR (by decide), apR (by decide), apR (by decide)]
    exact w6 l hl
/-- what leaves the wood as it is -/
theorem rT_o {M V N U : pMem} (h : rT 18 M V) (hc : ∀ b, (b = 19 ∨ b = 20 ∨ b = 21 ∨ b = 22 ∨ b = 23 ∨ b = 26 ∨ 30 ≤ b) → N b = M b) (hv : ∀ b, b ≠ 188 → b ≠ 193 → b ≠ 226 → b ≠ 227 → U b = V b) (h8 : ∀ j, j ≠ 4 → j ≠ 71 → U 188 j = V 188 j) (ho : rOt 18 N U) : rT 18 N U := by
  obtain ⟨⟨h1, h2, h3⟩, ⟨h5, h6⟩, _, _, _⟩ := id h
  have h5 : rW 19 M V := h5
  have h6 : rLo 19 M V := h6
  have v : ∀ b, b ≠ 188 → b ≠ 193 → b < 226 → U b = V b := fun b q1 q2 q3 => hv b q1 q2 (by omega) (by omega)
  refine rT_w h ⟨rV_c h1 (h8 2 (by decide) (by decide)) (v 189 (by decide) (by decide) (by decide)) (v 191 (by decide) (by decide) (by decide)) (v 195 (by decide) (by decide) (by decide)) (v 196 (by decide) (by decide) (by decide)), rVl_c h2 (h8 2 (by decide) (by decide)) (v 189 (by decide) (by decide) (by decide)) (v 191 (by decide) (by decide) (by decide)) (v 192 (by decide) (by decide) (by decide)), by rw [h8 3 (by decide) (by decide)]; exact h3⟩
    ⟨rW_cg (rW_eq h5 fun j hj => hc _ (by omega)) ?_, rLo_c h6 (by rw [hc 19 (by omega)]) (v 192 (by decide) (by decide) (by decide))⟩ (hc 26 (by omega)) (v 201 (by decide) (by decide) (by decide)) (fun b _ _ => hc b (by omega)) (fun b _ _ => v b (by omega) (by omega) (by omega)) ho
  have d : ∀ j, j ≠ 4 → j ≠ 71 → U 188 j = V 188 j := h8
  refine ⟨⟨d 1 (by decide) (by decide), d 2 (by decide) (by decide), d 3 (by decide) (by decide), d 17 (by decide) (by decide), d 18 (by decide) (by decide), d 19 (by decide) (by decide), d 20 (by decide) (by decide), d 21 (by decide) (by decide)⟩, fun i _ => ?_, fun k _ => ?_, fun l _ => ?_⟩
  · rw [v 189 (by decide) (by decide) (by decide), v 190 (by decide) (by decide) (by decide), v 191 (by decide) (by decide) (by decide)]; exact ⟨rfl, rfl, rfl⟩
  · rw [v 194 (by decide) (by decide) (by decide), v 195 (by decide) (by decide) (by decide)]; exact ⟨rfl, rfl⟩
  · rw [v 196 (by decide) (by decide) (by decide), v 197 (by decide) (by decide) (by decide), v 198 (by decide) (by decide) (by decide), v 199 (by decide) (by decide) (by decide), v 200 (by decide) (by decide) (by decide)]; exact ⟨rfl, rfl, rfl, rfl, rfl⟩
/-- a boy's number -/
theorem rT_number {M V : pMem} (h : rT 18 M V) {i : Nat} {x : Int32} (hx : 0 ≤ x.toInt ∧ x.toInt ≤ 99) : rT 18 (aPut M 29 i x) (aPut V 193 i x) := by
  refine rT_o h (fun b hb => apR (by omega)) (fun b _ q _ _ => apR q) (fun j _ _ => aPut_cell (by decide)) ?_
  obtain ⟨g1, g2, g3, g4⟩ := h.2.2.2.2
  refine ⟨by rw [aPut_cell (by decide), aPut_cell (by decide)]; exact g1, by rw [aPut_cell (by decide), aPut_cell (by decide)]; exact g2, fun k hk => ?_, fun k hk => ?_⟩
  · rw [aPut_cell (by decide), aPut_cell (by decide), aPut_cell (by decide)]
    exact g3 k hk
  · have q : M 29 k = V 193 k ∧ 0 ≤ (V 193 k).toInt ∧ (V 193 k).toInt ≤ 99 := g4 k hk
    show aPut M 29 i x 29 k = aPut V 193 i x 193 k ∧ 0 ≤ (aPut V 193 i x 193 k).toInt ∧ (aPut V 193 i x 193 k).toInt ≤ 99
    rw [aPut_row, aPut_row]
    by_cases e : k = i
    · rw [if_pos e, if_pos e]; exact ⟨rfl, hx⟩
    · rw [if_neg e, if_neg e]; exact q
/-- told of two camps: y or none -/
theorem rT_told {M V : pMem} (h : rT 18 M V) {i : Nat} {b x : Int32} (hb : (b = 0 ∧ x = kI (-100)) ∨ (b = kI 1 ∧ -50 ≤ x.toInt ∧ x.toInt ≤ 50)) : rT 18 (aPut M 28 i x) (aPut (aPut V 226 i b) 227 i x) := by
  refine rT_o h (fun b hb => apR (by omega)) (fun b _ _ q1 q2 => by rw [apR q2, apR q1]) (fun j _ _ => by rw [aPut_cell (by decide), aPut_cell (by decide)]) ?_
  obtain ⟨g1, g2, g3, g4⟩ := h.2.2.2.2
  refine ⟨by rw [aPut_cell (by decide), aPut_cell (by decide), aPut_cell (by decide)]; exact g1, by rw [aPut_cell (by decide), aPut_cell (by decide), aPut_cell (by decide)]; exact g2, fun k hk => ?_, fun k hk => ?_⟩
  · have q : bo (V 226 k) ∧ M 28 k = (if V 226 k = 0 then kI (-100) else V 227 k) ∧ (¬ V 226 k = 0 → -50 ≤ (V 227 k).toInt ∧ (V 227 k).toInt ≤ 50) := g3 k hk
    have e226 : aPut (aPut V 226 i b) 227 i x 226 k = if k = i then b else V 226 k := by rw [aPut_cell (by decide), aPut_row]
    have e227 : aPut (aPut V 226 i b) 227 i x 227 k = if k = i then x else V 227 k := by rw [aPut_row, aPut_cell (by decide)]
    show bo (aPut (aPut V 226 i b) 227 i x 226 k) ∧ aPut M 28 i x 28 k = (if aPut (aPut V 226 i b) 227 i x 226 k = 0 then kI (-100) else aPut (aPut V 226 i b) 227 i x 227 k) ∧ (¬ aPut (aPut V 226 i b) 227 i x 226 k = 0 → -50 ≤ (aPut (aPut V 226 i b) 227 i x 227 k).toInt ∧ (aPut (aPut V 226 i b) 227 i x 227 k).toInt ≤ 50)
    rw [e226, e227, aPut_row]
    by_cases e : k = i
    · rw [if_pos e, if_pos e, if_pos e]
      rcases hb with ⟨b0, b1⟩ | ⟨b0, b1⟩
      · exact ⟨Or.inl b0, by rw [if_pos b0]; exact b1, fun q => absurd b0 q⟩
      · exact ⟨Or.inr b0, by rw [if_neg (by rw [b0]; decide)], fun _ => b1⟩
    · rw [if_neg e, if_neg e, if_neg e]
      exact q
  · rw [aPut_cell (by decide), aPut_cell (by decide), aPut_cell (by decide)]
    exact g4 k hk
theorem rT_force {M V : pMem} (h : rT 18 M V) {x : Int32} (hx : 0 ≤ x.toInt ∧ x.toInt < 4) : rT 18 (aPut M 18 7 x) (aPut V 188 4 x) := by
  refine rT_o h (fun b hb => apR (by omega)) (fun b q _ _ _ => apR q) (fun j q _ => aPut_at q) ?_
  obtain ⟨g1, g2, g3, g4⟩ := h.2.2.2.2
  refine ⟨by rw [aPut_same, aPut_same]; exact ⟨rfl, hx⟩, by rw [aPut_at (by decide), aPut_at (by decide)]; exact g2, fun k hk => ?_, fun k hk => ?_⟩
  · rw [apR (by decide), apR (by decide), apR (by decide)]
    exact g3 k hk
  · rw [apR (by decide), apR (by decide)]
    exact g4 k hk
theorem rT_row {M V : pMem} (h : rT 18 M V) {x : Int32} (hx : 0 ≤ x.toInt ∧ x.toInt ≤ 5) : rT 18 (aPut M 18 8 x) (aPut V 188 71 x) := by
  refine rT_o h (fun b hb => apR (by omega)) (fun b q _ _ _ => apR q) (fun j _ q => aPut_at q) ?_
  obtain ⟨g1, g2, g3, g4⟩ := h.2.2.2.2
  refine ⟨by rw [aPut_at (by decide), aPut_at (by decide)]; exact g1, by rw [aPut_same, aPut_same]; exact ⟨rfl, hx⟩, fun k hk => ?_, fun k hk => ?_⟩
  · rw [apR (by decide), apR (by decide), apR (by decide)]
    exact g3 k hk
  · rw [apR (by decide), apR (by decide)]
    exact g4 k hk
/-! knowing, a new boy -/
theorem bt_set {x p : Int32} {j k : Nat} (hp : p.toInt = j) (hj : j < 24) (hk : k < 24) : bt (x ||| (kI 1 <<< (p &&& 31))) k = if k = j then true else bt x k := by
  rw [bt_or, bt_sh hp (by omega)]
  by_cases e : k = j
  · rw [if_pos e, decide_eq_true e, Bool.or_true]
  · rw [if_neg e, decide_eq_false e, Bool.or_false]
theorem bt_clr {x p : Int32} {j k : Nat} (hp : p.toInt = j) (hj : j < 24) (hk : k < 24) : bt (x &&& ((kI 1 <<< (p &&& 31)) ^^^ kI (-1))) k = if k = j then false else bt x k := by
  rw [bt_and, bt_not (by omega), bt_sh hp (by omega)]
  by_cases e : k = j
  · rw [if_pos e, decide_eq_true e, Bool.not_true, Bool.and_false]
  · rw [if_neg e, decide_eq_false e, Bool.not_false, Bool.and_true]
theorem rT_know {M V : pMem} (h : rT 18 M V) {i j : Nat} (hi : i < 24) (hj : j < 24) {x y : Int32} {b : Bool} (hx : ∀ k, k < 24 → bt x k = if k = j then b else bt (M 21 i) k) (hy : y = if b = true then kI 1 else kI 0) : rT 18 (aPut M 21 i x) (aPut V 195 (24 * i + j) y) := by
  obtain ⟨⟨h1, h2, h3⟩, ⟨h5, h6⟩, _, _, h9⟩ := id h
  have h5 : rW 19 M V := h5
  have h6 : rLo 19 M V := h6
  have by' : bo y := by
    rw [hy]
    cases b
    · exact Or.inl rfl
    · exact Or.inr rfl
  obtain ⟨a1, a2, a3, a4⟩ := h1
  refine rT_w h ⟨⟨?_, ?_, fun k hk => ?_, ?_⟩, rVl_c h2 (aPut_cell (by decide)) (apR (by decide)) (apR (by decide)) (apR (by decide)), by rw [aPut_cell (by decide)]; exact h3⟩
    ⟨?_, rLo_c h6 (aPut_cell (by decide)) (apR (by decide))⟩ (apR (by decide)) (apR (by decide)) (fun b _ _ => apR (by omega)) (fun b _ _ => apR (by omega)) (rOt_c h9 (aPut_cell (by decide)) (aPut_cell (by decide)) (apR (by decide)) (apR (by decide)) (aPut_cell (by decide)) (aPut_cell (by decide)) (apR (by decide)) (apR (by decide)) (apR (by decide)))
  · unfold rNb at a1 ⊢
    rw [aPut_cell (by decide), apR (by decide)]
    exact a1
  · rw [apR (by decide), apR (by decide)]
    exact a2
  · rw [aPut_row]
    by_cases e : k = 24 * i + j
    · rw [if_pos e]; exact by'
    · rw [if_neg e]; exact a3 k hk
  · rw [apR (by decide)]
    exact a4
  obtain ⟨w1, w2, w3, w4, w5, w6⟩ := h5
  refine ⟨by rw [aPut_cell (by decide), aPut_cell (by decide)]; exact w1, by rw [aPut_cell (by decide), aPut_cell (by decide)]; exact w2, fun i hi => ?_, fun i' j' hi' hj' => ?_, ?_, fun l hl => ?_⟩
  · rw [aPut_cell (by decide), aPut_cell (by decide), aPut_cell (by decide), aPut_cell (by decide), aPut_cell (by decide), aPut_cell (by decide)]
    exact w3 i hi
  · obtain ⟨q1, q2⟩ := w4 i' j' hi' hj'
    have q1 : bt (M 21 i') j' = decide (V 195 (24 * i' + j') = kI 1) := q1
    refine ⟨?_, by rw [aPut_cell (by decide), aPut_cell (by decide)]; exact q2⟩
    show bt (aPut M 21 i x 21 i') j' = decide (aPut V 195 (24 * i + j) y 195 (24 * i' + j') = kI 1)
    rw [aPut_row, aPut_row]
    by_cases e : i' = i
    · subst e
      by_cases f : j' = j
      · subst f
        rw [if_pos rfl, if_pos rfl, hx _ hj', if_pos rfl, hy]
        cases b <;> decide
      · rw [if_pos rfl, if_neg (show ¬ 24 * i' + j' = 24 * i' + j by omega), hx _ hj', if_neg f]
        exact q1
    · rw [if_neg e, if_neg (show ¬ 24 * i' + j' = 24 * i + j by omega)]
      exact q1
  · rw [aPut_cell (by decide), aPut_cell (by decide), aPut_cell (by decide), aPut_cell (by decide), aPut_cell (by decide), aPut_cell (by decide), aPut_cell (by decide), aPut_cell (by decide), aPut_cell (by decide), aPut_cell (by decide), aPut_cell (by decide), aPut_cell (by decide), aPut_cell (by decide), aPut_cell (by decide)]
    exact w5
  · rw [apR (by decide), apR (by decide), apR (by decide), apR (by decide), apR (by decide), apR (by decide)]
    exact w6 l hl
theorem bt_boy {x p m : Int32} {n i : Nat} (hm : m.toInt = n) (hn : n < 24) (hp : p = 0 ∨ p = kI 1) : bt (x ||| (p <<< (m &&& 31))) i = (bt x i || (decide (p = kI 1) && decide (i = n))) := by
  rw [bt_or]
  rcases hp with rfl | rfl
  · rw [show ((0 : Int32) <<< (m &&& 31)) = kI 0 from sh_0, bt_0, show decide ((0 : Int32) = kI 1) = false by decide, Bool.false_and]
  · rw [bt_sh hm (by omega), show decide (kI 1 = kI 1) = true by decide, Bool.true_and]
theorem rT_boy {M V N U : pMem} (h : rT 18 M V) {n : Nat} {p q : Int32} (hn : (V 188 2).toInt = n) (hn24 : n < 24) (hp : p = 0 ∨ p = kI 1)
    (c0 : N 19 0 = M 19 0 + kI 1) (c1 : N 19 1 = M 19 1 ||| (p <<< (M 19 0 &&& 31))) (c2 : N 19 2 = M 19 2 ||| (kI 1 <<< (M 19 0 &&& 31))) (c3 : N 19 3 = M 19 3 ||| (kI 1 <<< (M 19 0 &&& 31))) (c4 : ∀ j, 4 ≤ j → N 19 j = M 19 j) (c20 : ∀ i, N 20 i = if i = n then q else M 20 i) (cb : ∀ b, 18 ≤ b → b < 74 → b ≠ 19 → b ≠ 20 → N b = M b)
    (d2 : U 188 2 = V 188 2 + kI 1) (d : ∀ j, 1 ≤ j → j ≠ 2 → U 188 j = V 188 j) (d189 : ∀ i, U 189 i = if i = n then p else V 189 i) (d190 : ∀ i, U 190 i = if i = n then q else V 190 i) (d191 : ∀ i, U 191 i = if i = n then kI 1 else V 191 i) (d192 : ∀ i, U 192 i = if i = n then kI 1 else V 192 i) (db : ∀ b, 193 ≤ b → b ≤ 227 → U b = V b) : rT 18 N U := by
  obtain ⟨⟨h1, h2, h3⟩, ⟨h5, h6⟩, _, _, h9⟩ := id h
  have h5 : rW 19 M V := h5
  have h6 : rLo 19 M V := h6
  obtain ⟨⟨m, m1, m2, m3⟩, a2, a3, a4⟩ := h1
  have m3n : ∀ i, n ≤ i → i < 24 → V 191 i = 0 := fun i h1 h2 => m3 i (by omega) h2
  obtain ⟨m', ⟨_, r2, _⟩, r4⟩ := h2
  have r4n : ∀ i, i < 24 → bo (V 192 i) ∧ (n ≤ i → V 192 i = 0 ∧ V 189 i = 0) := fun i hi => ⟨(r4 i hi).1, fun q => (r4 i hi).2 (by omega)⟩
  obtain ⟨w1, ⟨w2, w2'⟩, w3, w4, w5, w6⟩ := h5
  obtain ⟨l1, l2⟩ := h6
  have hm : (M 19 0).toInt = n := by rw [w1]; exact hn
  have n1 : (V 188 2 + kI 1).toInt = ((n + 1 : Nat) : Int) := n_add1 hn (by omega)
  have bp : bo p := hp
  have nb' : rNb U (n + 1) := ⟨by omega, by rw [d2]; exact n1, fun i h1 h2 => by rw [d191, if_neg (by omega)]; exact m3n i (by omega) h2⟩
  have nbx : ∀ {x p : Int32}, nb x → (p = 0 ∨ p = kI 1) → nb (x ||| (p <<< (M 19 0 &&& 31))) := fun hx hp i hi => by
    rw [bt_boy hm hn24 hp, hx i hi, decide_eq_false (show ¬ i = n by omega), Bool.and_false, Bool.or_false]
  have o1 : (kI 1 : Int32) = 0 ∨ (kI 1 : Int32) = kI 1 := Or.inr rfl
  have t1 : decide (kI 1 = kI 1) = true := decide_eq_true rfl
  refine rT_w h ⟨⟨⟨n + 1, nb'⟩, fun i hi => ⟨?_, ?_⟩, fun k hk => by rw [db 195 (by decide) (by decide)]; exact a3 k hk, fun l hl => by rw [db 196 (by decide) (by decide)]; exact a4 l hl⟩, ⟨n + 1, nb', fun i hi => ⟨?_, fun hmi => ?_⟩⟩, by rw [d 3 (by decide) (by decide)]; exact h3⟩ ⟨⟨?_, ⟨?_, ?_⟩, fun i hi => ⟨?_, ?_, ?_⟩, fun i j hi hj => ?_, ?_, fun l hl => ?_⟩, ⟨?_, fun i hi => ?_⟩⟩
    (cb 26 (by decide) (by decide) (by decide) (by decide)) (db 201 (by decide) (by decide)) (fun b _ _ => cb b (by omega) (by omega) (by omega) (by omega)) (fun b _ _ => db b (by omega) (by omega))
    (rOt_c h9 (by rw [cb 18 (by decide) (by decide) (by decide) (by decide)]) (by rw [cb 18 (by decide) (by decide) (by decide) (by decide)]) (cb 28 (by decide) (by decide) (by decide) (by decide)) (cb 29 (by decide) (by decide) (by decide) (by decide)) (d 4 (by decide) (by decide)) (d 71 (by decide) (by decide)) (db 226 (by decide) (by decide)) (db 227 (by decide) (by decide)) (db 193 (by decide) (by decide)))
  · rw [d189]
    by_cases e : i = n
    · rw [if_pos e]; exact bp
    · rw [if_neg e]; exact (a2 i hi).1
  · rw [d191]
    by_cases e : i = n
    · rw [if_pos e]; exact Or.inr rfl
    · rw [if_neg e]; exact (a2 i hi).2
  · rw [d192]
    by_cases e : i = n
    · rw [if_pos e]; exact Or.inr rfl
    · rw [if_neg e]; exact (r4n i hi).1
  · rw [d192, d189, if_neg (by omega), if_neg (by omega)]
    exact (r4n i hi).2 (by omega)
  · rw [c0, d2, w1]
  · rw [c1]; exact nbx w2 hp
  · rw [c2]; exact nbx w2' o1
  · rw [c1, bt_boy hm hn24 hp, (w3 i hi).1, d189]
    by_cases e : i = n
    · rw [if_pos e, ((r4n i hi).2 (by omega)).2, show decide ((0 : Int32) = kI 1) = false by decide, decide_eq_true e, Bool.and_true, Bool.false_or]
    · rw [if_neg e, decide_eq_false e, Bool.and_false, Bool.or_false]
  · rw [c2, bt_boy hm hn24 o1, (w3 i hi).2.1, d191, t1, Bool.true_and]
    by_cases e : i = n
    · rw [if_pos e, decide_eq_true e, Bool.or_true, t1]
    · rw [if_neg e, decide_eq_false e, Bool.or_false]
  · show N 20 i = U 190 i
    have q : M 20 i = V 190 i := (w3 i hi).2.2
    rw [c20, d190, q]
  · have e1 : N (19 + 2) = M (19 + 2) := cb 21 (by decide) (by decide) (by decide) (by decide)
    have e2 : N (19 + 3) = M (19 + 3) := cb 22 (by decide) (by decide) (by decide) (by decide)
    rw [e1, e2, db 195 (by decide) (by decide), db 194 (by decide) (by decide)]
    exact w4 i j hi hj
  · rw [c4 4 (by decide), c4 5 (by decide), c4 6 (by decide), c4 7 (by decide), c4 8 (by decide), c4 9 (by decide), c4 10 (by decide), d 3 (by decide) (by decide), d 1 (by decide) (by decide), d 17 (by decide) (by decide), d 18 (by decide) (by decide), d 19 (by decide) (by decide), d 20 (by decide) (by decide), d 21 (by decide) (by decide)]
    exact w5
  · have e1 : N (19 + 4) = M (19 + 4) := cb 23 (by decide) (by decide) (by decide) (by decide)
    rw [e1, db 196 (by decide) (by decide), db 197 (by decide) (by decide), db 198 (by decide) (by decide), db 199 (by decide) (by decide), db 200 (by decide) (by decide)]
    exact w6 l hl
  · rw [c3]; exact nbx l1 o1
  · rw [c3, bt_boy hm hn24 o1, l2 i hi, d192, t1, Bool.true_and]
    by_cases e : i = n
    · rw [if_pos e, decide_eq_true e, Bool.or_true, t1]
    · rw [if_neg e, decide_eq_false e, Bool.or_false]
/-! what is told by each of these calls comes to the same on both sides -/
theorem ap_eq {M N : pMem} {a j b i : Nat} {x : Int32} (h : N b i = M b i) : aPut N a j x b i = aPut M a j x b i := by
  by_cases e : b = a
  · subst e
    rw [aPut_row, aPut_row, h]
  · rw [aPut_cell e, aPut_cell e, h]
theorem cpC_of' {t : Nat} {M N : pMem} (h : ∀ a j, t ≤ a → a < t + 56 → a ≠ t + 9 → N a j = M a j) : cpC t t M N := by
  refine ⟨fun j _ => ?_, fun i _ => ⟨?_, ?_⟩, fun i _ => ?_, fun i _ => ?_, fun k hk => ⟨?_, fun i _ => ⟨?_, ?_, ?_, ?_⟩, fun i _ => ?_⟩, fun i _ => ?_, fun i _ => ⟨?_, ?_⟩, ?_, ?_⟩
  all_goals (refine h _ _ (by omega) (by omega) (by omega))
theorem pl_hi {a j : Nat} (h : plT a j) : 188 ≤ a ∧ a < 230 ∧ a ≠ 223 ∧ ¬ (a = 188 ∧ j = 0) := by
  unfold plT at h
  omega
theorem rT_to {M V N U : pMem} (h : rT 18 M V) (c : ∀ a j, 18 ≤ a → a < 74 ∧ a ≠ 27 → N a j = M a j) (v : ∀ a j, 188 ≤ a ∧ a ≠ 223 → ¬ (a = 188 ∧ j = 0) → U a j = V a j) : rT 18 N U :=
  rT_mv h (cpC_of' fun a j h1 h2 h3 => c a j h1 (by omega)) (agT_of fun a j hp => v a j ⟨(pl_hi hp).1, (pl_hi hp).2.2.1⟩ (pl_hi hp).2.2.2)
theorem p0_at {M : pMem} {a j : Nat} {x : Int32} (h : ¬ (a = 188 ∧ j = 0)) : aPut M 188 0 x a j = M a j := by
  by_cases e : a = 188
  · subst e
    exact aPut_at (fun q => h ⟨rfl, q⟩)
  · exact aPut_cell e
theorem rT_0 {M : pMem} {x : Int32} (h : rT 18 M M) : rT 18 (aPut M 188 0 x) (aPut M 188 0 x) := rT_to h (fun a j _ h2 => aPut_cell (by omega)) fun a j _ h => p0_at h
theorem f222_i {w : Nat} {x : Int32} {M : pMem} : ¬ f_222 w x M = 0 ↔ 0 ≤ x.toInt ∧ x.toInt < (M w 0).toInt := by
  unfold f_222
  by_cases a : x < 0
  · rw [if_pos a]
    rw [i_lt, i_0] at a
    exact ⟨fun q => absurd rfl q, fun q => by omega⟩
  · rw [if_neg a]
    rw [i_lt, i_0] at a
    by_cases b : M w 0 ≤ x
    · rw [if_pos b]
      rw [i_le] at b
      exact ⟨fun q => absurd rfl q, fun q => by omega⟩
    · rw [if_neg b]
      rw [i_le] at b
      exact ⟨fun _ => by omega, fun _ => by decide⟩
theorem f223_i {w : Nat} {x y : Int32} {M : pMem} (h : ¬ f_223 w x y M = 0) : ¬ f_222 w x M = 0 ∧ ¬ f_222 w y M = 0 ∧ ¬ x = y := by
  unfold f_223 at h
  by_cases a : f_222 w x M = 0
  · rw [if_pos a] at h
    exact absurd rfl h
  · rw [if_neg a] at h
    by_cases b : f_222 w y M = 0
    · rw [if_pos b] at h
      exact absurd rfl h
    · rw [if_neg b] at h
      by_cases c : x = y
      · rw [if_pos c] at h
        exact absurd rfl h
      · exact ⟨a, b, c⟩
/-- one of the boys told of -/
theorem boyN {M : pMem} (hA : rA M) {x : Int32} (h : ¬ f_222 19 x M = 0) : ∃ i : Nat, x.toInt = i ∧ i < 24 := by
  have q := f222_i.mp h
  have q2 := hA.2.1.2.2.2.1.2
  exact ⟨x.toInt.toNat, by omega, by omega⟩
theorem k01 : ¬ (kI 0 = kI 1) := by decide
theorem op_like_T {p1 p2 p3 v u : Int32} {M M1 M2 : pMem} (hA : rA M) (h : rT 18 M M) (h1 : D_2 p1 p2 p3 M v M1) (h2 : D_48 p1 p2 p3 M1 u M2) : rT 18 M2 M2 := by
  have vu := (op_like hA h1 h2).1
  have c1 : (v = kI 0 ∧ M1 = M) ∨ (v = kI 1 ∧ ¬ f_223 19 p1 p2 M = 0 ∧ M1 = aPut M 22 (ix (p1 * kI 24 + p2)) p3) := by
    rcases h1 with ⟨_, hv, hM⟩ | ⟨g, h1⟩
    · exact Or.inl ⟨hv, hM⟩
    · rcases h1 with ⟨_, _, Mb, eb, hv, hM⟩ | ⟨_, hv, hM⟩
      · exact Or.inr ⟨hv, g, by rw [hM, eb]⟩
      · exact Or.inl ⟨hv, hM⟩
  have c2 : (u = kI 0 ∧ M2 = aPut M1 188 0 (kI 0)) ∨ (u = kI 1 ∧ M2 = aPut (aPut M1 188 0 (kI 0)) 194 (ix (kI 24 * p1 + p2)) p3) := by
    obtain ⟨Ma, ea, h2⟩ := h2
    rw [← ea]
    rcases h2 with ⟨_, hu, hM⟩ | ⟨_, h2⟩
    · exact Or.inl ⟨hu, hM⟩
    · rcases h2 with ⟨_, hu, hM⟩ | ⟨_, h2⟩
      · exact Or.inl ⟨hu, hM⟩
      · rcases h2 with ⟨_, hu, hM⟩ | ⟨_, h2⟩
        · exact Or.inl ⟨hu, hM⟩
        · rcases h2 with ⟨_, _, Mb, eb, hu, hM⟩ | ⟨_, hu, hM⟩
          · exact Or.inr ⟨hu, by rw [hM, eb]⟩
          · exact Or.inl ⟨hu, hM⟩
  rcases c1 with ⟨v1, e1⟩ | ⟨v1, g, e1⟩
  · rcases c2 with ⟨u1, e2⟩ | ⟨u1, e2⟩
    · rw [e2, e1]; exact rT_0 h
    · exact absurd (v1.symm.trans (vu.trans u1)) k01
  · rcases c2 with ⟨u1, e2⟩ | ⟨u1, e2⟩
    · exact absurd (u1.symm.trans (vu.symm.trans v1)) k01
    · obtain ⟨g1, g2, _⟩ := f223_i g
      obtain ⟨i, hi, hi24⟩ := boyN hA g1
      obtain ⟨j, hj, hj24⟩ := boyN hA g2
      obtain ⟨x1, x2⟩ := ix24 hi hj hi24 hj24
      rw [x1] at e1
      rw [x2, e1] at e2
      rw [e2]
      refine rT_to (rT_like h hi24 hj24 (x := p3)) (fun a b q1 q2 => ?_) fun a b q1 q2 => ap_eq ?_
      · rw [aPut_cell (by omega), aPut_cell (by omega)]
      · rw [p0_at q2, aPut_cell (by omega)]
theorem op_state_T {p1 v u : Int32} {M M1 M2 : pMem} (h : rT 18 M M) (h1 : D_4 p1 M v M1) (h2 : D_50 p1 M1 u M2) : rT 18 M2 M2 := by
  obtain ⟨Ma, ea, hv, hM⟩ := h1
  obtain ⟨Mb, eb, Mc, ec, hu, hN⟩ := h2
  rw [hN, ec, eb, hM, ea]
  refine rT_to (rT_state h (x := p1)) (fun a b q1 q2 => ?_) fun a b q1 q2 => ap_eq ?_
  · rw [aPut_cell (by omega), aPut_cell (by omega)]
  · rw [p0_at q2, aPut_cell (by omega)]
theorem op_number_T {p1 p2 v u : Int32} {M M1 M2 : pMem} (hA : rA M) (h : rT 18 M M) (h1 : D_25 p1 p2 M v M1) (h2 : D_52 p1 p2 M1 u M2) : rT 18 M2 M2 := by
  have vu := (op_number hA h1 h2).1
  have c1 : (v = kI 0 ∧ M1 = M) ∨ (v = kI 1 ∧ (0 ≤ p2.toInt ∧ p2.toInt ≤ 99) ∧ M1 = aPut M 29 (ix p1) p2) := by
    rcases h1 with ⟨_, hv, hM⟩ | ⟨g, h1⟩
    · exact Or.inl ⟨hv, hM⟩
    · rcases h1 with ⟨_, hv, hM⟩ | ⟨g1, h1⟩
      · exact Or.inl ⟨hv, hM⟩
      · rcases h1 with ⟨g2, _, Mb, eb, hv, hM⟩ | ⟨_, hv, hM⟩
        · rw [i_lt, i_0] at g1
          rw [i_le, kI_toInt (by decide) (by decide)] at g2
          exact Or.inr ⟨hv, ⟨by omega, g2⟩, by rw [hM, eb]⟩
        · exact Or.inl ⟨hv, hM⟩
  have c2 : (u = kI 0 ∧ M2 = aPut M1 188 0 (kI 0)) ∨ (u = kI 1 ∧ M2 = aPut (aPut M1 188 0 (kI 0)) 193 (ix p1) p2) := by
    obtain ⟨Ma, ea, h2⟩ := h2
    rw [← ea]
    rcases h2 with ⟨_, hu, hM⟩ | ⟨_, h2⟩
    · exact Or.inl ⟨hu, hM⟩
    · rcases h2 with ⟨_, _, Mb, eb, hu, hM⟩ | ⟨_, hu, hM⟩
      · exact Or.inr ⟨hu, by rw [hM, eb]⟩
      · exact Or.inl ⟨hu, hM⟩
  rcases c1 with ⟨v1, e1⟩ | ⟨v1, g, e1⟩
  · rcases c2 with ⟨u1, e2⟩ | ⟨u1, e2⟩
    · rw [e2, e1]; exact rT_0 h
    · exact absurd (v1.symm.trans (vu.trans u1)) k01
  · rcases c2 with ⟨u1, e2⟩ | ⟨u1, e2⟩
    · exact absurd (u1.symm.trans (vu.symm.trans v1)) k01
    · rw [e2, e1]
      refine rT_to (rT_number h g (i := ix p1)) (fun a b q1 q2 => ?_) fun a b q1 q2 => ap_eq ?_
      · rw [aPut_cell (by omega), aPut_cell (by omega)]
      · rw [p0_at q2, aPut_cell (by omega)]
theorem f35_i {x : Int32} (h : ¬ f_35 x = 0) : -50 ≤ x.toInt ∧ x.toInt ≤ 50 := by
  have q := f_42_iff.mp (show ¬ f_42 x (kI (-50)) (kI 50) = 0 from h)
  rw [i_le, i_le, kI_toInt (by decide) (by decide), kI_toInt (by decide) (by decide)] at q
  exact q
theorem op_told_T {p1 p2 v u : Int32} {M M1 M2 : pMem} (h : rT 18 M M) (h1 : D_22 p1 p2 M v M1) (h2 : D_117 p1 p2 M1 u M2) : rT 18 M2 M2 ∧ v = u := by
  have c1 : (v = kI 0 ∧ M1 = M ∧ ¬ ((1 ≤ p1.toInt ∧ p1.toInt ≤ 24) ∧ (p2 = kI (-100) ∨ (-50 ≤ p2.toInt ∧ p2.toInt ≤ 50)))) ∨ (v = kI 1 ∧ M1 = aPut M 28 (ix (p1 - kI 1)) p2 ∧ ((1 ≤ p1.toInt ∧ p1.toInt ≤ 24) ∧ (p2 = kI (-100) ∨ (-50 ≤ p2.toInt ∧ p2.toInt ≤ 50)))) := by
    rcases h1 with ⟨g, hv, hM⟩ | ⟨g, h1⟩
    · rw [i_lt, kI1] at g
      exact Or.inl ⟨hv, hM, fun q => by omega⟩
    · rw [i_lt, kI1] at g
      rcases h1 with ⟨g2, hv, hM⟩ | ⟨g2, h1⟩
      · rw [i_lt, kI_toInt (by decide) (by decide)] at g2
        exact Or.inl ⟨hv, hM, fun q => by omega⟩
      · rw [i_lt, kI_toInt (by decide) (by decide)] at g2
        rcases h1 with ⟨g3, _, Mb, eb, hv, hM⟩ | ⟨g3, h1⟩
        · exact Or.inr ⟨hv, by rw [hM, eb], ⟨by omega, by omega⟩, Or.inr (f35_i g3)⟩
        · rcases h1 with ⟨g4, _, Mb, eb, hv, hM⟩ | ⟨g4, hv, hM⟩
          · exact Or.inr ⟨hv, by rw [hM, eb], ⟨by omega, by omega⟩, Or.inl g4⟩
          · refine Or.inl ⟨hv, hM, fun q => ?_⟩
            rcases q.2 with q | q
            · exact g4 q
            · refine g3 ((f_42_iff (v := p2) (a := kI (-50)) (b := kI 50)).mpr ?_)
              rw [i_le, i_le, kI_toInt (by decide) (by decide), kI_toInt (by decide) (by decide)]
              exact q
  have c2 : (u = kI 0 ∧ M2 = aPut M1 188 0 (kI 0) ∧ ¬ ((1 ≤ p1.toInt ∧ p1.toInt ≤ 24) ∧ (p2 = kI (-100) ∨ (-50 ≤ p2.toInt ∧ p2.toInt ≤ 50)))) ∨ (u = kI 1 ∧ ∃ b, ((b = 0 ∧ p2 = kI (-100)) ∨ (b = kI 1 ∧ -50 ≤ p2.toInt ∧ p2.toInt ≤ 50)) ∧ M2 = aPut (aPut (aPut M1 188 0 (kI 0)) 226 (ix (p1 - kI 1)) b) 227 (ix (p1 - kI 1)) p2) := by
    obtain ⟨Ma, ea, h2⟩ := h2
    rw [← ea]
    rcases h2 with ⟨g, hu, hM⟩ | ⟨g, h2⟩
    · refine Or.inl ⟨hu, hM, fun q => absurd g (f_42_iff.mpr ?_)⟩
      rw [i_le, i_le, kI1, kI_toInt (by decide) (by decide)]
      exact q.1
    · rcases h2 with ⟨g2, h2⟩ | ⟨g2, h2⟩
      · obtain ⟨_, Mb, eb, _, Mc, ec, hu, hM⟩ := tIf_p g2 h2
        exact Or.inr ⟨hu, kI 0, Or.inl ⟨rfl, g2⟩, by rw [hM, ec, eb]⟩
      · rcases h2 with ⟨g3, h2⟩ | ⟨g3, hu, hM⟩
        · obtain ⟨_, Mb, eb, _, Mc, ec, hu, hM⟩ := tIf_n g2 h2
          exact Or.inr ⟨hu, kI 1, Or.inr ⟨rfl, f35_i (x := p2) g3⟩, by rw [hM, ec, eb]⟩
        · refine Or.inl ⟨hu, hM, fun q => ?_⟩
          rcases q.2 with q | q
          · exact g2 q
          · refine g3 (f_42_iff.mpr ?_)
            rw [i_le, i_le, kI_toInt (by decide) (by decide), kI_toInt (by decide) (by decide)]
            exact q
  rcases c1 with ⟨v1, e1, n1⟩ | ⟨v1, e1, n1⟩
  · rcases c2 with ⟨u1, e2, _⟩ | ⟨u1, b, hb, e2⟩
    · rw [e2, e1, v1, u1]; exact ⟨rT_0 h, rfl⟩
    · exfalso
      obtain ⟨Ma, ea, h2⟩ := h2
      rcases h2 with ⟨g, hu, hM⟩ | ⟨g, _⟩
      · exact k01 (hu.symm.trans u1)
      · have q := f_42_iff.mp g
        rw [i_le, i_le, kI1, kI_toInt (by decide) (by decide)] at q
        refine n1 ⟨q, ?_⟩
        rcases hb with ⟨_, b1⟩ | ⟨_, b1⟩
        · exact Or.inl b1
        · exact Or.inr b1
  · rcases c2 with ⟨u1, e2, n2⟩ | ⟨u1, b, hb, e2⟩
    · exact absurd n1 n2
    · refine ⟨?_, by rw [v1, u1]⟩
      rw [e2, e1]
      refine rT_to (rT_told h hb (i := ix (p1 - kI 1))) (fun a j q1 q2 => ?_) fun a j q1 q2 => ap_eq (ap_eq ?_)
      · rw [aPut_cell (by omega), aPut_cell (by omega), aPut_cell (by omega)]
      · rw [p0_at q2, aPut_cell (by omega)]
theorem op_force_T {p1 v u : Int32} {M M1 M2 : pMem} (h : rT 18 M M) (h1 : D_9 p1 M v M1) (h2 : D_103 p1 M1 u M2) : rT 18 M2 M2 ∧ v = u := by
  obtain ⟨Ma, ea, h2⟩ := h2
  have f7 : M 18 7 = M 188 4 := h.2.2.2.2.1.1
  by_cases c : 0 ≤ p1.toInt ∧ p1.toInt < 4
  · obtain ⟨Mb, eb, hv, hM⟩ := tIf_p (f_33_iff.mpr c) h1
    obtain ⟨Mc, ec, hu, hN⟩ := tIf_p (f_42_iff.mpr (by rw [i_le, i_le, kI0, kI_toInt (by decide) (by decide)]; omega)) h2
    refine ⟨?_, ?_⟩
    · rw [hN, ec, ea, hM, eb]
      refine rT_to (rT_force h c) (fun a j q1 q2 => ?_) fun a j q1 q2 => ap_eq ?_
      · rw [aPut_cell (by omega), aPut_cell (by omega)]
      · rw [p0_at q2, aPut_cell (by omega)]
    · rw [hv, hu, ea, aPut_at (by decide), hM, eb, aPut_cell (by decide)]
      exact f7
  · obtain ⟨hv, hM⟩ := tIf_n (fun q => c (f_33_iff.mp q)) h1
    obtain ⟨hu, hN⟩ := tIf_n (fun q => c (by have q := f_42_iff.mp q; rw [i_le, i_le, kI0, kI_toInt (by decide) (by decide)] at q; omega)) h2
    rw [hN, ea, hM, hv, hu]
    exact ⟨rT_0 h, rfl⟩
theorem op_row_T {p1 v u : Int32} {M M1 M2 : pMem} (h : rT 18 M M) (h1 : D_20 p1 M v M1) (h2 : D_113 p1 M1 u M2) : rT 18 M2 M2 ∧ v = u := by
  obtain ⟨Ma, ea, h2⟩ := h2
  obtain ⟨f8, f9, f10⟩ : M 18 8 = M 188 71 ∧ 0 ≤ (M 188 71).toInt ∧ (M 188 71).toInt ≤ 5 := h.2.2.2.2.2.1
  have m71 : M1 188 71 = M 188 71 → Ma 188 71 = M 188 71 := fun e => by rw [ea, aPut_at (by decide)]; exact e
  by_cases c : p1 = kI (-1)
  · obtain ⟨Mb, eb, hv, hM⟩ := tIf_n (nn c) h1
    obtain ⟨Mc, ec, hu, hN⟩ := tIf_n (nn c) h2
    refine ⟨?_, by rw [hv, hu]⟩
    rw [hN, ec, ea, hM, eb]
    refine rT_to (rT_row h (x := kI 0) (by decide)) (fun a j q1 q2 => ?_) fun a j q1 q2 => ap_eq ?_
    · rw [aPut_cell (by omega), aPut_cell (by omega)]
    · rw [p0_at q2, aPut_cell (by omega)]
  · have h1 := tIf_p c h1
    have h2 := tIf_p c h2
    by_cases c2 : f_34 p1 = 0
    · obtain ⟨hv, hM⟩ := tIf_p c2 h1
      obtain ⟨hu, hN⟩ := tIf_p (show f_42 p1 (kI 0) (kI 3) = 0 from c2) h2
      rw [hN, ea, hM, hv, hu]
      exact ⟨rT_0 h, rfl⟩
    · have h1 := tIf_n c2 h1
      have h2 := tIf_n (show ¬ f_42 p1 (kI 0) (kI 3) = 0 from c2) h2
      by_cases c3 : M 18 8 < kI 5
      · obtain ⟨_, Mb, eb, Mc, ec, hv, hM⟩ := tIf_p c3 h1
        rw [i_lt, kI_toInt (by decide) (by decide), f8] at c3
        have e71 : Ma 188 71 = M 188 71 := m71 (by rw [hM, ec, aPut_cell (by decide), eb, aPut_cell (by decide)])
        have h2 := tIf_p (show ¬ Ma 188 71 = kI 5 by rw [e71, yk (by decide) (by decide)]; omega) h2
        obtain ⟨_, Md, ed, Me, ee, hu, hN⟩ := h2
        have b8 : Mb 18 8 = M 188 71 := by rw [eb, aPut_cell (by decide)]; exact f8
        have d71 : Md 188 71 = M 188 71 := by rw [ed, aPut_cell (by decide)]; exact e71
        rw [b8] at ec
        rw [d71] at ee
        have n1 : (M 188 71 + kI 1).toInt = (M 188 71).toInt + 1 := i_add1 (by omega)
        refine ⟨?_, by rw [hv, hu, ec, ee, aPut_same, aPut_same]⟩
        rw [hN]
        refine rT_to (rT_row h (x := M 188 71 + kI 1) ⟨by rw [n1]; omega, by rw [n1]; omega⟩) (fun a j q1 q2 => ?_) fun a j q1 q2 => ?_
        · rw [ee, aPut_cell (by omega), ed, aPut_cell (by omega), ea, aPut_cell (by omega), hM, ec]
          exact ap_eq (by rw [eb, aPut_cell (by omega)])
        · rw [ee]
          exact ap_eq (by rw [ed, aPut_cell (by omega), ea, p0_at q2, hM, ec, aPut_cell (by omega), eb, aPut_cell (by omega)])
      · obtain ⟨hv, hM⟩ := tIf_n c3 h1
        rw [i_lt, kI_toInt (by decide) (by decide), f8] at c3
        have e71 : Ma 188 71 = M 188 71 := m71 (by rw [hM])
        obtain ⟨hu, hN⟩ := tIf_n (show ¬ ¬ Ma 188 71 = kI 5 from nn (by rw [e71, yk (by decide) (by decide)]; omega)) h2
        rw [hN, ea, hM, hv, hu]
        exact ⟨rT_0 h, rfl⟩
theorem D_224_c {i j : Nat} {p1 p2 p3 : Int32} (hi : p1.toInt = i) (hj : p2.toInt = j) (hi24 : i < 24) (hj24 : j < 24) (ne : ¬ i = j) {M : pMem} {v : Unit} {N : pMem} (h : D_224 19 p1 p2 p3 M v N) :
    ∃ x y, (∀ k, k < 24 → bt x k = if k = j then !decide (p3 = 0) else bt (M 21 i) k) ∧ (∀ k, k < 24 → bt y k = if k = i then !decide (p3 = 0) else bt (M 21 j) k) ∧ N = aPut (aPut M 21 i x) 21 j y := by
  have o : ∀ {x : Int32}, aPut M 21 i x 21 j = M 21 j := fun {x} => by rw [aPut_row, if_neg (fun e => ne e.symm)]
  by_cases c : p3 = 0
  · obtain ⟨_, _, M1, e1, h⟩ := tIf_p c h
    obtain ⟨_, _, M2, e2, _, hN⟩ := tIf_p c h
    have e1 : M1 = aPut M 21 i (M 21 i &&& ((kI 1 <<< (p2 &&& 31)) ^^^ kI (-1))) := by rw [← ix_of hi]; exact e1
    have e2 : M2 = aPut M1 21 j (M1 21 j &&& ((kI 1 <<< (p1 &&& 31)) ^^^ kI (-1))) := by rw [← ix_of hj]; exact e2
    have d : (!decide (p3 = 0)) = false := by rw [decide_eq_true c]; rfl
    rw [d]
    refine ⟨_, _, fun k hk => bt_clr hj hj24 hk, fun k hk => bt_clr hi hi24 hk, ?_⟩
    rw [hN, e2, e1, o]
  · obtain ⟨_, _, M1, e1, h⟩ := tIf_n c h
    obtain ⟨_, _, M2, e2, _, hN⟩ := tIf_n c h
    have e1 : M1 = aPut M 21 i (M 21 i ||| (kI 1 <<< (p2 &&& 31))) := by rw [← ix_of hi]; exact e1
    have e2 : M2 = aPut M1 21 j (M1 21 j ||| (kI 1 <<< (p1 &&& 31))) := by rw [← ix_of hj]; exact e2
    have d : (!decide (p3 = 0)) = true := by rw [decide_eq_false c]; rfl
    rw [d]
    refine ⟨_, _, fun k hk => bt_set hj hj24 hk, fun k hk => bt_set hi hi24 hk, ?_⟩
    rw [hN, e2, e1, o]
theorem op_knew_T {p1 p2 p3 v u : Int32} {M M1 M2 : pMem} (hA : rA M) (h : rT 18 M M) (h1 : D_3 p1 p2 p3 M v M1) (h2 : D_49 p1 p2 p3 M1 u M2) : rT 18 M2 M2 := by
  have vu := (op_knew hA h1 h2).1
  have c1 : (v = kI 0 ∧ M1 = M) ∨ (v = kI 1 ∧ ¬ f_223 19 p1 p2 M = 0 ∧ ∃ w, D_224 19 p1 p2 p3 M w M1) := by
    rcases h1 with ⟨g, w, Mb, hb, hv, hM⟩ | ⟨g, hv, hM⟩
    · exact Or.inr ⟨hv, g, w, by rw [hM]; exact hb⟩
    · exact Or.inl ⟨hv, hM⟩
  have c2 : (u = kI 0 ∧ M2 = aPut M1 188 0 (kI 0)) ∨ (u = kI 1 ∧ ∃ b, (b = if (!decide (p3 = 0)) = true then kI 1 else kI 0) ∧ M2 = aPut (aPut (aPut M1 188 0 (kI 0)) 195 (ix (kI 24 * p1 + p2)) b) 195 (ix (kI 24 * p2 + p1)) b) := by
    obtain ⟨Ma, ea, h2⟩ := h2
    rw [← ea]
    rcases h2 with ⟨_, hu, hM⟩ | ⟨_, h2⟩
    · exact Or.inl ⟨hu, hM⟩
    · rcases h2 with ⟨_, hu, hM⟩ | ⟨_, h2⟩
      · exact Or.inl ⟨hu, hM⟩
      · rcases h2 with ⟨_, h2⟩ | ⟨_, hu, hM⟩
        · by_cases c : p3 = 0
          · obtain ⟨_, Mb, eb, h2⟩ := tIf_p c h2
            obtain ⟨_, Mc, ec, hu, hM⟩ := tIf_p c h2
            exact Or.inr ⟨hu, kI 0, by rw [decide_eq_true c]; rfl, by rw [hM, ec, eb]⟩
          · obtain ⟨_, Mb, eb, h2⟩ := tIf_n c h2
            obtain ⟨_, Mc, ec, hu, hM⟩ := tIf_n c h2
            exact Or.inr ⟨hu, kI 1, by rw [decide_eq_false c]; rfl, by rw [hM, ec, eb]⟩
        · exact Or.inl ⟨hu, hM⟩
  rcases c1 with ⟨v1, e1⟩ | ⟨v1, g, w, h224⟩
  · rcases c2 with ⟨u1, e2⟩ | ⟨u1, _⟩
    · rw [e2, e1]; exact rT_0 h
    · exact absurd (v1.symm.trans (vu.trans u1)) k01
  · rcases c2 with ⟨u1, e2⟩ | ⟨u1, b, hb, e2⟩
    · exact absurd (u1.symm.trans (vu.symm.trans v1)) k01
    · obtain ⟨g1, g2, ne⟩ := f223_i g
      obtain ⟨i, hi, hi24⟩ := boyN hA g1
      obtain ⟨j, hj, hj24⟩ := boyN hA g2
      have nij : ¬ i = j := fun e => ne (Int32.toInt_inj.mp (by rw [hi, hj, e]))
      rw [(ix24 hi hj hi24 hj24).2, (ix24 hj hi hj24 hi24).2] at e2
      obtain ⟨x, y, hx, hy, eN⟩ := D_224_c hi hj hi24 hj24 nij h224
      have r1 := rT_know h hi24 hj24 hx hb
      have hy' : ∀ k, k < 24 → bt y k = if k = i then !decide (p3 = 0) else bt (aPut M 21 i x 21 j) k := fun k hk => by
        rw [aPut_row, if_neg (show ¬ j = i from fun e => nij e.symm)]
        exact hy k hk
      have r2 := rT_know r1 hj24 hi24 hy' hb
      rw [e2, eN]
      refine rT_to r2 (fun a c q1 q2 => ?_) fun a c q1 q2 => ap_eq (ap_eq ?_)
      · rw [aPut_cell (by omega), aPut_cell (by omega), aPut_cell (by omega)]
      · rw [p0_at q2, aPut_cell (by omega), aPut_cell (by omega)]
theorem op_boy_T {p1 p2 v u : Int32} {M M1 M2 : pMem} (hA : rA M) (h : rT 18 M M) (h1 : D_1 p1 p2 M v M1) (h2 : D_47 p1 p2 M1 u M2) : rT 18 M2 M2 := by
  have vu := (op_boy hA h1 h2).1
  obtain ⟨_, ⟨n1, n2, n3, ⟨n4, n4'⟩, n5⟩, _⟩ := hA
  obtain ⟨n, hn⟩ : ∃ n : Nat, (M 19 0).toInt = n := ⟨(M 19 0).toInt.toNat, by omega⟩
  have nm1 : ∀ x : Int32, x.toInt = n → ¬ x = kI (-1) := fun x hx e => by
    rw [e, kI_toInt (by decide) (by decide)] at hx
    omega
  have c1 : (v = kI (-1) ∧ M1 = M) ∨ (v = M 19 0 ∧ n < 24 ∧ (p1 = 0 ∨ p1 = kI 1) ∧ M1 = aPut (aPut (aPut (aPut (aPut M 19 0 (M 19 0 + kI 1)) 20 n p2) 19 1 (M 19 1 ||| (p1 <<< (M 19 0 &&& 31)))) 19 2 (M 19 2 ||| (kI 1 <<< (M 19 0 &&& 31)))) 19 3 (M 19 3 ||| (kI 1 <<< (M 19 0 &&& 31)))) := by
    rcases h1 with ⟨_, hv, hM⟩ | ⟨g1, h1⟩
    · exact Or.inl ⟨hv, hM⟩
    · rcases h1 with ⟨_, hv, hM⟩ | ⟨_, h1⟩
      · exact Or.inl ⟨hv, hM⟩
      · rcases h1 with ⟨_, hv, hM⟩ | ⟨_, h1⟩
        · exact Or.inl ⟨hv, hM⟩
        · rcases h1 with ⟨_, hv, hM⟩ | ⟨g2, h1⟩
          · exact Or.inl ⟨hv, hM⟩
          · rcases h1 with ⟨_, va, Mb, h221, hv, hM⟩ | ⟨_, hv, hM⟩
            · rw [hM, hv]
              rw [i_le, kI_toInt (by decide) (by decide)] at g2
              have h221 := tIf_n (by rw [i_lt, i_0]; omega) h221
              have h221 := tIf_p (by rw [i_lt, kI_toInt (by decide) (by decide)]; omega) h221
              obtain ⟨Mc, ec, _, Md, ed, Me, ee, Mf, ef, Mg, eg, hva, hMb⟩ := h221
              refine Or.inr ⟨hva, by omega, ?_, ?_⟩
              · rcases f_32_iff.mp g1 with q | q
                · exact Or.inl (by rw [i_eq, i_0]; exact q)
                · exact Or.inr (kI_inj q)
              · rw [hMb, eg]
                have ed : Md = aPut Mc 20 n p2 := by rw [← ix_of hn]; exact ed
                have d : ∀ j, j ≠ 0 → Md 19 j = M 19 j := fun j hj => by rw [ed, aPut_cell (by decide), ec, aPut_at hj]
                rw [d 1 (by decide)] at ee
                have e2 : Me 19 2 = M 19 2 := by rw [ee, aPut_at (by decide)]; exact d 2 (by decide)
                rw [e2] at ef
                have e3 : Mf 19 3 = M 19 3 := by rw [ef, aPut_at (by decide), ee, aPut_at (by decide)]; exact d 3 (by decide)
                rw [e3, ef, ee, ed, ec]
            · exact Or.inl ⟨hv, hM⟩
  have c2 : (u = kI (-1) ∧ M2 = aPut M1 188 0 (kI 0)) ∨ (u = (M1 188 2 + kI 1) - kI 1 ∧ M2 = aPut (aPut (aPut (aPut (aPut (aPut M1 188 0 (kI 0)) 189 (ix (M1 188 2)) p1) 190 (ix (M1 188 2)) p2) 191 (ix (M1 188 2)) (kI 1)) 192 (ix (M1 188 2)) (kI 1)) 188 2 (M1 188 2 + kI 1)) := by
    obtain ⟨Ma, ea, h2⟩ := h2
    rw [← ea]
    have a2 : Ma 188 2 = M1 188 2 := by rw [ea, aPut_at (by decide)]
    rcases h2 with ⟨_, hu, hM⟩ | ⟨_, h2⟩
    · exact Or.inl ⟨hu, hM⟩
    · rcases h2 with ⟨_, hu, hM⟩ | ⟨_, h2⟩
      · exact Or.inl ⟨hu, hM⟩
      · rcases h2 with ⟨_, hu, hM⟩ | ⟨_, h2⟩
        · exact Or.inl ⟨hu, hM⟩
        · rcases h2 with ⟨_, _, Mb, eb, _, Mc, ec, _, Md, ed, _, Me, ee, Mf, ef, hu, hM⟩ | ⟨_, hu, hM⟩
          · have b2 : Mb 188 2 = M1 188 2 := by rw [eb, aPut_cell (by decide)]; exact a2
            have c2 : Mc 188 2 = M1 188 2 := by rw [ec, aPut_cell (by decide)]; exact b2
            have d2 : Md 188 2 = M1 188 2 := by rw [ed, aPut_cell (by decide)]; exact c2
            have e2 : Me 188 2 = M1 188 2 := by rw [ee, aPut_cell (by decide)]; exact d2
            rw [a2] at eb
            rw [b2] at ec
            rw [c2] at ed
            rw [d2] at ee
            rw [e2] at ef
            exact Or.inr ⟨by rw [hu, ef, aPut_same], by rw [hM, ef, ee, ed, ec, eb]⟩
          · exact Or.inl ⟨hu, hM⟩
  have f1 := F_1 h1
  have m2 : M1 188 2 = M 19 0 := (f1 188 2 (by decide) rfl rfl).trans n1.symm
  have un : ((M1 188 2 + kI 1) - kI 1).toInt = n := by
    have t1 : (M1 188 2 + kI 1).toInt = (M1 188 2).toInt + 1 := i_add1 (by rw [m2]; omega)
    rw [i_sub (by rw [t1, kI1, m2]; omega) (by rw [t1, kI1, m2]; omega), t1, kI1, m2]
    omega
  rcases c1 with ⟨v1, e1⟩ | ⟨v1, n24, hp, e1⟩
  · rcases c2 with ⟨u1, e2⟩ | ⟨u1, e2⟩
    · rw [e2, e1]; exact rT_0 h
    · exact absurd (u1.symm.trans (vu.symm.trans v1)) (nm1 _ un)
  · rcases c2 with ⟨u1, e2⟩ | ⟨u1, e2⟩
    · exact absurd (v1.symm.trans (vu.trans u1)) (nm1 _ hn)
    · have ixn : ix (M1 188 2) = n := ix_of (by rw [m2]; exact hn)
      rw [ixn, m2] at e2
      have cl : ∀ a j, a < 188 → M2 a j = M1 a j := fun a j ha => by rw [e2, aPut_cell (by omega), aPut_cell (by omega), aPut_cell (by omega), aPut_cell (by omega), aPut_cell (by omega), aPut_cell (by omega)]
      have oth : ∀ a, a ≠ 19 → a ≠ 20 → M1 a = M a := fun a q1 q2 => by rw [e1, apR q1, apR q1, apR q1, apR q2, apR q1]
      refine rT_boy (q := p2) h (n := n) (p := p1) (by rw [← n1]; exact hn) n24 hp ?_ ?_ ?_ ?_ (fun j hj => ?_) (fun i => ?_) (fun b q1 q2 q3 q4 => funext fun j => ?_) ?_ (fun j q1 q2 => ?_) (fun i => ?_) (fun i => ?_) (fun i => ?_) (fun i => ?_) (fun b q1 q2 => ?_)
      · rw [cl 19 0 (by decide), e1, aPut_at (by decide), aPut_at (by decide), aPut_at (by decide), aPut_cell (by decide), aPut_same]
      · rw [cl 19 1 (by decide), e1, aPut_at (by decide), aPut_at (by decide), aPut_same]
      · rw [cl 19 2 (by decide), e1, aPut_at (by decide), aPut_same]
      · rw [cl 19 3 (by decide), e1, aPut_same]
      · rw [cl 19 j (by decide), e1, aPut_at (by omega), aPut_at (by omega), aPut_at (by omega), aPut_cell (by decide), aPut_at (by omega)]
      · rw [cl 20 i (by decide), e1, aPut_cell (by decide), aPut_cell (by decide), aPut_cell (by decide), aPut_row, aPut_cell (by decide)]
      · rw [cl b j (by omega), oth b q3 q4]
      · rw [e2, aPut_same, n1]
      · rw [e2, aPut_at q2, aPut_cell (by decide), aPut_cell (by decide), aPut_cell (by decide), aPut_cell (by decide), aPut_at (by omega), oth 188 (by decide) (by decide)]
      · rw [e2, aPut_cell (by decide), aPut_cell (by decide), aPut_cell (by decide), aPut_cell (by decide), aPut_row, aPut_cell (by decide), oth 189 (by decide) (by decide)]
      · rw [e2, aPut_cell (by decide), aPut_cell (by decide), aPut_cell (by decide), aPut_row, aPut_cell (by decide), aPut_cell (by decide), oth 190 (by decide) (by decide)]
      · rw [e2, aPut_cell (by decide), aPut_cell (by decide), aPut_row, aPut_cell (by decide), aPut_cell (by decide), aPut_cell (by decide), oth 191 (by decide) (by decide)]
      · rw [e2, aPut_cell (by decide), aPut_row, aPut_cell (by decide), aPut_cell (by decide), aPut_cell (by decide), aPut_cell (by decide), oth 192 (by decide) (by decide)]
      · rw [e2, apR (by omega), apR (by omega), apR (by omega), apR (by omega), apR (by omega), apR (by omega), oth b (by omega) (by omega)]
/-! each call keeps all of it -/
theorem op_boy_F {p1 p2 v u : Int32} {M M1 M2 : pMem} (h : rF M) (h1 : D_1 p1 p2 M v M1) (h2 : D_47 p1 p2 M1 u M2) : rF M2 :=
  ⟨(op_boy h.1 h1 h2).2, op_boy_T h.1 h.2.1 h1 h2, rI_fr (F_47 h2) (by decide +kernel) (rI_fr (F_1 h1) (by decide +kernel) h.2.2)⟩
theorem op_like_F {p1 p2 p3 v u : Int32} {M M1 M2 : pMem} (h : rF M) (h1 : D_2 p1 p2 p3 M v M1) (h2 : D_48 p1 p2 p3 M1 u M2) : rF M2 :=
  ⟨(op_like h.1 h1 h2).2, op_like_T h.1 h.2.1 h1 h2, rI_fr (F_48 h2) (by decide +kernel) (rI_fr (F_2 h1) (by decide +kernel) h.2.2)⟩
theorem op_knew_F {p1 p2 p3 v u : Int32} {M M1 M2 : pMem} (h : rF M) (h1 : D_3 p1 p2 p3 M v M1) (h2 : D_49 p1 p2 p3 M1 u M2) : rF M2 :=
  ⟨(op_knew h.1 h1 h2).2, op_knew_T h.1 h.2.1 h1 h2, rI_fr (F_49 h2) (by decide +kernel) (rI_fr (F_3 h1) (by decide +kernel) h.2.2)⟩
theorem op_state_F {p1 v u : Int32} {M M1 M2 : pMem} (h : rF M) (h1 : D_4 p1 M v M1) (h2 : D_50 p1 M1 u M2) : rF M2 :=
  ⟨(op_state h.1 h1 h2).2, op_state_T h.2.1 h1 h2, rI_fr (F_50 h2) (by decide +kernel) (rI_fr (F_4 h1) (by decide +kernel) h.2.2)⟩
theorem op_number_F {p1 p2 v u : Int32} {M M1 M2 : pMem} (h : rF M) (h1 : D_25 p1 p2 M v M1) (h2 : D_52 p1 p2 M1 u M2) : rF M2 :=
  ⟨(op_number h.1 h1 h2).2, op_number_T h.1 h.2.1 h1 h2, rI_fr (F_52 h2) (by decide +kernel) (rI_fr (F_25 h1) (by decide +kernel) h.2.2)⟩
theorem op_told_F {p1 p2 v u : Int32} {M M1 M2 : pMem} (h : rF M) (h1 : D_22 p1 p2 M v M1) (h2 : D_117 p1 p2 M1 u M2) : rF M2 :=
  ⟨op_told h.1 h1 h2, (op_told_T h.2.1 h1 h2).1, rI_fr (F_117 h2) (by decide +kernel) (rI_fr (F_22 h1) (by decide +kernel) h.2.2)⟩
theorem op_force_F {p1 v u : Int32} {M M1 M2 : pMem} (h : rF M) (h1 : D_9 p1 M v M1) (h2 : D_103 p1 M1 u M2) : v = u ∧ rF M2 :=
  ⟨(op_force_T h.2.1 h1 h2).2, op_frame h.1 (F_9 h1) (F_103 h2) (by decide +kernel) (by decide +kernel), (op_force_T h.2.1 h1 h2).1, rI_fr (F_103 h2) (by decide +kernel) (rI_fr (F_9 h1) (by decide +kernel) h.2.2)⟩
theorem op_row_F {p1 v u : Int32} {M M1 M2 : pMem} (h : rF M) (h1 : D_20 p1 M v M1) (h2 : D_113 p1 M1 u M2) : v = u ∧ rF M2 :=
  ⟨(op_row_T h.2.1 h1 h2).2, op_frame h.1 (F_20 h1) (F_113 h2) (by decide +kernel) (by decide +kernel), (op_row_T h.2.1 h1 h2).1, rI_fr (F_113 h2) (by decide +kernel) (rI_fr (F_20 h1) (by decide +kernel) h.2.2)⟩
