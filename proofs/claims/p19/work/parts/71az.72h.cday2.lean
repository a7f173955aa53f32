/-! likes, on the class's side -/
/-- couples with one ahead of i, or i and one ahead of j -/
def updP (i j a b : Nat) : Prop := a < i ∨ b < i ∨ (a = i ∧ b < j) ∨ (b = i ∧ a < j)
def updB (i j a b : Nat) : Bool := decide (a < i) || (decide (b < i) || ((decide (a = i) && decide (b < j)) || (decide (b = i) && decide (a < j))))
theorem updB_iff {i j a b : Nat} : updB i j a b = true ↔ updP i j a b := by
  unfold updB updP
  simp only [Bool.or_eq_true, Bool.and_eq_true, decide_eq_true_iff]
/-- the likes half way -/
def paV (V U : pMem) (i j : Nat) : pMem := aRow V 194 fun k => if k < 576 ∧ updB i j (k / 24) (k % 24) = true then U 194 k else V 194 k
theorem k24 {a b : Nat} (hb : b < 24) : (24 * a + b) / 24 = a ∧ (24 * a + b) % 24 = b := by omega
theorem paV_v {V U : pMem} {i j a b : Nat} (ha : a < 24) (hb : b < 24) : paV V U i j 194 (24 * a + b) = if updB i j a b = true then U 194 (24 * a + b) else V 194 (24 * a + b) := by
  obtain ⟨e1, e2⟩ := k24 (a := a) hb
  unfold paV
  rw [aRow_same', e1, e2]
  by_cases h : updB i j a b = true
  · rw [if_pos h, if_pos ⟨by omega, h⟩]
  · rw [if_neg h, if_neg (fun q => h q.2)]
theorem paV_c {V U : pMem} {i j b : Nat} (h : b ≠ 194) : paV V U i j b = V b := aRow_cell h
theorem likV_c {o : List Cd} {L : List Ln} {V : pMem} {b : Nat} (h : b ≠ 194) : likV o L V b = V b := aRow_cell h
theorem likV_v {o : List Cd} {L : List Ln} {V : pMem} {a b : Nat} (ha : a < 24) (hb : b < 24) : likV o L V 194 (24 * a + b) = if cpl V a b = true then adL (V 194 (24 * a + b)) (tl (FcV V a b) o (kI 14) L) else V 194 (24 * a + b) := by
  obtain ⟨e1, e2⟩ := k24 (a := a) hb
  unfold likV
  rw [aRow_same', e1, e2]
  by_cases h : cpl V a b = true
  · rw [if_pos h, if_pos ⟨by omega, h⟩]
  · rw [if_neg h, if_neg (fun q => h q.2)]
/-- rows that change the likes alone -/
theorem aV_194 {V U : pMem} (h : ∀ b, b ≠ 194 → U b = V b) (hl : ∀ a b, a < 24 → b < 24 → U 194 (24 * a + b) = V 194 (24 * a + b)) : agV V U := by
  refine ⟨?_, fun i _ => ?_, fun k hk => ?_, fun l _ => ?_⟩
  · rw [h 188 (by decide)]
    exact ⟨rfl, rfl, rfl, rfl, rfl, rfl, rfl, rfl⟩
  · rw [h 189 (by decide), h 190 (by decide), h 191 (by decide)]
    exact ⟨rfl, rfl, rfl⟩
  · rw [h 195 (by decide)]
    have := hl (k / 24) (k % 24) (by omega) (by omega)
    rw [show 24 * (k / 24) + k % 24 = k by omega] at this
    exact ⟨this, rfl⟩
  · rw [h 196 (by decide), h 197 (by decide), h 198 (by decide), h 199 (by decide), h 200 (by decide)]
    exact ⟨rfl, rfl, rfl, rfl, rfl⟩
theorem pa_next {V U : pMem} (hU : ∀ b, b ≠ 194 → U b = V b) {i j i' j' : Nat} (h : ∀ a b, a < 24 → b < 24 → U 194 (24 * a + b) = V 194 (24 * a + b) ∨ (updP i j a b ↔ updP i' j' a b)) : agV (paV V U i j) (paV V U i' j') := by
  refine aV_194 (fun b hb => by rw [paV_c hb, paV_c hb]) fun a b ha hb => ?_
  rw [paV_v ha hb, paV_v ha hb]
  rcases h a b ha hb with e | e
  · rw [e, ite_self, ite_self]
  · by_cases q : updP i j a b
    · rw [if_pos (updB_iff.mpr q), if_pos (updB_iff.mpr (e.mp q))]
    · rw [if_neg (fun r => q (updB_iff.mp r)), if_neg (fun r => q (e.mpr (updB_iff.mp r)))]
theorem rV_194 {V U : pMem} (h : rV V) (e : ∀ b, b ≠ 194 → U b = V b) : rV U := by
  obtain ⟨⟨n, n1, n2, n3⟩, h2, h3, h4⟩ := h
  exact ⟨⟨n, n1, by rw [e 188 (by decide)]; exact n2, by rw [e 191 (by decide)]; exact n3⟩, by rw [e 189 (by decide), e 191 (by decide)]; exact h2, by rw [e 195 (by decide)]; exact h3, by rw [e 196 (by decide)]; exact h4⟩
/-- one is asked of a couple -/
theorem D_142_v {w l : Nat} (hw : pK 10 w = true) (hl : pK 2 l = true) {M V : pMem} (hV : rV V) (h : rW w M V) {o : List Cd} {L : List Ln} (hc : cLk M l o L) {p3 p4 : Int32} {i j : Nat} (hi : p3.toInt = i) (hj : p4.toInt = j) (hi24 : i < 24) (hj24 : j < 24) {v N} (hD : D_142 w l p3 p4 M v N) : v = adL (lkV V i j) (tl (FcV V i j) o (kI 14) L) ∧ rW w N V ∧ frC w l M N ∧ N w 11 = M w 11 := by
  obtain ⟨_, M1, h166, v2, M2, h157, _, hv, hN⟩ := hD
  obtain ⟨a1, a2⟩ := D_166c_w hw hV h hi hj hi24 hj24 h166
  have r1 := rW_132 hw h a2
  have c1 := frC_law hw hl (frC_132 a2) hc
  obtain ⟨b1, b2⟩ := D_157_v hl (by decide) c1 a1 h157
  have r2 := rW_6 hw hl r1 b2
  have w0 : w ≠ 132 := by have := wCell hw 0 (by decide); omega
  have w6 : w ≠ l + 6 := fun e => lwCell hl hw 6 (by decide) 0 (by decide) e.symm
  rw [hv, hN]
  refine ⟨?_, r2, frC_t (frC_132 a2) (frC_6 b2), by rw [b2 w w6, a2 w w0]⟩
  rw [(ix24 hi hj hi24 hj24).1, b1, (r2.2.2.2.1 i j hi24 hj24).2]
  rfl
def q141 (w l : Nat) (M0 V U : pMem) (N : pMem) : Prop := rW w N U ∧ frC w l M0 N ∧ N w 11 = M0 w 11
theorem D_141_v {w l : Nat} (hw : pK 10 w = true) (hl : pK 2 l = true) {M V : pMem} (hV : rV V) (h : rW w M V) {o : List Cd} {L : List Ln} (hc : cLk M l o L) {v N} (hD : D_141 w l M v N) : q141 w l M V (likV o L V) N := by
  have hU : ∀ b, b ≠ 194 → likV o L V b = V b := fun b hb => likV_c hb
  have hp : ∀ i j, rV (paV V (likV o L V) i j) := fun i j => rV_194 hV fun b hb => paV_c hb
  have q := hD (fun x3 M' v N => ∀ i : Nat, x3.toInt = i → i ≤ 24 → rW w M' (paV V (likV o L V) i 0) → frC w l M M' → M' w 11 = M w 11 → q141 w l M V (likV o L V) N,
    fun x3 x4 M' v N => ∀ i j : Nat, x3.toInt = i → x4.toInt = j → i < 24 → i < j → j ≤ 24 → rW w M' (paV V (likV o L V) i j) → frC w l M M' → M' w 11 = M w 11 → q141 w l M V (likV o L V) N) ⟨?_, ?_⟩
  · refine q 0 rfl (Nat.zero_le _) (rW_cg h (aV_194 (fun b hb => paV_c hb) fun a b ha hb => ?_)) frC_r rfl
    rw [paV_v ha hb, if_neg]
    rw [updB_iff]
    unfold updP
    omega
  · intro x3 M' v N hs i hi hi24 hr hf h11
    rcases hs with ⟨g, _, hN⟩ | ⟨g, hs⟩
    · rw [i_le, hi, kI_toInt (by decide) (by decide)] at g
      rw [hN]
      refine ⟨rW_cg hr (aV_194 (fun b hb => by rw [paV_c hb, likV_c hb]) fun a b ha hb => ?_), hf, h11⟩
      rw [paV_v ha hb, if_pos]
      rw [updB_iff]
      unfold updP
      omega
    · rw [i_le, hi, kI_toInt (by decide) (by decide)] at g
      refine hs i (i + 1) hi (n_add1 hi (by omega)) (by omega) (by omega) (by omega) (rW_cg hr (pa_next hU fun a b ha hb => ?_)) hf h11
      by_cases e : a = i ∧ b = i
      · left
        rw [likV_v ha hb, if_neg]
        unfold cpl
        rw [decide_eq_true (show a = b by omega), Bool.not_true, Bool.false_and]
        decide
      · right
        unfold updP
        omega
  · intro x3 x4 M' v N hs i j hi hj hi24 hij hj24 hr hf h11
    have same : ∀ {a b : Nat}, a < 24 → b < 24 → cpl V a b = false → likV o L V 194 (24 * a + b) = V 194 (24 * a + b) := fun {a b} ha hb e => by
      rw [likV_v ha hb, e]
      rfl
    have cth : ∀ {a b k : Nat}, thV V k = false → (a = k ∨ b = k) → cpl V a b = false := fun {a b k} e q => by
      unfold cpl
      rcases q with rfl | rfl
      · rw [e, Bool.false_and, Bool.and_false]
      · rw [e, Bool.and_false, Bool.and_false]
    have th : ∀ k, thV (paV V (likV o L V) i j) k = thV V k := fun k => by
      unfold thV
      rw [paV_c (by decide)]
    rcases hs with ⟨g, hs⟩ | ⟨g, hs⟩
    · have g := (f37_th (hp i j) hr hi hi24).1.mp g
      rw [th] at g
      refine hs (i + 1) (n_add1 hi (by omega)) (by omega) (rW_cg hr (pa_next hU fun a b ha hb => ?_)) hf h11
      by_cases e : a = i ∨ b = i
      · exact Or.inl (same ha hb (cth g e))
      · right
        unfold updP
        omega
    · have g := (f37_th (hp i j) hr hi hi24).2.mp g
      rw [th] at g
      rcases hs with ⟨g2, hs⟩ | ⟨g2, hs⟩
      · rw [i_le, hj, kI_toInt (by decide) (by decide)] at g2
        refine hs (i + 1) (n_add1 hi (by omega)) (by omega) (rW_cg hr (pa_next hU fun a b ha hb => Or.inr ?_)) hf h11
        unfold updP
        omega
      · rw [i_le, hj, kI_toInt (by decide) (by decide)] at g2
        rcases hs with ⟨g3, hs⟩ | ⟨g3, v1, M1, h1, v2, M2, h2, _, M3, e3, _, M4, e4, hs⟩
        · have g3 := (f37_th (hp i j) hr hj (by omega)).1.mp g3
          rw [th] at g3
          refine hs i (j + 1) hi (n_add1 hj (by omega)) hi24 (by omega) (by omega) (rW_cg hr (pa_next hU fun a b ha hb => ?_)) hf h11
          by_cases e : a = j ∨ b = j
          · exact Or.inl (same ha hb (cth g3 e))
          · right
            unfold updP
            omega
        · have g3 := (f37_th (hp i j) hr hj (by omega)).2.mp g3
          rw [th] at g3
          have cy : cpl V i j = true ∧ cpl V j i = true := by
            unfold cpl
            rw [g, g3, decide_eq_false (by omega), decide_eq_false (by omega)]
            exact ⟨rfl, rfl⟩
          have lk : lkV (paV V (likV o L V) i j) i j = V 194 (24 * i + j) ∧ lkV (paV V (likV o L V) i j) j i = V 194 (24 * j + i) := by
            unfold lkV
            rw [paV_v hi24 (by omega), paV_v (by omega) hi24, if_neg, if_neg]
            · exact ⟨rfl, rfl⟩
            · rw [updB_iff]; unfold updP; omega
            · rw [updB_iff]; unfold updP; omega
          have fd : ∀ lot k, FdV (paV V (likV o L V) i j) lot k = FdV V lot k := fun lot k => by
            unfold FdV
            rw [paV_c (by decide)]
          have fc1 : FcV (paV V (likV o L V) i j) i j = FcV V i j := by
            funext k
            unfold FcV
            rw [lk.1, lk.2, paV_c (show 190 ≠ 194 by decide), paV_c (show 195 ≠ 194 by decide), paV_c (show 189 ≠ 194 by decide), fd]
            rfl
          have fc2 : FcV (paV V (likV o L V) i j) j i = FcV V j i := by
            funext k
            unfold FcV
            rw [lk.1, lk.2, paV_c (show 190 ≠ 194 by decide), paV_c (show 195 ≠ 194 by decide), paV_c (show 189 ≠ 194 by decide), fd]
            rfl
          have hc0 := frC_law hw hl hf hc
          obtain ⟨a1, a2, a3, a4⟩ := D_142_v hw hl (hp i j) hr hc0 hi hj hi24 (by omega) h1
          have hc1 := frC_law hw hl a3 hc0
          obtain ⟨b1, b2, b3, b4⟩ := D_142_v hw hl (hp i j) a2 hc1 hj hi (by omega) hi24 h2
          rw [fc1, lk.1] at a1
          rw [fc2, lk.2] at b1
          rw [(ix24 hi hj hi24 (by omega)).1] at e3
          rw [(ix24 hj hi (by omega) hi24).1] at e4
          have n4 : ∀ b, b ≠ w + 3 → M4 b = M2 b := fun b hb => by
            funext k
            rw [e4, aPut_cell hb, e3, aPut_cell hb]
          have r4 : ∀ k, M4 (w + 3) k = if k = 24 * j + i then v2 else if k = 24 * i + j then v1 else M2 (w + 3) k := fun k => by
            rw [e4, aPut_row, e3, aPut_row]
          have u1 : likV o L V 194 (24 * i + j) = v1 := by rw [likV_v hi24 (by omega), if_pos cy.1, a1]
          have u2 : likV o L V 194 (24 * j + i) = v2 := by rw [likV_v (by omega) hi24, if_pos cy.2, b1]
          have rn : rW w M4 (paV V (likV o L V) i (j + 1)) := by
            obtain ⟨z1, z2, z3, z4, z5, z6⟩ := b2
            have c : ∀ b, b ≠ 194 → paV V (likV o L V) i (j + 1) b = paV V (likV o L V) i j b := fun b hb => by rw [paV_c hb, paV_c hb]
            refine ⟨?_, ?_, fun a ha => ?_, fun a b ha hb => ?_, ?_, fun m hm => ?_⟩
            · rw [n4 w (by omega), c 188 (by decide)]
              exact z1
            · rw [n4 w (by omega)]
              exact z2
            · rw [n4 w (by omega), n4 (w + 1) (by omega), c 189 (by decide), c 190 (by decide), c 191 (by decide)]
              exact z3 a ha
            · rw [n4 (w + 2) (by omega), c 195 (by decide)]
              refine ⟨(z4 a b ha hb).1, ?_⟩
              rw [r4, paV_v ha hb]
              by_cases q1 : a = j ∧ b = i
              · rw [if_pos (by omega), if_pos (by rw [updB_iff]; unfold updP; omega), q1.1, q1.2, u2]
              · rw [if_neg (by omega)]
                by_cases q2 : a = i ∧ b = j
                · rw [if_pos (by omega), if_pos (by rw [updB_iff]; unfold updP; omega), q2.1, q2.2, u1]
                · rw [if_neg (by omega), (z4 a b ha hb).2, paV_v ha hb]
                  by_cases q : updP i j a b
                  · rw [if_pos (updB_iff.mpr q), if_pos (by rw [updB_iff]; unfold updP at q ⊢; omega)]
                  · rw [if_neg (fun r => q (updB_iff.mp r)), if_neg (by rw [updB_iff]; unfold updP at q ⊢; omega)]
            · rw [n4 w (by omega), c 188 (by decide)]
              exact z5
            · rw [n4 (w + 4) (by omega), c 196 (by decide), c 197 (by decide), c 198 (by decide), c 199 (by decide), c 200 (by decide)]
              exact z6 m hm
          have f4 : frC w l M M4 := frC_t hf (frC_t a3 (frC_t b3 fun b h1 _ _ => n4 b (h1 3 (by decide))))
          exact hs i (j + 1) hi (n_add1 hj (by omega)) hi24 (by omega) (by omega) rn f4 (by rw [n4 w (by omega), b4, a4]; exact h11)
