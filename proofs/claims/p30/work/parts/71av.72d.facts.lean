/-! woods on both sides -/
/-- the reference's boys, as they may be -/
def rV (V : pMem) : Prop := (∃ n, rNb V n) ∧ (∀ i, i < 24 → bo (V 189 i) ∧ bo (V 191 i)) ∧ (∀ k, k < 576 → bo (V 195 k)) ∧ ∀ l, l < 2 → 0 ≤ (V 196 l).toInt
/-- the class's wood w holds what V says -/
def rW (w : Nat) (M V : pMem) : Prop := M w 0 = V 188 2 ∧ (nb (M w 1) ∧ nb (M w 2)) ∧
  (∀ i, i < 24 → bt (M w 1) i = decide (V 189 i = kI 1) ∧ bt (M w 2) i = decide (V 191 i = kI 1) ∧ M (w + 1) i = V 190 i) ∧
  (∀ i j, i < 24 → j < 24 → bt (M (w + 2) i) j = decide (V 195 (24 * i + j) = kI 1) ∧ M (w + 3) (24 * i + j) = V 194 (24 * i + j)) ∧
  (M w 4 = V 188 3 ∧ M w 5 = V 188 1 ∧ M w 6 = V 188 17 ∧ M w 7 = V 188 18 ∧ M w 8 = V 188 19 ∧ M w 9 = V 188 20 ∧ M w 10 = V 188 21) ∧
  ∀ l, l < 2 → M (w + 4) (6 + l) = V 196 l ∧ M (w + 4) (8 + l) = V 197 l ∧ M (w + 4) (10 + l) = V 198 l ∧ M (w + 4) (12 + l) = V 199 l ∧ M (w + 4) (16 + l) = V 200 l
theorem rW_eq {w : Nat} {M N V : pMem} (h : rW w M V) (e : ∀ j, j < 5 → N (w + j) = M (w + j)) : rW w N V := by
  unfold rW
  have e0 : N w = M w := e 0 (by decide)
  rw [e0, e 1 (by decide), e 2 (by decide), e 3 (by decide), e 4 (by decide)]
  exact h
/-- where both say the same of a wood -/
def agV (V U : pMem) : Prop := (U 188 1 = V 188 1 ∧ U 188 2 = V 188 2 ∧ U 188 3 = V 188 3 ∧ U 188 17 = V 188 17 ∧ U 188 18 = V 188 18 ∧ U 188 19 = V 188 19 ∧ U 188 20 = V 188 20 ∧ U 188 21 = V 188 21) ∧
  (∀ i, i < 24 → U 189 i = V 189 i ∧ U 190 i = V 190 i ∧ U 191 i = V 191 i) ∧ (∀ k, k < 576 → U 194 k = V 194 k ∧ U 195 k = V 195 k) ∧
  ∀ l, l < 2 → U 196 l = V 196 l ∧ U 197 l = V 197 l ∧ U 198 l = V 198 l ∧ U 199 l = V 199 l ∧ U 200 l = V 200 l
theorem rV_cg {V U : pMem} (h : rV V) (a : agV V U) : rV U := by
  obtain ⟨⟨n, n1, n2, n3⟩, h2, h3, h4⟩ := h
  obtain ⟨⟨_, b2, _⟩, c, d, e⟩ := a
  refine ⟨⟨n, n1, by rw [b2]; exact n2, fun i h1 h2 => by rw [(c i h2).2.2]; exact n3 i h1 h2⟩, fun i hi => by rw [(c i hi).1, (c i hi).2.2]; exact h2 i hi, fun k hk => by rw [(d k hk).2]; exact h3 k hk, fun l hl => by rw [(e l hl).1]; exact h4 l hl⟩
theorem rW_cg {w : Nat} {M V U : pMem} (h : rW w M V) (a : agV V U) : rW w M U := by
  obtain ⟨h1, h2, h3, h4, h5, h6⟩ := h
  obtain ⟨⟨b1, b2, b3, b4, b5, b6, b7, b8⟩, c, d, e⟩ := a
  refine ⟨by rw [b2]; exact h1, h2, fun i hi => by rw [(c i hi).1, (c i hi).2.1, (c i hi).2.2]; exact h3 i hi, fun i j hi hj => by rw [(d _ (by omega)).1, (d _ (by omega)).2]; exact h4 i j hi hj, by rw [b1, b3, b4, b5, b6, b7, b8]; exact h5, fun l hl => by rw [(e l hl).1, (e l hl).2.1, (e l hl).2.2.1, (e l hl).2.2.2.1, (e l hl).2.2.2.2]; exact h6 l hl⟩
theorem wCell {w : Nat} (h : pK 10 w = true) : ∀ j, j < 5 → w + j < 132 ∨ (137 < w + j ∧ w + j < 188) := by
  obtain ⟨h1, h2⟩ := pKi h
  have c : ∀ a, a < 230 → (pC a).1 = 10 → ∀ j, j < 5 → a + j < 132 ∨ (137 < a + j ∧ a + j < 188) := by decide +kernel
  exact c w h1 h2
theorem thV_y {V : pMem} (h : rV V) {i : Nat} (hi : i < 24) : thV V i = decide (V 191 i = kI 1) := by
  unfold thV
  rcases (h.2.1 i hi).2 with e | e <;> rw [e] <;> decide
/-- the members of a lot -/
theorem mem_w {w : Nat} {M V : pMem} (hV : rV V) (h : rW w M V) {p : Int32} (hp : bo p) : (∀ i, i < 24 → bt (f_226 w p M) i = inL V p i) ∧ nb (f_226 w p M) := by
  obtain ⟨_, ⟨n1, n2⟩, h3, _⟩ := h
  have e : f_226 w p M = if ¬ p = 0 then ((M w 2) &&& (M w 1)) else ((M w 2) &&& ((M w 1) ^^^ (kI (-1)))) := rfl
  rcases hp with rfl | rfl
  · have e0 : f_226 w (kI 0) M = (M w 2) &&& ((M w 1) ^^^ (kI (-1))) := rfl
    refine ⟨fun i hi => ?_, fun i hi => by rw [e0, bt_and, n2 i hi, Bool.false_and]⟩
    rw [e0, bt_and, bt_not (by omega), (h3 i hi).1, (h3 i hi).2.1]
    unfold inL
    rw [thV_y hV hi]
    congr 1
    rcases (hV.2.1 i hi).1 with q | q <;> rw [q] <;> decide
  · have e0 : f_226 w (kI 1) M = (M w 2) &&& (M w 1) := rfl
    refine ⟨fun i hi => ?_, fun i hi => by rw [e0, bt_and, n2 i hi, Bool.false_and]⟩
    rw [e0, bt_and, (h3 i hi).1, (h3 i hi).2.1]
    unfold inL
    rw [thV_y hV hi]
theorem f225_V {w : Nat} {M V : pMem} (hV : rV V) (h : rW w M V) {p : Int32} {i : Nat} (hp : p.toInt = i) (hi : i < 24) : f_225 w p M = V 189 i := by
  have e : f_225 w p M = (pUsr (M w 1) p) &&& kI 1 := rfl
  rw [e, usr1 hp (by omega), (h.2.2.1 i hi).1]
  rcases (hV.2.1 i hi).1 with q | q <;> rw [q] <;> decide
theorem f37_th {w : Nat} {M V : pMem} (hV : rV V) (h : rW w M V) {p : Int32} {i : Nat} (hp : p.toInt = i) (hi : i < 24) : (f_37 (M w 2) p = 0 ↔ thV V i = false) ∧ (¬ f_37 (M w 2) p = 0 ↔ thV V i = true) := by
  rw [f37_n hp (by omega), (h.2.2.1 i hi).2.1, ← thV_y hV hi]
  exact ⟨Iff.rfl, by cases thV V i <;> simp⟩
theorem lkW_V {w : Nat} {M V : pMem} (h : rW w M V) {i j : Nat} (hi : i < 24) (hj : j < 24) : lkW M w i j = lkV V i j := (h.2.2.2.1 i j hi hj).2
/-- a put either way -/
theorem tB {α : Type} {c : Prop} [Decidable c] {g g' : Prop} {M : pMem} {a j : Nat} {K : pMem → pT α} {v : α} {N : pMem} (h : tIf (¬ c) (tGd g (tPut (aPut M a j (kI 0)) K)) (tGd g' (tPut (aPut M a j (kI 1)) K)) v N) : tPut (aPut M a j (if c then kI 1 else kI 0)) K v N := by
  rcases h with ⟨q, _, h⟩ | ⟨q, _, h⟩
  · rw [if_neg q]; exact h
  · rw [if_pos (Classical.not_not.mp q)]; exact h
theorem tB0 {α : Type} {c : Prop} [Decidable c] {g g' : Prop} {M : pMem} {a j : Nat} {K : pMem → pT α} {v : α} {N : pMem} (h : tIf c (tGd g (tPut (aPut M a j (kI 0)) K)) (tGd g' (tPut (aPut M a j (kI 1)) K)) v N) : tPut (aPut M a j (if c then kI 0 else kI 1)) K v N := by
  rcases h with ⟨q, _, h⟩ | ⟨q, _, h⟩
  · rw [if_pos q]; exact h
  · rw [if_neg q]; exact h
/-! what a law may ask, out of what V says -/
def FdV (V : pMem) (lot : Int32) (k : Nat) : Int32 := if k = 7 then (if V 188 21 = lot then kI 1 else kI 0) else if k = 6 then (if V 188 20 = kI 1 - lot then kI 1 else kI 0) else if k = 5 then (if V 188 20 = lot then kI 1 else kI 0) else if k = 2 then V 188 19 else if k = 1 then V 188 18 else if k = 0 then V 188 17 else kI 0
def FcV (V : pMem) (i j k : Nat) : Int32 := if k = 10 then V 190 j else if k = 9 then lkV V j i else if k = 8 then lkV V i j else if k = 4 then V 195 (24 * i + j) else if k = 3 then (if V 189 i = V 189 j then kI 1 else kI 0) else FdV V (V 189 i) k
def FlV (V : pMem) (lot : Int32) (k : Nat) : Int32 := if k = 13 then kI (cN (inL V lot) 24 : Nat) else if k = 12 then mnS (inL V lot) (inL V (kI 1 - lot)) (lkV V) else if k = 11 then mnS (inL V lot) (inL V lot) (lkV V) else FdV V lot k
def FbV (V : pMem) (b k : Nat) : Int32 := if k = 13 then kI (cN (inL V (V 189 b)) 24 : Nat) else if k = 10 then V 190 b else if k = 8 then mnS (sgl b) (inL V (V 189 b)) (lkV V) else if k = 12 then mnS (inL V (kI 1 - V 189 b)) (sgl b) (lkV V) else if k = 11 then mnS (inL V (V 189 b)) (sgl b) (lkV V) else FdV V (V 189 b) k
/-- the lot of the others -/
theorem bo_o {p : Int32} (h : bo p) : bo (kI 1 - p) := by
  rcases h with rfl | rfl
  · exact Or.inr (by decide)
  · exact Or.inl (by decide)
/-- a mean that the class takes of two sets -/
theorem mn_w {w : Nat} {M V : pMem} (h : rW w M V) {x y : Int32} {A B : Nat → Bool} (hx : ∀ i, i < 24 → bt x i = A i) (hy : ∀ i, i < 24 → bt y i = B i) : mnS (bt x) (bt y) (lkW M w) = mnS A B (lkV V) := mnS_cg hx hy fun _ _ hi hj => lkW_V h hi hj
theorem sgl_w {p : Int32} {b : Nat} (hp : p.toInt = b) (hb : b < 24) : (∀ i, i < 24 → bt (kI 1 <<< (p &&& 31)) i = sgl b i) ∧ nb (kI 1 <<< (p &&& 31)) := by
  refine ⟨fun i _ => bt_sh hp (by omega), fun i hi => ?_⟩
  rw [bt_sh hp (by omega), decide_eq_false (by omega)]


/-! the class's facts (row 132) -/
theorem filc_w {p1 : Int32} {M v N} (h : D_240_132 p1 M v N) : (∀ k, k < 14 → N 132 k = p1) ∧ ∀ b, b ≠ 132 → N b = M b := by
  have q := h (fun x2 x3 M' v N => ∀ i : Nat, x2.toInt = i → i ≤ 14 → x3 = Int32.ofNat 14 → (∀ k, k < i → M' 132 k = p1) → (∀ b, b ≠ 132 → M' b = M b) → (∀ k, k < 14 → N 132 k = p1) ∧ ∀ b, b ≠ 132 → N b = M b) ?_
  · exact q 0 rfl (Nat.zero_le _) rfl (fun k hk => absurd hk (Nat.not_lt_zero k)) (fun _ _ => rfl)
  · intro x2 x3 M' v N hs i hi hi14 h3 hk hb
    have k14 : (Int32.ofNat 14).toInt = 14 := rfl
    rcases hs with ⟨g, _, hN⟩ | ⟨g, _, M1, e1, hs⟩
    · rw [h3, i_le, hi, k14] at g
      rw [hN]
      exact ⟨fun k hk2 => hk k (by omega), hb⟩
    · rw [h3, i_le, hi, k14] at g
      rw [ix_of hi] at e1
      refine hs (i + 1) (n_add1 hi (by omega)) (by omega) h3 (fun k hk2 => ?_) (fun b hb2 => ?_)
      · rw [e1, aPut_row]
        by_cases e : k = i
        · rw [if_pos e]
        · rw [if_neg e]
          exact hk k (by omega)
      · rw [← hb b hb2, e1]
        funext j
        exact aPut_cell hb2
theorem D_165c_w {w : Nat} (hw : pK 10 w = true) {M V : pMem} (h : rW w M V) {p2 : Int32} {v N} (hD : D_165c w p2 M v N) : (∀ k, k < 14 → N 132 k = FdV V p2 k) ∧ ∀ b, b ≠ 132 → N b = M b := by
  obtain ⟨_, M1, hf, hD⟩ := hD
  obtain ⟨f1, f2⟩ := filc_w hf
  obtain ⟨_, M2, e2, _, M3, e3, _, M4, e4, hD⟩ := hD
  have hD := tB hD
  obtain ⟨M5, e5, hD⟩ := hD
  have hD := tB hD
  obtain ⟨M6, e6, hD⟩ := hD
  have hD := tB hD
  obtain ⟨M7, e7, _, hN⟩ := hD
  have c := wCell hw 0 (by decide)
  have w0 : w ≠ 132 := by omega
  have q1 : M1 w = M w := f2 w w0
  have c2 : ∀ b, b ≠ 132 → M2 b = M1 b := fun b hb => by rw [e2]; funext j; exact aPut_cell hb
  have c3 : ∀ b, b ≠ 132 → M3 b = M1 b := fun b hb => by rw [← c2 b hb, e3]; funext j; exact aPut_cell hb
  have c4 : ∀ b, b ≠ 132 → M4 b = M1 b := fun b hb => by rw [← c3 b hb, e4]; funext j; exact aPut_cell hb
  have c5 : ∀ b, b ≠ 132 → M5 b = M1 b := fun b hb => by rw [← c4 b hb, e5]; funext j; exact aPut_cell hb
  have c6 : ∀ b, b ≠ 132 → M6 b = M1 b := fun b hb => by rw [← c5 b hb, e6]; funext j; exact aPut_cell hb
  have c7 : ∀ b, b ≠ 132 → M7 b = M1 b := fun b hb => by rw [← c6 b hb, e7]; funext j; exact aPut_cell hb
  obtain ⟨_, _, _, _, ⟨_, _, t6, t7, t8, t9, t10⟩, _⟩ := h
  rw [q1, t6] at e2
  rw [c2 w w0, q1, t7] at e3
  rw [c3 w w0, q1, t8] at e4
  rw [c4 w w0, q1, t9] at e5
  rw [c5 w w0, q1, t9] at e6
  rw [c6 w w0, q1, t10] at e7
  rw [hN]
  refine ⟨fun k hk => ?_, fun b hb => by rw [c7 b hb, f2 b hb]⟩
  rw [e7, aPut_row, e6, aPut_row, e5, aPut_row, e4, aPut_row, e3, aPut_row, e2, aPut_row, f1 k hk]
  rfl
theorem D_166c_w {w : Nat} (hw : pK 10 w = true) {M V : pMem} (hV : rV V) (h : rW w M V) {p2 p3 : Int32} {i j : Nat} (hi : p2.toInt = i) (hj : p3.toInt = j) (hi24 : i < 24) (hj24 : j < 24) {v N} (hD : D_166c w p2 p3 M v N) : (∀ k, k < 14 → N 132 k = FcV V i j k) ∧ ∀ b, b ≠ 132 → N b = M b := by
  obtain ⟨_, M1, h165, hD⟩ := hD
  rw [f225_V hV h hi hi24] at h165
  obtain ⟨f1, f2⟩ := D_165c_w hw h h165
  have nw : ∀ j, j < 5 → w + j ≠ 132 := fun j hj => by have := wCell hw j hj; omega
  have r1 : rW w M1 V := rW_eq h fun j hj => f2 _ (nw j hj)
  have hD := tB hD
  obtain ⟨M2, e2, _, hD⟩ := hD
  have hD := tB0 hD
  obtain ⟨M3, e3, _, _, M4, e4, _, _, M5, e5, _, _, M6, e6, _, hN⟩ := hD
  have c2 : ∀ b, b ≠ 132 → M2 b = M1 b := fun b hb => by rw [e2]; funext j; exact aPut_cell hb
  have c3 : ∀ b, b ≠ 132 → M3 b = M1 b := fun b hb => by rw [← c2 b hb, e3]; funext j; exact aPut_cell hb
  have c4 : ∀ b, b ≠ 132 → M4 b = M1 b := fun b hb => by rw [← c3 b hb, e4]; funext j; exact aPut_cell hb
  have c5 : ∀ b, b ≠ 132 → M5 b = M1 b := fun b hb => by rw [← c4 b hb, e5]; funext j; exact aPut_cell hb
  have c6 : ∀ b, b ≠ 132 → M6 b = M1 b := fun b hb => by rw [← c5 b hb, e6]; funext j; exact aPut_cell hb
  rw [f225_V hV r1 hi hi24, f225_V hV r1 hj hj24] at e2
  have kn : (if f_37 (M1 (w + 2) i) p3 = 0 then kI 0 else kI 1) = V 195 (24 * i + j) := by
    have a := (r1.2.2.2.1 i j hi24 hj24).1
    have b := hV.2.2.1 (24 * i + j) (by omega)
    by_cases c : f_37 (M1 (w + 2) i) p3 = 0
    · rw [if_pos c]
      rw [f37_n hj (by omega), a, decide_eq_false_iff_not] at c
      exact (b.resolve_right c).symm
    · rw [if_neg c]
      rw [f37_y hj (by omega), a, decide_eq_true_iff] at c
      exact c.symm
  rw [c2 _ (nw 2 (by decide)), ix_of hi, kn] at e3
  have l1 : M1 (w + 3) (24 * i + j) = lkV V i j := (r1.2.2.2.1 i j hi24 hj24).2
  have l2 : M1 (w + 3) (24 * j + i) = lkV V j i := (r1.2.2.2.1 j i hj24 hi24).2
  have l3 : M1 (w + 1) j = V 190 j := (r1.2.2.1 j hj24).2.2
  rw [c3 _ (nw 3 (by decide)), (ix24 hi hj hi24 hj24).1, l1] at e4
  rw [c4 _ (nw 3 (by decide)), (ix24 hj hi hj24 hi24).1, l2] at e5
  rw [c5 _ (nw 1 (by decide)), ix_of hj, l3] at e6
  rw [hN]
  refine ⟨fun k hk => ?_, fun b hb => by rw [c6 b hb, f2 b hb]⟩
  rw [e6, aPut_row, e5, aPut_row, e4, aPut_row, e3, aPut_row, e2, aPut_row, f1 k hk]
  rfl


/-! the class's facts (row 135) -/
theorem fils_w {p1 : Int32} {M v N} (h : D_240_135 p1 M v N) : (∀ k, k < 14 → N 135 k = p1) ∧ ∀ b, b ≠ 135 → N b = M b := by
  have q := h (fun x2 x3 M' v N => ∀ i : Nat, x2.toInt = i → i ≤ 14 → x3 = Int32.ofNat 14 → (∀ k, k < i → M' 135 k = p1) → (∀ b, b ≠ 135 → M' b = M b) → (∀ k, k < 14 → N 135 k = p1) ∧ ∀ b, b ≠ 135 → N b = M b) ?_
  · exact q 0 rfl (Nat.zero_le _) rfl (fun k hk => absurd hk (Nat.not_lt_zero k)) (fun _ _ => rfl)
  · intro x2 x3 M' v N hs i hi hi14 h3 hk hb
    have k14 : (Int32.ofNat 14).toInt = 14 := rfl
    rcases hs with ⟨g, _, hN⟩ | ⟨g, _, M1, e1, hs⟩
    · rw [h3, i_le, hi, k14] at g
      rw [hN]
      exact ⟨fun k hk2 => hk k (by omega), hb⟩
    · rw [h3, i_le, hi, k14] at g
      rw [ix_of hi] at e1
      refine hs (i + 1) (n_add1 hi (by omega)) (by omega) h3 (fun k hk2 => ?_) (fun b hb2 => ?_)
      · rw [e1, aPut_row]
        by_cases e : k = i
        · rw [if_pos e]
        · rw [if_neg e]
          exact hk k (by omega)
      · rw [← hb b hb2, e1]
        funext j
        exact aPut_cell hb2
theorem D_165s_w {w : Nat} (hw : pK 10 w = true) {M V : pMem} (h : rW w M V) {p2 : Int32} {v N} (hD : D_165s w p2 M v N) : (∀ k, k < 14 → N 135 k = FdV V p2 k) ∧ ∀ b, b ≠ 135 → N b = M b := by
  obtain ⟨_, M1, hf, hD⟩ := hD
  obtain ⟨f1, f2⟩ := fils_w hf
  obtain ⟨_, M2, e2, _, M3, e3, _, M4, e4, hD⟩ := hD
  have hD := tB hD
  obtain ⟨M5, e5, hD⟩ := hD
  have hD := tB hD
  obtain ⟨M6, e6, hD⟩ := hD
  have hD := tB hD
  obtain ⟨M7, e7, _, hN⟩ := hD
  have c := wCell hw 0 (by decide)
  have w0 : w ≠ 135 := by omega
  have q1 : M1 w = M w := f2 w w0
  have c2 : ∀ b, b ≠ 135 → M2 b = M1 b := fun b hb => by rw [e2]; funext j; exact aPut_cell hb
  have c3 : ∀ b, b ≠ 135 → M3 b = M1 b := fun b hb => by rw [← c2 b hb, e3]; funext j; exact aPut_cell hb
  have c4 : ∀ b, b ≠ 135 → M4 b = M1 b := fun b hb => by rw [← c3 b hb, e4]; funext j; exact aPut_cell hb
  have c5 : ∀ b, b ≠ 135 → M5 b = M1 b := fun b hb => by rw [← c4 b hb, e5]; funext j; exact aPut_cell hb
  have c6 : ∀ b, b ≠ 135 → M6 b = M1 b := fun b hb => by rw [← c5 b hb, e6]; funext j; exact aPut_cell hb
  have c7 : ∀ b, b ≠ 135 → M7 b = M1 b := fun b hb => by rw [← c6 b hb, e7]; funext j; exact aPut_cell hb
  obtain ⟨_, _, _, _, ⟨_, _, t6, t7, t8, t9, t10⟩, _⟩ := h
  rw [q1, t6] at e2
  rw [c2 w w0, q1, t7] at e3
  rw [c3 w w0, q1, t8] at e4
  rw [c4 w w0, q1, t9] at e5
  rw [c5 w w0, q1, t9] at e6
  rw [c6 w w0, q1, t10] at e7
  rw [hN]
  refine ⟨fun k hk => ?_, fun b hb => by rw [c7 b hb, f2 b hb]⟩
  rw [e7, aPut_row, e6, aPut_row, e5, aPut_row, e4, aPut_row, e3, aPut_row, e2, aPut_row, f1 k hk]
  rfl
theorem D_166s_w {w : Nat} (hw : pK 10 w = true) {M V : pMem} (hV : rV V) (h : rW w M V) {p2 p3 : Int32} {i j : Nat} (hi : p2.toInt = i) (hj : p3.toInt = j) (hi24 : i < 24) (hj24 : j < 24) {v N} (hD : D_166s w p2 p3 M v N) : (∀ k, k < 14 → N 135 k = FcV V i j k) ∧ ∀ b, b ≠ 135 → N b = M b := by
  obtain ⟨_, M1, h165, hD⟩ := hD
  rw [f225_V hV h hi hi24] at h165
  obtain ⟨f1, f2⟩ := D_165s_w hw h h165
  have nw : ∀ j, j < 5 → w + j ≠ 135 := fun j hj => by have := wCell hw j hj; omega
  have r1 : rW w M1 V := rW_eq h fun j hj => f2 _ (nw j hj)
  have hD := tB hD
  obtain ⟨M2, e2, _, hD⟩ := hD
  have hD := tB0 hD
  obtain ⟨M3, e3, _, _, M4, e4, _, _, M5, e5, _, _, M6, e6, _, hN⟩ := hD
  have c2 : ∀ b, b ≠ 135 → M2 b = M1 b := fun b hb => by rw [e2]; funext j; exact aPut_cell hb
  have c3 : ∀ b, b ≠ 135 → M3 b = M1 b := fun b hb => by rw [← c2 b hb, e3]; funext j; exact aPut_cell hb
  have c4 : ∀ b, b ≠ 135 → M4 b = M1 b := fun b hb => by rw [← c3 b hb, e4]; funext j; exact aPut_cell hb
  have c5 : ∀ b, b ≠ 135 → M5 b = M1 b := fun b hb => by rw [← c4 b hb, e5]; funext j; exact aPut_cell hb
  have c6 : ∀ b, b ≠ 135 → M6 b = M1 b := fun b hb => by rw [← c5 b hb, e6]; funext j; exact aPut_cell hb
  rw [f225_V hV r1 hi hi24, f225_V hV r1 hj hj24] at e2
  have kn : (if f_37 (M1 (w + 2) i) p3 = 0 then kI 0 else kI 1) = V 195 (24 * i + j) := by
    have a := (r1.2.2.2.1 i j hi24 hj24).1
    have b := hV.2.2.1 (24 * i + j) (by omega)
    by_cases c : f_37 (M1 (w + 2) i) p3 = 0
    · rw [if_pos c]
      rw [f37_n hj (by omega), a, decide_eq_false_iff_not] at c
      exact (b.resolve_right c).symm
    · rw [if_neg c]
      rw [f37_y hj (by omega), a, decide_eq_true_iff] at c
      exact c.symm
  rw [c2 _ (nw 2 (by decide)), ix_of hi, kn] at e3
  have l1 : M1 (w + 3) (24 * i + j) = lkV V i j := (r1.2.2.2.1 i j hi24 hj24).2
  have l2 : M1 (w + 3) (24 * j + i) = lkV V j i := (r1.2.2.2.1 j i hj24 hi24).2
  have l3 : M1 (w + 1) j = V 190 j := (r1.2.2.1 j hj24).2.2
  rw [c3 _ (nw 3 (by decide)), (ix24 hi hj hi24 hj24).1, l1] at e4
  rw [c4 _ (nw 3 (by decide)), (ix24 hj hi hj24 hi24).1, l2] at e5
  rw [c5 _ (nw 1 (by decide)), ix_of hj, l3] at e6
  rw [hN]
  refine ⟨fun k hk => ?_, fun b hb => by rw [c6 b hb, f2 b hb]⟩
  rw [e6, aPut_row, e5, aPut_row, e4, aPut_row, e3, aPut_row, e2, aPut_row, f1 k hk]
  rfl


theorem D_167c_w {w : Nat} (hw : pK 10 w = true) {M V : pMem} (hV : rV V) (h : rW w M V) {p2 : Int32} (hp : bo p2) {v N} (hD : D_167c w p2 M v N) : (∀ k, k < 14 → N 132 k = FlV V p2 k) ∧ ∀ b, b ≠ 132 → N b = M b := by
  obtain ⟨_, M1, h165, v2, M2, h231, _, M3, e3, v3, M4, h231b, _, M5, e5, _, M6, e6, _, hN⟩ := hD
  obtain ⟨f1, f2⟩ := D_165c_w hw h h165
  have nw : ∀ j, j < 5 → w + j ≠ 132 := fun j hj => by have := wCell hw j hj; omega
  have r1 : rW w M1 V := rW_eq h fun j hj => f2 _ (nw j hj)
  obtain ⟨m1, m2⟩ := mem_w hV h hp
  obtain ⟨a1, a2⟩ := D_231_w m2 m2 h231
  rw [mn_w r1 m1 m1] at a1
  rw [a2, a1] at e3
  have c3 : ∀ b, b ≠ 132 → M3 b = M1 b := fun b hb => by rw [e3]; funext j; exact aPut_cell hb
  have r3 : rW w M3 V := rW_eq r1 fun j hj => c3 _ (nw j hj)
  obtain ⟨o1, o2⟩ := mem_w hV r3 (bo_o hp)
  obtain ⟨b1, b2⟩ := D_231_w m2 o2 h231b
  rw [mn_w r3 m1 o1] at b1
  rw [b2, b1] at e5
  have c5 : ∀ b, b ≠ 132 → M5 b = M1 b := fun b hb => by rw [← c3 b hb, e5]; funext j; exact aPut_cell hb
  rw [f239_24 m2, cN_cg m1] at e6
  have c6 : ∀ b, b ≠ 132 → M6 b = M1 b := fun b hb => by rw [← c5 b hb, e6]; funext j; exact aPut_cell hb
  rw [hN]
  refine ⟨fun k hk => ?_, fun b hb => by rw [c6 b hb, f2 b hb]⟩
  rw [e6, aPut_row, e5, aPut_row, e3, aPut_row, f1 k hk]
  rfl
theorem D_168c_w {w : Nat} (hw : pK 10 w = true) {M V : pMem} (hV : rV V) (h : rW w M V) {p2 : Int32} {b : Nat} (hb : p2.toInt = b) (hb24 : b < 24) {v N} (hD : D_168c w p2 M v N) : (∀ k, k < 14 → N 132 k = FbV V b k) ∧ ∀ b, b ≠ 132 → N b = M b := by
  obtain ⟨_, M1, h165, v2, M2, h231, _, M3, e3, v3, M4, h231b, _, M5, e5, v4, M6, h231c, _, M7, e7, _, _, M8, e8, _, M9, e9, _, hN⟩ := hD
  have l0 := f225_V hV h hb hb24
  rw [l0] at h165 h231 h231b h231c e9
  have bl := (hV.2.1 b hb24).1
  obtain ⟨f1, f2⟩ := D_165c_w hw h h165
  have nw : ∀ j, j < 5 → w + j ≠ 132 := fun j hj => by have := wCell hw j hj; omega
  have r1 : rW w M1 V := rW_eq h fun j hj => f2 _ (nw j hj)
  obtain ⟨m1, m2⟩ := mem_w hV h bl
  obtain ⟨s1, s2⟩ := sgl_w hb hb24
  obtain ⟨a1, a2⟩ := D_231_w m2 s2 h231
  rw [mn_w r1 m1 s1] at a1
  rw [a2, a1] at e3
  have c3 : ∀ b, b ≠ 132 → M3 b = M1 b := fun b hb => by rw [e3]; funext j; exact aPut_cell hb
  have r3 : rW w M3 V := rW_eq r1 fun j hj => c3 _ (nw j hj)
  obtain ⟨o1, o2⟩ := mem_w hV r3 (bo_o bl)
  obtain ⟨b1, b2⟩ := D_231_w o2 s2 h231b
  rw [mn_w r3 o1 s1] at b1
  rw [b2, b1] at e5
  have c5 : ∀ b, b ≠ 132 → M5 b = M1 b := fun b hb => by rw [← c3 b hb, e5]; funext j; exact aPut_cell hb
  have r5 : rW w M5 V := rW_eq r1 fun j hj => c5 _ (nw j hj)
  obtain ⟨d1, d2⟩ := D_231_w s2 m2 h231c
  rw [mn_w r5 s1 m1] at d1
  rw [d2, d1] at e7
  have c7 : ∀ b, b ≠ 132 → M7 b = M1 b := fun b hb => by rw [← c5 b hb, e7]; funext j; exact aPut_cell hb
  have l3 : M1 (w + 1) b = V 190 b := (r1.2.2.1 b hb24).2.2
  rw [c7 _ (nw 1 (by decide)), ix_of hb, l3] at e8
  have c8 : ∀ b, b ≠ 132 → M8 b = M1 b := fun b hb => by rw [← c7 b hb, e8]; funext j; exact aPut_cell hb
  rw [f239_24 m2, cN_cg m1] at e9
  have c9 : ∀ b, b ≠ 132 → M9 b = M1 b := fun b hb => by rw [← c8 b hb, e9]; funext j; exact aPut_cell hb
  rw [hN]
  refine ⟨fun k hk => ?_, fun b hb => by rw [c9 b hb, f2 b hb]⟩
  rw [e9, aPut_row, e8, aPut_row, e7, aPut_row, e5, aPut_row, e3, aPut_row, f1 k hk]
  rfl
/-! the reference's facts, and what its law tells -/
theorem D_86_w {p1 : Int32} {M v N} (h : D_86 p1 M v N) : (∀ k, k < 14 → N 216 k = FdV M p1 k) ∧ ∀ b, b ≠ 216 → N b = M b := by
  have q := h (fun x2 M' v N => ∀ i : Nat, x2.toInt = i → i ≤ 14 → (∀ k, k < i → M' 216 k = kI 0) → (∀ b, b ≠ 216 → M' b = M b) → (∀ k, k < 14 → N 216 k = FdV M p1 k) ∧ ∀ b, b ≠ 216 → N b = M b) ?_
  · exact q 0 rfl (Nat.zero_le _) (fun k hk => absurd hk (Nat.not_lt_zero k)) (fun _ _ => rfl)
  · intro x2 M' v N hs i hi hi14 hk hb
    rcases hs with ⟨g, _, M1, e1, _, M2, e2, _, M3, e3, hs⟩ | ⟨g, _, M1, e1, hs⟩
    · rw [i_le, hi, kI_toInt (by decide) (by decide)] at g
      have hs := tB hs
      obtain ⟨M4, e4, hs⟩ := hs
      have hs := tB hs
      obtain ⟨M5, e5, hs⟩ := hs
      have hs := tB hs
      obtain ⟨M6, e6, _, hN⟩ := hs
      have c1 : ∀ b, b ≠ 216 → M1 b = M b := fun b h => by rw [← hb b h, e1]; funext j; exact aPut_cell h
      have c2 : ∀ b, b ≠ 216 → M2 b = M b := fun b h => by rw [← c1 b h, e2]; funext j; exact aPut_cell h
      have c3 : ∀ b, b ≠ 216 → M3 b = M b := fun b h => by rw [← c2 b h, e3]; funext j; exact aPut_cell h
      have c4 : ∀ b, b ≠ 216 → M4 b = M b := fun b h => by rw [← c3 b h, e4]; funext j; exact aPut_cell h
      have c5 : ∀ b, b ≠ 216 → M5 b = M b := fun b h => by rw [← c4 b h, e5]; funext j; exact aPut_cell h
      have c6 : ∀ b, b ≠ 216 → M6 b = M b := fun b h => by rw [← c5 b h, e6]; funext j; exact aPut_cell h
      rw [hb 188 (by decide)] at e1
      rw [c1 188 (by decide)] at e2
      rw [c2 188 (by decide)] at e3
      rw [c3 188 (by decide)] at e4
      rw [c4 188 (by decide)] at e5
      rw [c5 188 (by decide)] at e6
      rw [hN]
      refine ⟨fun k hk2 => ?_, c6⟩
      rw [e6, aPut_row, e5, aPut_row, e4, aPut_row, e3, aPut_row, e2, aPut_row, e1, aPut_row, hk k (by omega)]
      rfl
    · rw [i_le, hi, kI_toInt (by decide) (by decide)] at g
      rw [ix_of hi] at e1
      refine hs (i + 1) (n_add1 hi (by omega)) (by omega) (fun k hk2 => ?_) (fun b h => ?_)
      · rw [e1, aPut_row]
        by_cases e : k = i
        · rw [if_pos e]
        · rw [if_neg e]
          exact hk k (by omega)
      · rw [← hb b h, e1]
        funext j
        exact aPut_cell h
/-- what else is as it was: facts, stack and the flag aside -/
def fr87 (M N : pMem) : Prop := (∀ b, b ≠ 216 → b ≠ 217 → b ≠ 188 → N b = M b) ∧ ∀ j, j ≠ 51 → N 188 j = M 188 j
theorem fr87_t {M N K : pMem} (h : fr87 M N) (g : fr87 N K) : fr87 M K := ⟨fun b h1 h2 h3 => (g.1 b h1 h2 h3).trans (h.1 b h1 h2 h3), fun j hj => (g.2 j hj).trans (h.2 j hj)⟩
theorem fr87_c {M N : pMem} (h : ∀ b, b ≠ 216 → N b = M b) : fr87 M N := ⟨fun b h1 _ _ => h b h1, fun j _ => by rw [h 188 (by decide)]⟩
theorem fr87_85 {M N : pMem} (h : fr85 M N) : fr87 M N := ⟨fun b _ h2 h3 => h.1 b h2 h3, h.2⟩
theorem fr87_r {M : pMem} : fr87 M M := ⟨fun _ _ _ _ => rfl, fun _ _ => rfl⟩
/-- the law k of the reference -/
def rLk (M : pMem) (k : Nat) (o : List Cd) (L : List Ln) : Prop := rLR M k o L ∧ L.length ≤ 16 ∧ wfLw o L ∧ k < 5 ∧ (M 188 4).toInt = k
theorem rLk_fr {M N : pMem} {k : Nat} {o : List Cd} {L : List Ln} (h : rLk M k o L) (f : fr87 M N) : rLk N k o L := ⟨rLR_eq h.1 fun b h1 h2 => f.1 b (by omega) (by omega) (by omega), h.2.1, h.2.2.1, h.2.2.2.1, by rw [f.2 4 (by decide)]; exact h.2.2.2.2⟩
theorem rLk_c {M N : pMem} {k : Nat} {o : List Cd} {L : List Ln} (h : rLk M k o L) (f : ∀ b, 204 ≤ b → b ≤ 211 → N b = M b) (f4 : N 188 4 = M 188 4) : rLk N k o L := ⟨rLR_eq h.1 f, h.2.1, h.2.2.1, h.2.2.2.1, by rw [f4]; exact h.2.2.2.2⟩
/-- what a word tells of facts -/
def tl (F : Nat → Int32) (o : List Cd) (w : Int32) (L : List Ln) : Int32 := (teL F o w L).getD 0
def isT (F : Nat → Int32) (o : List Cd) (w : Int32) (L : List Ln) : Int32 := if teL F o w L = none then kI 0 else kI 1
theorem D_85_v {p1 : Int32} {w : Nat} (hw : p1.toInt + 14 = w) (hw2 : w < 30) {k : Nat} {o : List Cd} {L : List Ln} {M : pMem} (hc : rLk M k o L) {F : Nat → Int32} (hF : ∀ k, k < 14 → M 216 k = F k) {v N} (h : D_85 p1 M v N) : v = tl F o (kI (w : Nat)) L ∧ N 188 51 = isT F o (kI (w : Nat)) L ∧ fr85 M N :=
  D_85_w (w := kI (w : Nat)) (by rw [kI_toInt (by omega) (by omega)]; omega) hc.2.2.2.1 hc.2.1 hc.2.2.1 hc.1 hF hc.2.2.2.2 h
theorem D_87_v {p1 p2 p3 : Int32} {w : Nat} (hw : p1.toInt + 14 = w) (hw2 : w < 30) {k : Nat} {o : List Cd} {L : List Ln} {M : pMem} (hc : rLk M k o L) {i j : Nat} (hi : p2.toInt = i) (hj : p3.toInt = j) {v N} (h : D_87 p1 p2 p3 M v N) : i < 24 ∧ j < 24 ∧ v = tl (FcV M i j) o (kI (w : Nat)) L ∧ N 188 51 = isT (FcV M i j) o (kI (w : Nat)) L ∧ fr87 M N := by
  obtain ⟨gi, _, M1, h86, _, gj, h⟩ := h
  have i24 : i < 24 := by have := (ix_in gi); rw [ix_of hi] at this; omega
  have j24 : j < 24 := by have := (ix_in gj); rw [ix_of hj] at this; omega
  rw [ix_of hi] at h86
  obtain ⟨f1, f2⟩ := D_86_w h86
  have h := tB h
  obtain ⟨M2, e2, _, _, M3, e3, _, _, M4, e4, _, _, M5, e5, _, _, M6, e6, v2, M7, h85, hv, hN⟩ := h
  have c2 : ∀ b, b ≠ 216 → M2 b = M b := fun b h => by rw [← f2 b h, e2]; funext j; exact aPut_cell h
  have c3 : ∀ b, b ≠ 216 → M3 b = M b := fun b h => by rw [← c2 b h, e3]; funext j; exact aPut_cell h
  have c4 : ∀ b, b ≠ 216 → M4 b = M b := fun b h => by rw [← c3 b h, e4]; funext j; exact aPut_cell h
  have c5 : ∀ b, b ≠ 216 → M5 b = M b := fun b h => by rw [← c4 b h, e5]; funext j; exact aPut_cell h
  have c6 : ∀ b, b ≠ 216 → M6 b = M b := fun b h => by rw [← c5 b h, e6]; funext j; exact aPut_cell h
  rw [f2 189 (by decide), ix_of hi, ix_of hj] at e2
  rw [c2 195 (by decide), (ix24 hi hj i24 j24).2] at e3
  rw [c3 194 (by decide), (ix24 hi hj i24 j24).2] at e4
  rw [c4 194 (by decide), (ix24 hj hi j24 i24).2] at e5
  rw [c5 190 (by decide), ix_of hj] at e6
  have hF : ∀ k, k < 14 → M6 216 k = FcV M i j k := fun k hk => by
    rw [e6, aPut_row, e5, aPut_row, e4, aPut_row, e3, aPut_row, e2, aPut_row, f1 k hk]
    rfl
  obtain ⟨a1, a2, a3⟩ := D_85_v hw hw2 (rLk_fr hc (fr87_c c6)) hF h85
  rw [hv, hN]
  exact ⟨i24, j24, a1, a2, fr87_t (fr87_c c6) (fr87_85 a3)⟩
/-- places of boys stay -/
theorem rNb_fr {M N : pMem} {n : Nat} (h : rNb M n) (f : fr87 M N) : rNb N n := ⟨h.1, by rw [f.2 2 (by decide)]; exact h.2.1, fun i h1 h2 => by rw [f.1 191 (by decide) (by decide) (by decide)]; exact h.2.2 i h1 h2⟩
theorem inL_c {M N : pMem} (h1 : N 191 = M 191) (h2 : N 189 = M 189) {p : Int32} : inL N p = inL M p := by
  funext i
  unfold inL thV
  rw [h1, h2]
theorem lkV_c {M N : pMem} (h : N 194 = M 194) : lkV N = lkV M := by
  funext i j
  unfold lkV
  rw [h]
theorem D_88_v {p1 p2 : Int32} {w : Nat} (hw : p1.toInt + 14 = w) (hw2 : w < 30) {k : Nat} {o : List Cd} {L : List Ln} {M : pMem} (hc : rLk M k o L) (hV : rV M) {v N} (h : D_88 p1 p2 M v N) : v = tl (FlV M p2) o (kI (w : Nat)) L ∧ fr87 M N := by
  obtain ⟨⟨n, hn⟩, hb, _⟩ := hV
  obtain ⟨_, M1, h86, v2, M2, h54, _, M3, e3, v3, M4, h54b, _, M5, e5, v4, M6, h53, _, M7, e7, v5, M8, h85, hv, hN⟩ := h
  obtain ⟨f1, f2⟩ := D_86_w h86
  have n1 := rNb_fr hn (fr87_c f2)
  obtain ⟨a1, a2⟩ := D_54_w n1 h54
  rw [a2, a1] at e3
  have c3 : ∀ b, b ≠ 216 → M3 b = M b := fun b h => by rw [← f2 b h, e3]; funext j; exact aPut_cell h
  have n3 := rNb_fr hn (fr87_c c3)
  obtain ⟨b1, b2⟩ := D_54_w n3 h54b
  rw [b2, b1] at e5
  have c5 : ∀ b, b ≠ 216 → M5 b = M b := fun b h => by rw [← c3 b h, e5]; funext j; exact aPut_cell h
  have n5 := rNb_fr hn (fr87_c c5)
  obtain ⟨d1, d2⟩ := D_53_w n5 (fun i hi => by rw [c5 191 (by decide)]; exact (hb i hi).2) h53
  rw [d2, d1] at e7
  have c7 : ∀ b, b ≠ 216 → M7 b = M b := fun b h => by rw [← c5 b h, e7]; funext j; exact aPut_cell h
  rw [inL_c (f2 191 (by decide)) (f2 189 (by decide)), lkV_c (f2 194 (by decide))] at e3
  rw [inL_c (c3 191 (by decide)) (c3 189 (by decide)), inL_c (c3 191 (by decide)) (c3 189 (by decide)), lkV_c (c3 194 (by decide))] at e5
  rw [inL_c (c5 191 (by decide)) (c5 189 (by decide))] at e7
  have hF : ∀ k, k < 14 → M7 216 k = FlV M p2 k := fun k hk => by
    rw [e7, aPut_row, e5, aPut_row, e3, aPut_row, f1 k hk]
    rfl
  obtain ⟨z1, z2, z3⟩ := D_85_v hw hw2 (rLk_fr hc (fr87_c c7)) hF h85
  rw [hv, hN]
  exact ⟨z1, fr87_t (fr87_c c7) (fr87_85 z3)⟩
theorem mf56_c {M N : pMem} (h1 : N 191 = M 191) (h2 : N 189 = M 189) (h3 : N 194 = M 194) {b : Nat} {p : Int32} : mf56 N b p = mf56 M b p := by
  unfold mf56 t56 fr56 lk56
  rw [h1, h2, lkV_c h3]
theorem D_89_v {p1 : Int32} {b n : Nat} {k : Nat} {o : List Cd} {L : List Ln} {M : pMem} (hc : rLk M k o L) (hV : rV M) (hn : rNb M n) (hp : p1.toInt = b) (hbn : b < n) {v N} (h : D_89 p1 M v N) : v = tl (FbV M b) o (kI 16) L ∧ fr87 M N := by
  have n24 := hn.1
  have hb := hV.2.1
  obtain ⟨_, _, M1, h86, v2, M2, h56, _, M3, e3, _, _, M4, e4, v3, M5, h56b, _, M6, e6, v4, M7, h56c, _, M8, e8, _, v5, M9, h53, _, M10, e10, v6, M11, h85, hv, hN⟩ := h
  rw [ix_of hp] at h86 e4 h53
  obtain ⟨f1, f2⟩ := D_86_w h86
  obtain ⟨a1, a2⟩ := D_56_w (rNb_fr hn (fr87_c f2)) hp hbn h56
  rw [a2, a1, mf56_c (f2 191 (by decide)) (f2 189 (by decide)) (f2 194 (by decide))] at e3
  have c3 : ∀ b, b ≠ 216 → M3 b = M b := fun b h => by rw [← f2 b h, e3]; funext j; exact aPut_cell h
  rw [c3 190 (by decide)] at e4
  have c4 : ∀ b, b ≠ 216 → M4 b = M b := fun b h => by rw [← c3 b h, e4]; funext j; exact aPut_cell h
  obtain ⟨b1, b2⟩ := D_56_w (rNb_fr hn (fr87_c c4)) hp hbn h56b
  rw [b2, b1, mf56_c (c4 191 (by decide)) (c4 189 (by decide)) (c4 194 (by decide))] at e6
  have c6 : ∀ b, b ≠ 216 → M6 b = M b := fun b h => by rw [← c4 b h, e6]; funext j; exact aPut_cell h
  obtain ⟨d1, d2⟩ := D_56_w (rNb_fr hn (fr87_c c6)) hp hbn h56c
  rw [d2, d1, mf56_c (c6 191 (by decide)) (c6 189 (by decide)) (c6 194 (by decide))] at e8
  have c8 : ∀ b, b ≠ 216 → M8 b = M b := fun b h => by rw [← c6 b h, e8]; funext j; exact aPut_cell h
  rw [c8 189 (by decide)] at h53
  obtain ⟨g1, g2⟩ := D_53_w (rNb_fr hn (fr87_c c8)) (fun i hi => by rw [c8 191 (by decide)]; exact (hb i hi).2) h53
  rw [g2, g1, inL_c (c8 191 (by decide)) (c8 189 (by decide))] at e10
  have c10 : ∀ b, b ≠ 216 → M10 b = M b := fun b h => by rw [← c8 b h, e10]; funext j; exact aPut_cell h
  have b24 : b < 24 := by omega
  rw [mf56_2 b24] at e3
  rw [mf56_0 b24] at e6
  rw [mf56_1 b24 (fun i hi => (hb i hi).1)] at e8
  have hF : ∀ k, k < 14 → M10 216 k = FbV M b k := fun k hk => by
    rw [e10, aPut_row, e8, aPut_row, e6, aPut_row, e4, aPut_row, e3, aPut_row, f1 k hk]
    unfold FbV
    by_cases k13 : k = 13
    · rw [if_pos (show k = ix (kI 13) from k13), if_pos k13]
    · rw [if_neg (show ¬ k = ix (kI 13) from k13), if_neg k13]
      have d10 : k = 12 ∨ k = 11 → ¬ k = 10 := fun q => by omega
      have d8 : k = 12 ∨ k = 11 → ¬ k = 8 := fun q => by omega
      by_cases k12 : k = 12
      · rw [if_pos (show k = ix (kI 12) from k12), if_neg (d10 (Or.inl k12)), if_neg (d8 (Or.inl k12)), if_pos k12]
      · rw [if_neg (show ¬ k = ix (kI 12) from k12)]
        by_cases k11 : k = 11
        · rw [if_pos (show k = ix (kI 11) from k11), if_neg (d10 (Or.inr k11)), if_neg (d8 (Or.inr k11)), if_neg k12, if_pos k11]
        · rw [if_neg (show ¬ k = ix (kI 11) from k11)]
          by_cases k10 : k = 10
          · rw [if_pos (show k = ix (kI 10) from k10), if_pos k10]
          · rw [if_neg (show ¬ k = ix (kI 10) from k10), if_neg k10]
            by_cases k8 : k = 8
            · rw [if_pos (show k = ix (kI 8) from k8), if_pos k8]
            · rw [if_neg (show ¬ k = ix (kI 8) from k8), if_neg k8, if_neg k12, if_neg k11]
  obtain ⟨z1, z2, z3⟩ := D_85_v (w := 16) (by decide) (by decide) (rLk_fr hc (fr87_c c10)) hF h85
  rw [hv, hN]
  exact ⟨z1, fr87_t (fr87_c c10) (fr87_85 z3)⟩
/-! the class's law tells -/
/-- the class's law at l -/
def cLk (M : pMem) (l : Nat) (o : List Cd) (L : List Ln) : Prop := clLaw M l o L ∧ wfLw o L
theorem lCell {l : Nat} (h : pK 2 l = true) : (30 ≤ l ∧ l + 6 < 132) ∨ l + 6 < 19 := by
  obtain ⟨h1, h2⟩ := pKi h
  have c : ∀ a, a < 230 → (pC a).1 = 2 → (30 ≤ a ∧ a + 6 < 132) ∨ a + 6 < 19 := by decide +kernel
  exact c l h1 h2
theorem lwCell {l w : Nat} (hl : pK 2 l = true) (hw : pK 10 w = true) : ∀ i, i < 7 → ∀ j, j < 5 → l + i ≠ w + j := by
  obtain ⟨h1, h2⟩ := pKi hl
  obtain ⟨h3, h4⟩ := pKi hw
  have c : ∀ a, a < 230 → (pC a).1 = 2 → a + 6 < 19 ∨ (24 ≤ a ∧ a + 6 < 75) ∨ (80 ≤ a ∧ a + 6 < 132) := by decide +kernel
  have d : ∀ a, a < 230 → (pC a).1 = 10 → a = 19 ∨ a = 75 ∨ 138 ≤ a := by decide +kernel
  have c := c l h1 h2
  have d := d w h3 h4
  intro i hi j hj
  omega
theorem cLk_c {M N : pMem} {l : Nat} {o : List Cd} {L : List Ln} (h : cLk M l o L) (f : ∀ b, l ≤ b → b ≤ l + 5 → N b = M b) : cLk N l o L := ⟨clLaw_eq h.1 f, h.2⟩
theorem teL_cg {F G : Nat → Int32} (h : F = G) {o : List Cd} {w : Int32} {L : List Ln} : teL F o w L = teL G o w L := by rw [h]
theorem D_157_v {l fa : Nat} (hl : pK 2 l = true) (hfa : 132 ≤ fa) {p1 p3 : Int32} {F : Nat → Int32} {o : List Cd} {L : List Ln} {M : pMem} (hc : cLk M l o L) (hF : ∀ k, k < 14 → M fa k = F k) {v N} (h : D_157 l p1 fa p3 M v N) : v = (teL F o p1 L).getD p3 ∧ ∀ b, b ≠ l + 6 → N b = M b := by
  have := lCell hl
  exact D_157_w (Or.inr (by omega)) hc.2 hc.1 hF h
/-! a day, out of what V says -/
/-- V but for what is written over at each use -/
def sc (V N : pMem) : Prop := ∀ a j, a < 230 → pScr a j = false → N a j = V a j
theorem sc_r {V : pMem} : sc V V := fun _ _ _ _ => rfl
theorem sc_row {V N : pMem} (h : sc V N) {a : Nat} (ha : a < 230) (hs : pScrA a = false) (h8 : a ≠ 188) : N a = V a := funext fun j => h a j ha (pScr_of hs h8 j)
theorem sc_p {V N : pMem} (h : sc V N) {a j : Nat} {x y : Int32} (e : x = y) : sc (aPut V a j x) (aPut N a j y) := fun b i h1 h2 => by
  unfold aPut
  by_cases q : b = a
  · rw [if_pos q, if_pos q]
    by_cases r : i = j
    · rw [if_pos r, if_pos r, e]
    · rw [if_neg r, if_neg r]
      exact h b i h1 h2
  · rw [if_neg q, if_neg q]
    exact h b i h1 h2
/-- a place that is written over anyhow -/
theorem sc_s {V N : pMem} (h : sc V N) {a j : Nat} {x : Int32} (hs : pScr a j = true) : sc V (aPut N a j x) := fun b i h1 h2 => by
  rw [← h b i h1 h2]
  unfold aPut
  by_cases q : b = a
  · rw [if_pos q, if_neg]
    intro r
    rw [q, r, hs] at h2
    cases h2
  · rw [if_neg q]
theorem sc_t {V M N : pMem} (h : sc V M) (g : sc M N) : sc V N := fun a j h1 h2 => (g a j h1 h2).trans (h a j h1 h2)
theorem sc_87 {M N : pMem} (h : fr87 M N) : sc M N := fun a j h1 h2 => by
  by_cases e8 : a = 188
  · subst e8
    refine h.2 j fun e => ?_
    subst e
    exact absurd h2 (by decide)
  · rw [h.1 a _ _ e8]
    · intro e
      subst e
      exact absurd h2 (by rw [show pScr 216 j = true from rfl]; decide)
    · intro e
      subst e
      exact absurd h2 (by rw [show pScr 217 j = true from rfl]; decide)
theorem sc_rows {V N : pMem} (h : sc V N) : N 189 = V 189 ∧ N 190 = V 190 ∧ N 191 = V 191 ∧ N 194 = V 194 ∧ N 195 = V 195 ∧ ∀ j, j ≠ 0 → j ≠ 51 → N 188 j = V 188 j :=
  ⟨sc_row h (by decide) rfl (by decide), sc_row h (by decide) rfl (by decide), sc_row h (by decide) rfl (by decide), sc_row h (by decide) rfl (by decide), sc_row h (by decide) rfl (by decide), fun j h0 h5 => h 188 j (by decide) (by
    unfold pScr
    rw [show Nat.beq j 0 = false from Bool.eq_false_iff.mpr fun q => h0 (Nat.eq_of_beq_eq_true q), show Nat.beq j 51 = false from Bool.eq_false_iff.mpr fun q => h5 (Nat.eq_of_beq_eq_true q)]
    rfl)⟩
theorem FdV_sc {V N : pMem} (h : sc V N) : FdV N = FdV V := by
  obtain ⟨_, _, _, _, _, h8⟩ := sc_rows h
  funext lot k
  unfold FdV
  rw [h8 17 (by decide) (by decide), h8 18 (by decide) (by decide), h8 19 (by decide) (by decide), h8 20 (by decide) (by decide), h8 21 (by decide) (by decide)]
theorem inL_sc {V N : pMem} (h : sc V N) : inL N = inL V := funext fun _ => inL_c (sc_rows h).2.2.1 (sc_rows h).1
theorem lkV_sc {V N : pMem} (h : sc V N) : lkV N = lkV V := lkV_c (sc_rows h).2.2.2.1
theorem thV_sc {V N : pMem} (h : sc V N) : thV N = thV V := by
  funext i
  unfold thV
  rw [(sc_rows h).2.2.1]
theorem FcV_sc {V N : pMem} (h : sc V N) : FcV N = FcV V := by
  obtain ⟨h1, h2, h3, h4, h5, h8⟩ := sc_rows h
  funext i j k
  unfold FcV
  rw [h2, lkV_sc h, h5, h1, FdV_sc h]
theorem FlV_sc {V N : pMem} (h : sc V N) : FlV N = FlV V := by
  funext lot k
  unfold FlV
  rw [inL_sc h, lkV_sc h, FdV_sc h]
theorem FbV_sc {V N : pMem} (h : sc V N) : FbV N = FbV V := by
  obtain ⟨h1, h2, h3, h4, h5, h8⟩ := sc_rows h
  funext b k
  unfold FbV
  rw [inL_sc h, lkV_sc h, FdV_sc h, h1, h2]
theorem rNb_sc {V N : pMem} {n : Nat} (h : sc V N) (hn : rNb V n) : rNb N n := by
  obtain ⟨h1, h2, h3, h4, h5, h8⟩ := sc_rows h
  refine ⟨hn.1, by rw [h8 2 (by decide) (by decide)]; exact hn.2.1, fun i a b => by rw [h3]; exact hn.2.2 i a b⟩
theorem rV_sc {V N : pMem} (h : sc V N) (hV : rV V) : rV N := by
  obtain ⟨⟨n, hn⟩, h2, h3, h4⟩ := hV
  obtain ⟨r1, r2, r3, r4, r5, r8⟩ := sc_rows h
  have r6 : N 196 = V 196 := sc_row h (by decide) rfl (by decide)
  exact ⟨⟨n, rNb_sc h hn⟩, by rw [r1, r3]; exact h2, by rw [r5]; exact h3, by rw [r6]; exact h4⟩
theorem aV_sc {V N : pMem} (h : sc V N) : agV V N := by
  obtain ⟨r1, r2, r3, r4, r5, r8⟩ := sc_rows h
  have q : ∀ a, 196 ≤ a → a ≤ 200 → N a = V a := fun a h1 h2 => by
    have e : a = 196 ∨ a = 197 ∨ a = 198 ∨ a = 199 ∨ a = 200 := by omega
    rcases e with rfl | rfl | rfl | rfl | rfl <;> exact sc_row h (by decide) rfl (by decide)
  refine ⟨⟨r8 1 (by decide) (by decide), r8 2 (by decide) (by decide), r8 3 (by decide) (by decide), r8 17 (by decide) (by decide), r8 18 (by decide) (by decide), r8 19 (by decide) (by decide), r8 20 (by decide) (by decide), r8 21 (by decide) (by decide)⟩, fun i _ => ?_, fun k _ => ?_, fun l _ => ?_⟩
  · rw [r1, r2, r3]
    exact ⟨rfl, rfl, rfl⟩
  · rw [r4, r5]
    exact ⟨rfl, rfl⟩
  · rw [q 196 (by decide) (by decide), q 197 (by decide) (by decide), q 198 (by decide) (by decide), q 199 (by decide) (by decide), q 200 (by decide) (by decide)]
    exact ⟨rfl, rfl, rfl, rfl, rfl⟩
theorem rLk_sc {V N : pMem} {k : Nat} {o : List Cd} {L : List Ln} (h : sc V N) (hL : rLk V k o L) : rLk N k o L :=
  rLk_c hL (fun b h1 h2 => sc_row h (by omega) (by
    have e : b = 204 ∨ b = 205 ∨ b = 206 ∨ b = 207 ∨ b = 208 ∨ b = 209 ∨ b = 210 ∨ b = 211 := by omega
    rcases e with rfl | rfl | rfl | rfl | rfl | rfl | rfl | rfl <;> rfl) (by omega)) ((sc_rows h).2.2.2.2.2 4 (by decide) (by decide))
/-! its steps -/
def bg0 (k p wr : Int32) (V : pMem) : pMem := aPut (aPut (aPut (aPut (aPut V 188 17 k) 188 18 p) 188 19 (V 188 3)) 188 20 (kI (-1))) 188 21 wr
def bgV (k p wr : Int32) (V : pMem) : pMem := if wr = kI (-1) then bg0 k p wr V else aPut (bg0 k p wr V) 200 (ix wr) (V 200 (ix wr) + kI 1)
def scoV (V : pMem) (p : Int32) : Int32 := f_43 (mnS (inL V p) (inL V p) (lkV V)) (kI 5) + drV (V 188 1) + stS (inL V p) (V 190) 24
def drwV (V : pMem) : pMem := aPut V 188 1 (xDraw (V 188 1))
def wonV (V : pMem) : Int32 := if scoV V (kI 0) = scoV (drwV V) (kI 1) then kI (-1) else if scoV V (kI 0) ≤ scoV (drwV V) (kI 1) then kI 1 else kI 0
def plV0 (V : pMem) : pMem := aPut (drwV (drwV V)) 188 20 (wonV V)
def plV (V : pMem) : pMem := if wonV V = kI (-1) then plV0 V else aPut (plV0 V) 199 (ix (wonV V)) (V 199 (ix (wonV V)) + kI 1)
/-- added wholly, held -/
def adL (x y : Int32) : Int32 := f_39 (Int32.toInt64 x + Int32.toInt64 y) (kI (-50)) (kI 50)
def cpl (V : pMem) (i j : Nat) : Bool := !decide (i = j) && (thV V i && thV V j)
def likV (o : List Cd) (L : List Ln) (V : pMem) : pMem := aRow V 194 fun k => if k < 576 ∧ cpl V (k / 24) (k % 24) = true then adL (V 194 k) (tl (FcV V (k / 24) (k % 24)) o (kI 14) L) else V 194 k
def h999 (x : Int32) : Int32 := if x ≤ kI 999 then x else kI 999
def fgV (o : List Cd) (L : List Ln) (l : Nat) (V : pMem) : pMem :=
  if 0 < tl (FlV V (kI (l : Nat))) o (kI 15) L then aPut (aPut (aPut (aPut V 188 54 (V 188 54 ||| kI 1 <<< (kI (l : Nat) &&& 31))) 197 l (V 197 l + kI 1)) 198 l (V 198 l + h999 (tl (FlV V (kI (l : Nat))) o (kI 15) L))) 188 55 (V 188 55 + h999 (tl (FlV V (kI (l : Nat))) o (kI 15) L)) else V
def fg0 (V : pMem) : pMem := aPut (aPut V 188 54 (kI 0)) 188 55 (kI 0)
def goV (o : List Cd) (L : List Ln) (V : pMem) (i : Nat) : Bool := thV V i && decide (0 < tl (FbV V i) o (kI 16) L)
def hoV (o : List Cd) (L : List Ln) (V : pMem) : pMem := aPut (aRow V 191 fun i => if i < 24 ∧ goV o L V i = true then kI 0 else V 191 i) 188 57 (kI (cN (goV o L V) 24 : Nat))
def na0 (V : pMem) : pMem := aPut V 188 56 (kI 0)
def naV (o : List Cd) (L : List Ln) (l : Nat) (V : pMem) : pMem :=
  if V 196 l = 0 ∧ 0 < tl (FlV V (kI (l : Nat))) o (kI 17) L then aPut (aPut V 196 l (V 188 3 + kI 1)) 188 56 (V 188 56 + kI 1) else V
/-- till the names; the day itself -/
def stV (o : List Cd) (L : List Ln) (k p wr : Int32) (V : pMem) : pMem :=
  naV o L 1 (naV o L 0 (na0 (hoV o L (fgV o L 1 (fgV o L 0 (fg0 (likV o L (if k = kI 1 then plV (bgV k p wr V) else bgV k p wr V))))))))
def dyV (V : pMem) : pMem := aPut V 188 3 (V 188 3 + kI 1)
/-! the class's day, step by step -/
/-- what a step of the class leaves -/
def frC (w l : Nat) (M N : pMem) : Prop := ∀ b, (∀ j, j < 5 → b ≠ w + j) → b ≠ 132 → b ≠ l + 6 → N b = M b
theorem frC_r {w l : Nat} {M : pMem} : frC w l M M := fun _ _ _ _ => rfl
theorem frC_t {w l : Nat} {M N K : pMem} (h : frC w l M N) (g : frC w l N K) : frC w l M K := fun b h1 h2 h3 => (g b h1 h2 h3).trans (h b h1 h2 h3)
theorem frC_132 {w l : Nat} {M N : pMem} (h : ∀ b, b ≠ 132 → N b = M b) : frC w l M N := fun b _ h2 _ => h b h2
theorem frC_6 {w l : Nat} {M N : pMem} (h : ∀ b, b ≠ l + 6 → N b = M b) : frC w l M N := fun b _ _ h3 => h b h3
theorem frC_p {w l : Nat} {M : pMem} {a j : Nat} {x : Int32} (h : ∃ k, k < 5 ∧ a = w + k) : frC w l M (aPut M a j x) := fun b h1 _ _ => by
  obtain ⟨k, k1, k2⟩ := h
  funext i
  exact aPut_cell (by rw [k2]; exact h1 k k1)
theorem frC_law {w l : Nat} (hw : pK 10 w = true) (hl : pK 2 l = true) {M N : pMem} (f : frC w l M N) {o : List Cd} {L : List Ln} (h : cLk M l o L) : cLk N l o L := by
  have c := lCell hl
  refine cLk_c h fun b h1 h2 => f b (fun j hj e => ?_) (by omega) (by omega)
  exact lwCell hl hw (b - l) (by omega) j hj (by omega)
theorem rW_6 {w l : Nat} (hw : pK 10 w = true) (hl : pK 2 l = true) {M N V : pMem} (h : rW w M V) (f : ∀ b, b ≠ l + 6 → N b = M b) : rW w N V := rW_eq h fun j hj => f _ (fun e => lwCell hl hw 6 (by decide) j hj e.symm)
theorem rW_132 {w : Nat} (hw : pK 10 w = true) {M N V : pMem} (h : rW w M V) (f : ∀ b, b ≠ 132 → N b = M b) : rW w N V := rW_eq h fun j hj => f _ (by have := wCell hw j hj; omega)
theorem D_235_v {w : Nat} {p1 p2 p3 : Int32} {a l : Nat} (h1 : p1.toInt = a) (h2 : p2.toInt = l) (ha : a < 9) (hl : l < 2) {M v N} (h : D_235 w p1 p2 p3 M v N) : N = aPut M (w + 4) (2 * a + l) (M (w + 4) (2 * a + l) + p3) := by
  obtain ⟨_, _, M1, e1, _, hN⟩ := h
  have e2 : (kI 2).toInt = 2 := rfl
  have e : (p1 * kI 2).toInt = 2 * a := by rw [i_mul (by rw [h1, e2]; omega) (by rw [h1, e2]; omega), h1, e2]; omega
  rw [ix_of (n := 2 * a + l) (by rw [i_add (by rw [e, h2]; omega) (by rw [e, h2]; omega), e, h2]; omega)] at e1
  rw [hN, e1]
/-! begin -/
theorem bg0_v {k p wr : Int32} {V : pMem} : (∀ b, b ≠ 188 → bg0 k p wr V b = V b) ∧ ∀ j, bg0 k p wr V 188 j = if j = 21 then wr else if j = 20 then kI (-1) else if j = 19 then V 188 3 else if j = 18 then p else if j = 17 then k else V 188 j := by
  unfold bg0
  refine ⟨fun b hb => ?_, fun j => ?_⟩
  · funext j
    rw [aPut_cell hb, aPut_cell hb, aPut_cell hb, aPut_cell hb, aPut_cell hb]
  · rw [aPut_row, aPut_row, aPut_row, aPut_row, aPut_row]
theorem bgV_v {k p wr : Int32} {V : pMem} : (∀ b, b ≠ 188 → b ≠ 200 → bgV k p wr V b = V b) ∧ (∀ j, bgV k p wr V 188 j = bg0 k p wr V 188 j) ∧ ∀ i, bgV k p wr V 200 i = if wr = kI (-1) then V 200 i else if i = ix wr then V 200 (ix wr) + kI 1 else V 200 i := by
  unfold bgV
  by_cases h : wr = kI (-1)
  · rw [if_pos h]
    exact ⟨fun b h1 _ => bg0_v.1 b h1, fun j => rfl, fun i => by rw [if_pos h, bg0_v.1 200 (by decide)]⟩
  · rw [if_neg h]
    refine ⟨fun b h1 h2 => ?_, fun j => aPut_cell (by decide), fun i => ?_⟩
    · funext j
      rw [aPut_cell h2, bg0_v.1 b h1]
    · rw [if_neg h, aPut_row, bg0_v.1 200 (by decide)]
theorem rV_188 {V U : pMem} (h : rV V) (r : ∀ b, 189 ≤ b → b ≤ 196 → U b = V b) (e : U 188 2 = V 188 2) : rV U := by
  obtain ⟨⟨n, n1, n2, n3⟩, h2, h3, h4⟩ := h
  exact ⟨⟨n, n1, by rw [e]; exact n2, by rw [r 191 (by decide) (by decide)]; exact n3⟩, by rw [r 189 (by decide) (by decide), r 191 (by decide) (by decide)]; exact h2, by rw [r 195 (by decide) (by decide)]; exact h3, by rw [r 196 (by decide) (by decide)]; exact h4⟩
theorem rV_bg {k p wr : Int32} {V : pMem} (h : rV V) : rV (bgV k p wr V) := by
  refine rV_188 h (fun b h1 h2 => bgV_v.1 b (by omega) (by omega)) ?_
  rw [bgV_v.2.1, bg0_v.2]
  rfl
theorem D_139_v {w l : Nat} (hw : pK 10 w = true) {M V : pMem} (h : rW w M V) {p2 p3 p4 : Int32} (hp : p4 = kI (-1) ∨ bo p4) {v N} (hD : D_139 w p2 p3 p4 M v N) : rW w N (bgV p2 p3 p4 V) ∧ N w 11 = kI 0 ∧ frC w l M N := by
  obtain ⟨M1, e1, M2, e2, M3, e3, M4, e4, M5, e5, M6, e6, hD⟩ := hD
  have r6 : ∀ j, M6 w j = if j = 11 then kI 0 else if j = 10 then p4 else if j = 9 then kI (-1) else if j = 8 then M w 4 else if j = 7 then p3 else if j = 6 then p2 else M w j := fun j => by
    have a2 : M2 w 4 = M w 4 := by rw [e2, aPut_at (by decide), e1, aPut_at (by decide)]
    rw [e6, aPut_row, e5, aPut_row, e4, aPut_row, e3, aPut_row, a2, e2, aPut_row, e1, aPut_row]
  have c6 : ∀ b, b ≠ w → M6 b = M b := fun b hb => by
    funext j
    rw [e6, aPut_cell hb, e5, aPut_cell hb, e4, aPut_cell hb, e3, aPut_cell hb, e2, aPut_cell hb, e1, aPut_cell hb]
  have f6 : frC w l M M6 := fun b h1 _ _ => c6 b (h1 0 (by decide))
  obtain ⟨h1, h2, h3, h4, ⟨t4, t5, t6, t7, t8, t9, t10⟩, h6⟩ := h
  obtain ⟨b1, b2, b3⟩ := bgV_v (k := p2) (p := p3) (wr := p4) (V := V)
  -- whatever the tallies
  have go : ∀ {N : pMem}, (∀ b, b ≠ w + 4 → N b = M6 b) → (∀ l, l < 2 → N (w + 4) (6 + l) = V 196 l ∧ N (w + 4) (8 + l) = V 197 l ∧ N (w + 4) (10 + l) = V 198 l ∧ N (w + 4) (12 + l) = V 199 l ∧ N (w + 4) (16 + l) = bgV p2 p3 p4 V 200 l) → rW w N (bgV p2 p3 p4 V) ∧ N w 11 = kI 0 ∧ frC w l M N := by
    intro N hN hT
    have n0 : ∀ j, N w j = M6 w j := fun j => by rw [hN w (by omega)]
    refine ⟨⟨?_, ?_, fun i hi => ?_, fun i j hi hj => ?_, ?_, fun l hl => ?_⟩, ?_, frC_t f6 fun b h1 _ _ => hN b (h1 4 (by decide))⟩
    · rw [n0, r6, b2, bg0_v.2]
      exact h1
    · rw [n0, n0, r6, r6]
      exact h2
    · rw [n0, n0, r6, r6, hN (w + 1) (by omega), c6 (w + 1) (by omega), b1 189 (by decide) (by decide), b1 190 (by decide) (by decide), b1 191 (by decide) (by decide)]
      exact h3 i hi
    · rw [hN (w + 2) (by omega), c6 (w + 2) (by omega), hN (w + 3) (by omega), c6 (w + 3) (by omega), b1 194 (by decide) (by decide), b1 195 (by decide) (by decide)]
      exact h4 i j hi hj
    · rw [n0, n0, n0, n0, n0, n0, n0, r6, r6, r6, r6, r6, r6, r6, b2, b2, b2, b2, b2, b2, b2, bg0_v.2, bg0_v.2, bg0_v.2, bg0_v.2, bg0_v.2, bg0_v.2, bg0_v.2]
      exact ⟨t4, t5, rfl, rfl, t4, rfl, rfl⟩
    · rw [b1 196 (by decide) (by decide), b1 197 (by decide) (by decide), b1 198 (by decide) (by decide), b1 199 (by decide) (by decide)]
      exact hT l hl
    · rw [n0, r6]
      rfl
  rcases hD with ⟨g, _, hN⟩ | ⟨g, _, M7, h235, _, hN⟩
  · rw [hN]
    have e : p4 = kI (-1) := by
      rcases hp with e | e | e
      · exact e
      · rw [e] at g
        exact absurd g (by decide)
      · rw [e] at g
        exact absurd g (by decide)
    refine go (fun _ _ => rfl) fun l hl => ?_
    rw [c6 (w + 4) (by omega), b3, if_pos e]
    exact h6 l hl
  · have hb : bo p4 := hp.resolve_left fun e => by
      rw [e] at g
      exact absurd g (by decide)
    have ne : ¬ p4 = kI (-1) := by rcases hb with rfl | rfl <;> decide
    obtain ⟨m, m2, em⟩ : ∃ m : Nat, m < 2 ∧ p4.toInt = m := by
      rcases hb with rfl | rfl
      · exact ⟨0, by decide, rfl⟩
      · exact ⟨1, by decide, rfl⟩
    have e7 := D_235_v (a := 8) (l := m) rfl em (by decide) m2 h235
    rw [c6 (w + 4) (by omega)] at e7
    rw [hN]
    refine go (fun b hb => by rw [e7]; funext j; exact aPut_cell hb) fun l hl => ?_
    obtain ⟨z1, z2, z3, z4, z5⟩ := h6 l hl
    have row : ∀ i, M7 (w + 4) i = if i = 16 + m then M (w + 4) (16 + m) + kI 1 else M (w + 4) i := fun i => by
      rw [e7, aPut_row, c6 (w + 4) (by omega)]
    rw [row, row, row, row, row, if_neg (by omega), if_neg (by omega), if_neg (by omega), if_neg (by omega), b3, if_neg ne, ix_of em]
    refine ⟨z1, z2, z3, z4, ?_⟩
    by_cases q : l = m
    · rw [if_pos (by omega), if_pos q, ← q, z5]
    · rw [if_neg (by omega), if_neg q]
      exact z5
/-! against -/
theorem drwV_v {V : pMem} : (∀ b, b ≠ 188 → drwV V b = V b) ∧ ∀ j, drwV V 188 j = if j = 1 then xDraw (V 188 1) else V 188 j := by
  unfold drwV
  exact ⟨fun b hb => by funext j; exact aPut_cell hb, fun j => aPut_row⟩
theorem rV_drw {V : pMem} (h : rV V) : rV (drwV V) := rV_188 h (fun b h1 _ => drwV_v.1 b (by omega)) (by rw [drwV_v.2]; rfl)
theorem rW_drw {w : Nat} {M V : pMem} (h : rW w M V) : rW w (aPut M w 5 (xDraw (M w 5))) (drwV V) := by
  obtain ⟨h1, h2, h3, h4, ⟨t4, t5, t6, t7, t8, t9, t10⟩, h6⟩ := h
  have c : ∀ j, j < 5 → 0 < j → aPut M w 5 (xDraw (M w 5)) (w + j) = M (w + j) := fun j _ hj => by funext i; exact aPut_cell (by omega)
  have r : ∀ j, j ≠ 5 → aPut M w 5 (xDraw (M w 5)) w j = M w j := fun j hj => aPut_at hj
  obtain ⟨d1, d2⟩ := drwV_v (V := V)
  refine ⟨by rw [r 0 (by decide), d2]; exact h1, by rw [r 1 (by decide), r 2 (by decide)]; exact h2, fun i hi => ?_, fun i j hi hj => ?_, ?_, fun l hl => ?_⟩
  · rw [r 1 (by decide), r 2 (by decide), c 1 (by decide) (by decide), d1 189 (by decide), d1 190 (by decide), d1 191 (by decide)]
    exact h3 i hi
  · rw [c 2 (by decide) (by decide), c 3 (by decide) (by decide), d1 194 (by decide), d1 195 (by decide)]
    exact h4 i j hi hj
  · rw [r 4 (by decide), r 6 (by decide), r 7 (by decide), r 8 (by decide), r 9 (by decide), r 10 (by decide), aPut_same, d2, d2, d2, d2, d2, d2, d2, t5]
    exact ⟨t4, rfl, t6, t7, t8, t9, t10⟩
  · rw [c 4 (by decide) (by decide), d1 196 (by decide), d1 197 (by decide), d1 198 (by decide), d1 199 (by decide), d1 200 (by decide)]
    exact h6 l hl
theorem D_233_sc {w : Nat} (hw : pK 10 w = true) {M V : pMem} (hV : rV V) (h : rW w M V) {p : Int32} (hp : bo p) {v N} (hD : D_233 w p M v N) : v = scoV V p ∧ N = aPut M w 5 (xDraw (M w 5)) := by
  obtain ⟨m1, m2⟩ := mem_w hV h hp
  obtain ⟨a1, a2⟩ := D_233_v hw m2 hD
  refine ⟨?_, a2⟩
  have e : stS (bt (f_226 w p M)) (M (w + 1)) 24 = stS (inL V p) (V 190) 24 := stS_cg m1 fun i hi => (h.2.2.1 i hi).2.2
  unfold scoV
  rw [a1, mn_w h m1 m1, h.2.2.2.2.1.2.1, e]
theorem plV_v {V : pMem} : (∀ b, b ≠ 188 → b ≠ 199 → plV V b = V b) ∧ (∀ j, plV V 188 j = if j = 20 then wonV V else if j = 1 then xDraw (xDraw (V 188 1)) else V 188 j) ∧ ∀ i, plV V 199 i = if wonV V = kI (-1) then V 199 i else if i = ix (wonV V) then V 199 (ix (wonV V)) + kI 1 else V 199 i := by
  have z1 : ∀ b, b ≠ 188 → plV0 V b = V b := fun b hb => by
    unfold plV0
    funext j
    rw [aPut_cell hb, drwV_v.1 b hb, drwV_v.1 b hb]
  have z2 : ∀ j, plV0 V 188 j = if j = 20 then wonV V else if j = 1 then xDraw (xDraw (V 188 1)) else V 188 j := fun j => by
    unfold plV0
    rw [aPut_row, drwV_v.2, drwV_v.2, drwV_v.2]
    by_cases e : j = 20
    · rw [if_pos e, if_pos e]
    · rw [if_neg e, if_neg e]
      by_cases e1 : j = 1
      · rw [if_pos e1, if_pos e1]
        rfl
      · rw [if_neg e1, if_neg e1, if_neg e1]
  unfold plV
  by_cases g : wonV V = kI (-1)
  · rw [if_pos g]
    exact ⟨fun b h1 _ => z1 b h1, z2, fun i => by rw [if_pos g, z1 199 (by decide)]⟩
  · rw [if_neg g]
    refine ⟨fun b h1 h2 => ?_, fun j => (aPut_cell (by decide)).trans (z2 j), fun i => ?_⟩
    · funext j
      rw [aPut_cell h2, z1 b h1]
    · rw [if_neg g, aPut_row, z1 199 (by decide)]
theorem rV_pl {V : pMem} (h : rV V) : rV (plV V) := rV_188 h (fun b h1 h2 => plV_v.1 b (by omega) (by omega)) (by rw [plV_v.2.1]; rfl)
theorem won_bo {V : pMem} : wonV V = kI (-1) ∨ bo (wonV V) := by
  unfold wonV
  split
  · exact Or.inl rfl
  · split
    · exact Or.inr (Or.inr rfl)
    · exact Or.inr (Or.inl rfl)
theorem D_140_v {w l : Nat} (hw : pK 10 w = true) {M V : pMem} (hV : rV V) (h : rW w M V) (h20 : V 188 20 = kI (-1)) {v N} (hD : D_140 w M v N) : rW w N (plV V) ∧ N w 11 = M w 11 ∧ frC w l M N := by
  obtain ⟨v1, M1, ha, v2, M2, hb, hD⟩ := hD
  obtain ⟨a1, a2⟩ := D_233_sc hw hV h (Or.inl rfl) ha
  have r1 : rW w M1 (drwV V) := by rw [a2]; exact rW_drw h
  obtain ⟨b1, b2⟩ := D_233_sc hw (rV_drw hV) r1 (Or.inr rfl) hb
  have r2 : rW w M2 (drwV (drwV V)) := by rw [b2]; exact rW_drw r1
  have q11 : M2 w 11 = M w 11 := by rw [b2, aPut_at (by decide), a2, aPut_at (by decide)]
  have f2 : frC w l M M2 := by
    rw [b2, a2]
    exact frC_t (frC_p ⟨0, by decide, rfl⟩) (frC_p ⟨0, by decide, rfl⟩)
  obtain ⟨p1, p2, p3⟩ := plV_v (V := V)
  have p2' : ∀ j, j ≠ 20 → j ≠ 1 → plV V 188 j = V 188 j := fun j a b => by rw [p2, if_neg a, if_neg b]
  have p20 : plV V 188 20 = wonV V := by rw [p2, if_pos rfl]
  have p21 : plV V 188 1 = xDraw (xDraw (V 188 1)) := by rw [p2, if_neg (show ¬ (1 : Nat) = 20 by decide), if_pos rfl]
  have d2 : ∀ j, j ≠ 1 → drwV (drwV V) 188 j = V 188 j := fun j hj => by rw [drwV_v.2, if_neg hj, drwV_v.2, if_neg hj]
  have d1 : ∀ b, b ≠ 188 → drwV (drwV V) b = V b := fun b hb => by rw [drwV_v.1 b hb, drwV_v.1 b hb]
  have ds : drwV (drwV V) 188 1 = xDraw (xDraw (V 188 1)) := by
    rw [drwV_v.2, if_pos rfl, drwV_v.2, if_pos rfl]
  -- the wood behind it, by who won
  have go : ∀ {N : pMem}, (∀ b, b ≠ w → b ≠ w + 4 → N b = M2 b) → (∀ j, j ≠ 9 → N w j = M2 w j) → N w 9 = wonV V → (∀ l, l < 2 → N (w + 4) (6 + l) = V 196 l ∧ N (w + 4) (8 + l) = V 197 l ∧ N (w + 4) (10 + l) = V 198 l ∧ N (w + 4) (12 + l) = plV V 199 l ∧ N (w + 4) (16 + l) = V 200 l) → rW w N (plV V) ∧ N w 11 = M w 11 ∧ frC w l M N := by
    intro N n1 n2 n9 nT
    obtain ⟨h1, h2, h3, h4, ⟨t4, t5, t6, t7, t8, t9, t10⟩, h6⟩ := r2
    refine ⟨⟨?_, ?_, fun i hi => ?_, fun i j hi hj => ?_, ?_, fun l hl => ?_⟩, by rw [n2 11 (by decide)]; exact q11, frC_t f2 fun b h1 _ _ => n1 b (h1 0 (by decide)) (h1 4 (by decide))⟩
    · rw [n2 0 (by decide), h1, d2 2 (by decide), p2' 2 (by decide) (by decide)]
    · rw [n2 1 (by decide), n2 2 (by decide)]
      exact h2
    · rw [n2 1 (by decide), n2 2 (by decide), n1 (w + 1) (by omega) (by omega), p1 189 (by decide) (by decide), p1 190 (by decide) (by decide), p1 191 (by decide) (by decide), ← d1 189 (by decide), ← d1 190 (by decide), ← d1 191 (by decide)]
      exact h3 i hi
    · rw [n1 (w + 2) (by omega) (by omega), n1 (w + 3) (by omega) (by omega), p1 194 (by decide) (by decide), p1 195 (by decide) (by decide), ← d1 194 (by decide), ← d1 195 (by decide)]
      exact h4 i j hi hj
    · rw [n2 4 (by decide), n2 5 (by decide), n2 6 (by decide), n2 7 (by decide), n2 8 (by decide), n2 10 (by decide), n9, t4, t5, t6, t7, t8, t10, d2 3 (by decide), ds, d2 17 (by decide), d2 18 (by decide), d2 19 (by decide), d2 21 (by decide), p2' 3 (by decide) (by decide), p21, p2' 17 (by decide) (by decide), p2' 18 (by decide) (by decide), p2' 19 (by decide) (by decide), p20, p2' 21 (by decide) (by decide)]
      exact ⟨rfl, rfl, rfl, rfl, rfl, rfl, rfl⟩
    · rw [p1 196 (by decide) (by decide), p1 197 (by decide) (by decide), p1 198 (by decide) (by decide), p1 200 (by decide) (by decide)]
      exact nT l hl
  have T2 := r2.2.2.2.2.2
  rw [d1 196 (by decide), d1 197 (by decide), d1 198 (by decide), d1 199 (by decide), d1 200 (by decide)] at T2
  have won : ∀ {m : Nat} {M3 M4 : pMem} {u : Unit}, m < 2 → wonV V = kI (m : Nat) → M3 = aPut M2 w 9 (kI (m : Nat)) → D_235 w (kI 6) (M3 w 9) (kI 1) M3 u M4 → N = M4 → rW w N (plV V) ∧ N w 11 = M w 11 ∧ frC w l M N := by
    intro m M3 M4 u hm hw2 e3 h235 hN
    have q9 : M3 w 9 = kI (m : Nat) := by rw [e3, aPut_same]
    have em : (M3 w 9).toInt = (m : Nat) := by rw [q9, kI_toInt (by omega) (by omega)]
    have e4 := D_235_v (a := 6) (l := m) rfl em (by decide) hm h235
    have c3 : ∀ b, b ≠ w → M3 b = M2 b := fun b hb => by rw [e3]; funext j; exact aPut_cell hb
    rw [c3 (w + 4) (by omega)] at e4
    have ne : ¬ wonV V = kI (-1) := by
      rw [hw2, yk (by decide) (by decide), kI_toInt (by omega) (by omega)]
      omega
    have w4 : ∀ j, M4 w j = M3 w j := fun j => by rw [e4, aPut_cell (by omega)]
    refine go (fun b hb1 hb2 => ?_) (fun j hj => ?_) ?_ fun l hl => ?_
    · rw [hN, e4, ← c3 b hb1]
      funext j
      exact aPut_cell hb2
    · rw [hN, w4, e3, aPut_at hj]
    · rw [hN, w4, q9, hw2]
    · obtain ⟨z1, z2, z3, z4, z5⟩ := T2 l hl
      have row : ∀ i, N (w + 4) i = if i = 12 + m then M2 (w + 4) (12 + m) + kI 1 else M2 (w + 4) i := fun i => by
        rw [hN, e4, aPut_row, c3 (w + 4) (by omega)]
      rw [row, row, row, row, row, if_neg (by omega), if_neg (by omega), if_neg (by omega), if_neg (show ¬ 16 + l = 12 + m by omega), p3, if_neg ne, hw2, ix_of (kI_toInt (by omega) (by omega))]
      refine ⟨z1, z2, z3, ?_, z5⟩
      by_cases q : l = m
      · rw [if_pos (by omega), if_pos q, ← q, z4]
      · rw [if_neg (by omega), if_neg q]
        exact z4
  rcases hD with ⟨g, _, hN⟩ | ⟨g, hD⟩
  · have wv : wonV V = kI (-1) := by
      unfold wonV
      rw [if_pos (by rw [← a1, ← b1]; exact g)]
    refine go (fun b _ _ => by rw [hN]) (fun j _ => by rw [hN]) ?_ fun l hl => ?_
    · rw [hN, r2.2.2.2.2.1.2.2.2.2.2.1, d2 20 (by decide), h20, wv]
    · rw [hN, p3, if_pos wv]
      exact T2 l hl
  · have g' : ¬ scoV V (kI 0) = scoV (drwV V) (kI 1) := by rw [← a1, ← b1]; exact g
    rcases hD with ⟨g2, M3, e3, _, M4, h235, _, hN⟩ | ⟨g2, M3, e3, _, M4, h235, _, hN⟩
    · refine won (m := 1) (by decide) ?_ e3 h235 hN
      unfold wonV
      rw [if_neg g', if_pos (by rw [← a1, ← b1]; exact g2)]
      rfl
    · refine won (m := 0) (by decide) ?_ e3 h235 hN
      unfold wonV
      rw [if_neg g', if_neg (by rw [← a1, ← b1]; exact g2)]
      rfl
/-! likes, on the class's side -/
/-- couples with one ahead of i, or i and one ahead of j -/
def updP (i j a b : Nat) : Prop := a < i ∨ b < i ∨ (a = i ∧ b < j) ∨ (b = i ∧ a < j)
def updB (i j a b : Nat) : Bool := decide (a < i) || (decide (b < i) || ((decide (a = i) && decide (b < j)) || (decide (b = i) && decide (a < j))))
theorem updB_iff {i j a b : Nat} : updB i j a b = true ↔ updP i j a b := by
  unfold updB updP
  simp only [Bool.or_eq_true, Bool.and_eq_true, decide_eq_true_iff]
/-- the likes half way -/
def paV (V U : pMem) (i j : Nat) : pMem := aRow V 194 fun k => if k < 576 ∧ updB i j (k / 24) (k % 24) = true then U 194 k else V 194 k
theorem k24 {a b : Nat} (hb : b < 24) : (24 * a + b) / 24 = a ∧ (24 * a + b) % 24 = b := by omega
theorem paV_v {V U : pMem} {i j a b : Nat} (ha : a < 24) (hb : b < 24) : paV V U i j 194 (24 * a + b) = if updB i j a b = true then U 194 (24 * a + b) else V 194 (24 * a + b) := by
  obtain ⟨e1, e2⟩ := k24 (a := a) hb
  unfold paV
  rw [aRow_same', e1, e2]
  by_cases h : updB i j a b = true
  · rw [if_pos h, if_pos ⟨by omega, h⟩]
  · rw [if_neg h, if_neg (fun q => h q.2)]
theorem paV_c {V U : pMem} {i j b : Nat} (h : b ≠ 194) : paV V U i j b = V b := aRow_cell h
theorem likV_c {o : List Cd} {L : List Ln} {V : pMem} {b : Nat} (h : b ≠ 194) : likV o L V b = V b := aRow_cell h
theorem likV_v {o : List Cd} {L : List Ln} {V : pMem} {a b : Nat} (ha : a < 24) (hb : b < 24) : likV o L V 194 (24 * a + b) = if cpl V a b = true then adL (V 194 (24 * a + b)) (tl (FcV V a b) o (kI 14) L) else V 194 (24 * a + b) := by
  obtain ⟨e1, e2⟩ := k24 (a := a) hb
  unfold likV
  rw [aRow_same', e1, e2]
  by_cases h : cpl V a b = true
  · rw [if_pos h, if_pos ⟨by omega, h⟩]
  · rw [if_neg h, if_neg (fun q => h q.2)]
/-- rows that change the likes alone -/
theorem aV_194 {V U : pMem} (h : ∀ b, b ≠ 194 → U b = V b) (hl : ∀ a b, a < 24 → b < 24 → U 194 (24 * a + b) = V 194 (24 * a + b)) : agV V U := by
  refine ⟨?_, fun i _ => ?_, fun k hk => ?_, fun l _ => ?_⟩
  · rw [h 188 (by decide)]
    exact ⟨rfl, rfl, rfl, rfl, rfl, rfl, rfl, rfl⟩
  · rw [h 189 (by decide), h 190 (by decide), h 191 (by decide)]
    exact ⟨rfl, rfl, rfl⟩
  · rw [h 195 (by decide)]
    have := hl (k / 24) (k % 24) (by omega) (by omega)
    rw [show 24 * (k / 24) + k % 24 = k by omega] at this
    exact ⟨this, rfl⟩
  · rw [h 196 (by decide), h 197 (by decide), h 198 (by decide), h 199 (by decide), h 200 (by decide)]
    exact ⟨rfl, rfl, rfl, rfl, rfl⟩
theorem pa_next {V U : pMem} (hU : ∀ b, b ≠ 194 → U b = V b) {i j i' j' : Nat} (h : ∀ a b, a < 24 → b < 24 → U 194 (24 * a + b) = V 194 (24 * a + b) ∨ (updP i j a b ↔ updP i' j' a b)) : agV (paV V U i j) (paV V U i' j') := by
  refine aV_194 (fun b hb => by rw [paV_c hb, paV_c hb]) fun a b ha hb => ?_
  rw [paV_v ha hb, paV_v ha hb]
  rcases h a b ha hb with e | e
  · rw [e, ite_self, ite_self]
  · by_cases q : updP i j a b
    · rw [if_pos (updB_iff.mpr q), if_pos (updB_iff.mpr (e.mp q))]
    · rw [if_neg (fun r => q (updB_iff.mp r)), if_neg (fun r => q (e.mpr (updB_iff.mp r)))]
theorem rV_194 {V U : pMem} (h : rV V) (e : ∀ b, b ≠ 194 → U b = V b) : rV U := by
  obtain ⟨⟨n, n1, n2, n3⟩, h2, h3, h4⟩ := h
  exact ⟨⟨n, n1, by rw [e 188 (by decide)]; exact n2, by rw [e 191 (by decide)]; exact n3⟩, by rw [e 189 (by decide), e 191 (by decide)]; exact h2, by rw [e 195 (by decide)]; exact h3, by rw [e 196 (by decide)]; exact h4⟩
/-- one is asked of a couple -/
theorem D_142_v {w l : Nat} (hw : pK 10 w = true) (hl : pK 2 l = true) {M V : pMem} (hV : rV V) (h : rW w M V) {o : List Cd} {L : List Ln} (hc : cLk M l o L) {p3 p4 : Int32} {i j : Nat} (hi : p3.toInt = i) (hj : p4.toInt = j) (hi24 : i < 24) (hj24 : j < 24) {v N} (hD : D_142 w l p3 p4 M v N) : v = adL (lkV V i j) (tl (FcV V i j) o (kI 14) L) ∧ rW w N V ∧ frC w l M N ∧ N w 11 = M w 11 := by
  obtain ⟨_, M1, h166, v2, M2, h157, _, hv, hN⟩ := hD
  obtain ⟨a1, a2⟩ := D_166c_w hw hV h hi hj hi24 hj24 h166
  have r1 := rW_132 hw h a2
  have c1 := frC_law hw hl (frC_132 a2) hc
  obtain ⟨b1, b2⟩ := D_157_v hl (by decide) c1 a1 h157
  have r2 := rW_6 hw hl r1 b2
  have w0 : w ≠ 132 := by have := wCell hw 0 (by decide); omega
  have w6 : w ≠ l + 6 := fun e => lwCell hl hw 6 (by decide) 0 (by decide) e.symm
  rw [hv, hN]
  refine ⟨?_, r2, frC_t (frC_132 a2) (frC_6 b2), by rw [b2 w w6, a2 w w0]⟩
  rw [(ix24 hi hj hi24 hj24).1, b1, (r2.2.2.2.1 i j hi24 hj24).2]
  rfl
def q141 (w l : Nat) (M0 V U : pMem) (N : pMem) : Prop := rW w N U ∧ frC w l M0 N ∧ N w 11 = M0 w 11
theorem D_141_v {w l : Nat} (hw : pK 10 w = true) (hl : pK 2 l = true) {M V : pMem} (hV : rV V) (h : rW w M V) {o : List Cd} {L : List Ln} (hc : cLk M l o L) {v N} (hD : D_141 w l M v N) : q141 w l M V (likV o L V) N := by
  have hU : ∀ b, b ≠ 194 → likV o L V b = V b := fun b hb => likV_c hb
  have hp : ∀ i j, rV (paV V (likV o L V) i j) := fun i j => rV_194 hV fun b hb => paV_c hb
  have q := hD (fun x3 M' v N => ∀ i : Nat, x3.toInt = i → i ≤ 24 → rW w M' (paV V (likV o L V) i 0) → frC w l M M' → M' w 11 = M w 11 → q141 w l M V (likV o L V) N,
    fun x3 x4 M' v N => ∀ i j : Nat, x3.toInt = i → x4.toInt = j → i < 24 → i < j → j ≤ 24 → rW w M' (paV V (likV o L V) i j) → frC w l M M' → M' w 11 = M w 11 → q141 w l M V (likV o L V) N) ⟨?_, ?_⟩
  · refine q 0 rfl (Nat.zero_le _) (rW_cg h (aV_194 (fun b hb => paV_c hb) fun a b ha hb => ?_)) frC_r rfl
    rw [paV_v ha hb, if_neg]
    rw [updB_iff]
    unfold updP
    omega
  · intro x3 M' v N hs i hi hi24 hr hf h11
    rcases hs with ⟨g, _, hN⟩ | ⟨g, hs⟩
    · rw [i_le, hi, kI_toInt (by decide) (by decide)] at g
      rw [hN]
      refine ⟨rW_cg hr (aV_194 (fun b hb => by rw [paV_c hb, likV_c hb]) fun a b ha hb => ?_), hf, h11⟩
      rw [paV_v ha hb, if_pos]
      rw [updB_iff]
      unfold updP
      omega
    · rw [i_le, hi, kI_toInt (by decide) (by decide)] at g
      refine hs i (i + 1) hi (n_add1 hi (by omega)) (by omega) (by omega) (by omega) (rW_cg hr (pa_next hU fun a b ha hb => ?_)) hf h11
      by_cases e : a = i ∧ b = i
      · left
        rw [likV_v ha hb, if_neg]
        unfold cpl
        rw [decide_eq_true (show a = b by omega), Bool.not_true, Bool.false_and]
        decide
      · right
        unfold updP
        omega
  · intro x3 x4 M' v N hs i j hi hj hi24 hij hj24 hr hf h11
    have same : ∀ {a b : Nat}, a < 24 → b < 24 → cpl V a b = false → likV o L V 194 (24 * a + b) = V 194 (24 * a + b) := fun {a b} ha hb e => by
      rw [likV_v ha hb, e]
      rfl
    have cth : ∀ {a b k : Nat}, thV V k = false → (a = k ∨ b = k) → cpl V a b = false := fun {a b k} e q => by
      unfold cpl
      rcases q with rfl | rfl
      · rw [e, Bool.false_and, Bool.and_false]
      · rw [e, Bool.and_false, Bool.and_false]
    have th : ∀ k, thV (paV V (likV o L V) i j) k = thV V k := fun k => by
      unfold thV
      rw [paV_c (by decide)]
    rcases hs with ⟨g, hs⟩ | ⟨g, hs⟩
    · have g := (f37_th (hp i j) hr hi hi24).1.mp g
      rw [th] at g
      refine hs (i + 1) (n_add1 hi (by omega)) (by omega) (rW_cg hr (pa_next hU fun a b ha hb => ?_)) hf h11
      by_cases e : a = i ∨ b = i
      · exact Or.inl (same ha hb (cth g e))
      · right
        unfold updP
        omega
    · have g := (f37_th (hp i j) hr hi hi24).2.mp g
      rw [th] at g
      rcases hs with ⟨g2, hs⟩ | ⟨g2, hs⟩
      · rw [i_le, hj, kI_toInt (by decide) (by decide)] at g2
        refine hs (i + 1) (n_add1 hi (by omega)) (by omega) (rW_cg hr (pa_next hU fun a b ha hb => Or.inr ?_)) hf h11
        unfold updP
        omega
      · rw [i_le, hj, kI_toInt (by decide) (by decide)] at g2
        rcases hs with ⟨g3, hs⟩ | ⟨g3, v1, M1, h1, v2, M2, h2, _, M3, e3, _, M4, e4, hs⟩
        · have g3 := (f37_th (hp i j) hr hj (by omega)).1.mp g3
          rw [th] at g3
          refine hs i (j + 1) hi (n_add1 hj (by omega)) hi24 (by omega) (by omega) (rW_cg hr (pa_next hU fun a b ha hb => ?_)) hf h11
          by_cases e : a = j ∨ b = j
          · exact Or.inl (same ha hb (cth g3 e))
          · right
            unfold updP
            omega
        · have g3 := (f37_th (hp i j) hr hj (by omega)).2.mp g3
          rw [th] at g3
          have cy : cpl V i j = true ∧ cpl V j i = true := by
            unfold cpl
            rw [g, g3, decide_eq_false (by omega), decide_eq_false (by omega)]
            exact ⟨rfl, rfl⟩
          have lk : lkV (paV V (likV o L V) i j) i j = V 194 (24 * i + j) ∧ lkV (paV V (likV o L V) i j) j i = V 194 (24 * j + i) := by
            unfold lkV
            rw [paV_v hi24 (by omega), paV_v (by omega) hi24, if_neg, if_neg]
            · exact ⟨rfl, rfl⟩
            · rw [updB_iff]; unfold updP; omega
            · rw [updB_iff]; unfold updP; omega
          have fd : ∀ lot k, FdV (paV V (likV o L V) i j) lot k = FdV V lot k := fun lot k => by
            unfold FdV
            rw [paV_c (by decide)]
          have fc1 : FcV (paV V (likV o L V) i j) i j = FcV V i j := by
            funext k
            unfold FcV
            rw [lk.1, lk.2, paV_c (show 190 ≠ 194 by decide), paV_c (show 195 ≠ 194 by decide), paV_c (show 189 ≠ 194 by decide), fd]
            rfl
          have fc2 : FcV (paV V (likV o L V) i j) j i = FcV V j i := by
            funext k
            unfold FcV
            rw [lk.1, lk.2, paV_c (show 190 ≠ 194 by decide), paV_c (show 195 ≠ 194 by decide), paV_c (show 189 ≠ 194 by decide), fd]
            rfl
          have hc0 := frC_law hw hl hf hc
          obtain ⟨a1, a2, a3, a4⟩ := D_142_v hw hl (hp i j) hr hc0 hi hj hi24 (by omega) h1
          have hc1 := frC_law hw hl a3 hc0
          obtain ⟨b1, b2, b3, b4⟩ := D_142_v hw hl (hp i j) a2 hc1 hj hi (by omega) hi24 h2
          rw [fc1, lk.1] at a1
          rw [fc2, lk.2] at b1
          rw [(ix24 hi hj hi24 (by omega)).1] at e3
          rw [(ix24 hj hi (by omega) hi24).1] at e4
          have n4 : ∀ b, b ≠ w + 3 → M4 b = M2 b := fun b hb => by
            funext k
            rw [e4, aPut_cell hb, e3, aPut_cell hb]
          have r4 : ∀ k, M4 (w + 3) k = if k = 24 * j + i then v2 else if k = 24 * i + j then v1 else M2 (w + 3) k := fun k => by
            rw [e4, aPut_row, e3, aPut_row]
          have u1 : likV o L V 194 (24 * i + j) = v1 := by rw [likV_v hi24 (by omega), if_pos cy.1, a1]
          have u2 : likV o L V 194 (24 * j + i) = v2 := by rw [likV_v (by omega) hi24, if_pos cy.2, b1]
          have rn : rW w M4 (paV V (likV o L V) i (j + 1)) := by
            obtain ⟨z1, z2, z3, z4, z5, z6⟩ := b2
            have c : ∀ b, b ≠ 194 → paV V (likV o L V) i (j + 1) b = paV V (likV o L V) i j b := fun b hb => by rw [paV_c hb, paV_c hb]
            refine ⟨?_, ?_, fun a ha => ?_, fun a b ha hb => ?_, ?_, fun m hm => ?_⟩
            · rw [n4 w (by omega), c 188 (by decide)]
              exact z1
            · rw [n4 w (by omega)]
              exact z2
            · rw [n4 w (by omega), n4 (w + 1) (by omega), c 189 (by decide), c 190 (by decide), c 191 (by decide)]
              exact z3 a ha
            · rw [n4 (w + 2) (by omega), c 195 (by decide)]
              refine ⟨(z4 a b ha hb).1, ?_⟩
              rw [r4, paV_v ha hb]
              by_cases q1 : a = j ∧ b = i
              · rw [if_pos (by omega), if_pos (by rw [updB_iff]; unfold updP; omega), q1.1, q1.2, u2]
              · rw [if_neg (by omega)]
                by_cases q2 : a = i ∧ b = j
                · rw [if_pos (by omega), if_pos (by rw [updB_iff]; unfold updP; omega), q2.1, q2.2, u1]
                · rw [if_neg (by omega), (z4 a b ha hb).2, paV_v ha hb]
                  by_cases q : updP i j a b
                  · rw [if_pos (updB_iff.mpr q), if_pos (by rw [updB_iff]; unfold updP at q ⊢; omega)]
                  · rw [if_neg (fun r => q (updB_iff.mp r)), if_neg (by rw [updB_iff]; unfold updP at q ⊢; omega)]
            · rw [n4 w (by omega), c 188 (by decide)]
              exact z5
            · rw [n4 (w + 4) (by omega), c 196 (by decide), c 197 (by decide), c 198 (by decide), c 199 (by decide), c 200 (by decide)]
              exact z6 m hm
          have f4 : frC w l M M4 := frC_t hf (frC_t a3 (frC_t b3 fun b h1 _ _ => n4 b (h1 3 (by decide))))
          exact hs i (j + 1) hi (n_add1 hj (by omega)) hi24 (by omega) (by omega) rn f4 (by rw [n4 w (by omega), b4, a4]; exact h11)
/-! fights, home, names: the class -/
theorem fgV_v {o : List Cd} {L : List Ln} {l : Nat} {V : pMem} : (∀ b, b ≠ 188 → b ≠ 197 → b ≠ 198 → fgV o L l V b = V b) ∧ (∀ j, j ≠ 54 → j ≠ 55 → fgV o L l V 188 j = V 188 j) ∧
    fgV o L l V 188 54 = (if 0 < tl (FlV V (kI (l : Nat))) o (kI 15) L then V 188 54 ||| kI 1 <<< (kI (l : Nat) &&& 31) else V 188 54) ∧
    fgV o L l V 188 55 = (if 0 < tl (FlV V (kI (l : Nat))) o (kI 15) L then V 188 55 + h999 (tl (FlV V (kI (l : Nat))) o (kI 15) L) else V 188 55) ∧
    (∀ i, fgV o L l V 197 i = if 0 < tl (FlV V (kI (l : Nat))) o (kI 15) L ∧ i = l then V 197 l + kI 1 else V 197 i) ∧
    ∀ i, fgV o L l V 198 i = if 0 < tl (FlV V (kI (l : Nat))) o (kI 15) L ∧ i = l then V 198 l + h999 (tl (FlV V (kI (l : Nat))) o (kI 15) L) else V 198 i := by
  unfold fgV
  by_cases g : 0 < tl (FlV V (kI (l : Nat))) o (kI 15) L
  · rw [if_pos g, if_pos g, if_pos g]
    refine ⟨fun b h1 h2 h3 => ?_, fun j h1 h2 => ?_, ?_, ?_, fun i => ?_, fun i => ?_⟩
    · funext j
      rw [aPut_cell h1, aPut_cell h3, aPut_cell h2, aPut_cell h1]
    · rw [aPut_at h2, aPut_cell (by decide), aPut_cell (by decide), aPut_at h1]
    · rw [aPut_at (by decide), aPut_cell (by decide), aPut_cell (by decide), aPut_same]
    · rw [aPut_same]
    · rw [aPut_cell (by decide), aPut_cell (by decide), aPut_row, aPut_cell (by decide)]
      by_cases e : i = l
      · rw [if_pos e, if_pos ⟨g, e⟩]
      · rw [if_neg e, if_neg (fun q => e q.2)]
    · rw [aPut_cell (by decide), aPut_row, aPut_cell (by decide), aPut_cell (by decide)]
      by_cases e : i = l
      · rw [if_pos e, if_pos ⟨g, e⟩]
      · rw [if_neg e, if_neg (fun q => e q.2)]
  · rw [if_neg g, if_neg g, if_neg g]
    exact ⟨fun _ _ _ _ => rfl, fun _ _ _ => rfl, rfl, rfl, fun i => (if_neg (fun q => g q.1)).symm, fun i => (if_neg (fun q => g q.1)).symm⟩
theorem rV_fg {o : List Cd} {L : List Ln} {l : Nat} {V : pMem} (h : rV V) : rV (fgV o L l V) := rV_188 h (fun b h1 h2 => fgV_v.1 b (by omega) (by omega) (by omega)) (fgV_v.2.1 2 (by decide) (by decide))
theorem rV_fg0 {V : pMem} (h : rV V) : rV (fg0 V) := by
  unfold fg0
  exact rV_188 h (fun b h1 h2 => by funext j; rw [aPut_cell (by omega), aPut_cell (by omega)]) (by rw [aPut_at (by decide), aPut_at (by decide)])
theorem aV_fg0 {V : pMem} : agV V (fg0 V) := by
  have c : ∀ b, b ≠ 188 → fg0 V b = V b := fun b hb => by
    funext j
    unfold fg0
    rw [aPut_cell hb, aPut_cell hb]
  have d : ∀ j, j ≠ 54 → j ≠ 55 → fg0 V 188 j = V 188 j := fun j h1 h2 => by
    unfold fg0
    rw [aPut_at h2, aPut_at h1]
  refine ⟨⟨d 1 (by decide) (by decide), d 2 (by decide) (by decide), d 3 (by decide) (by decide), d 17 (by decide) (by decide), d 18 (by decide) (by decide), d 19 (by decide) (by decide), d 20 (by decide) (by decide), d 21 (by decide) (by decide)⟩, fun i _ => ?_, fun k _ => ?_, fun l _ => ?_⟩
  · rw [c 189 (by decide), c 190 (by decide), c 191 (by decide)]
    exact ⟨rfl, rfl, rfl⟩
  · rw [c 194 (by decide), c 195 (by decide)]
    exact ⟨rfl, rfl⟩
  · rw [c 196 (by decide), c 197 (by decide), c 198 (by decide), c 199 (by decide), c 200 (by decide)]
    exact ⟨rfl, rfl, rfl, rfl, rfl⟩
theorem mn999 {x : Int32} : pMnI x (kI 999) = h999 x := by
  unfold pMnI h999
  by_cases h : x ≤ kI 999
  · rw [if_pos h, if_neg]
    rw [i_lt]
    rw [i_le] at h
    omega
  · rw [if_neg h, if_pos]
    rw [i_lt]
    rw [i_le] at h
    omega
theorem lot_of {l : Nat} (hl : l < 2) : bo (kI (l : Nat)) ∧ (kI (l : Nat)).toInt = (l : Nat) := by
  have e : l = 0 ∨ l = 1 := by omega
  rcases e with rfl | rfl
  · exact ⟨Or.inl rfl, rfl⟩
  · exact ⟨Or.inr rfl, rfl⟩
theorem D_143_v {w l : Nat} (hw : pK 10 w = true) (hl : pK 2 l = true) {M V : pMem} (hV : rV V) (h : rW w M V) (h11 : M w 11 = V 188 54) {o : List Cd} {L : List Ln} (hc : cLk M l o L) {m : Nat} (hm : m < 2) {v N} (hD : D_143 w l (kI (m : Nat)) M v N) : rW w N (fgV o L m V) ∧ N w 11 = fgV o L m V 188 54 ∧ frC w l M N := by
  obtain ⟨bm, tm⟩ := lot_of hm
  obtain ⟨_, M1, h167, v2, M2, h157, hD⟩ := hD
  obtain ⟨a1, a2⟩ := D_167c_w hw hV h bm h167
  have r1 := rW_132 hw h a2
  obtain ⟨b1, b2⟩ := D_157_v hl (by decide) (frC_law hw hl (frC_132 a2) hc) a1 h157
  have r2 := rW_6 hw hl r1 b2
  have f2 : frC w l M M2 := frC_t (frC_132 a2) (frC_6 b2)
  have w0 : w ≠ 132 := by have := wCell hw 0 (by decide); omega
  have w6 : w ≠ l + 6 := fun e => lwCell hl hw 6 (by decide) 0 (by decide) e.symm
  have q11 : M2 w 11 = V 188 54 := by rw [b2 w w6, a2 w w0]; exact h11
  have tv : v2 = tl (FlV V (kI (m : Nat))) o (kI 15) L := b1
  obtain ⟨g1, g2, g3, g4, g5, g6⟩ := fgV_v (o := o) (L := L) (l := m) (V := V)
  rcases hD with ⟨g, _, hN⟩ | ⟨g, M3, e3, _, M4, ha, _, M5, hb, _, hN⟩
  · have ng : ¬ 0 < tl (FlV V (kI (m : Nat))) o (kI 15) L := by
      rw [← tv, i_lt, i_0]
      rw [i_le, i_0] at g
      omega
    have e : fgV o L m V = V := by
      unfold fgV
      rw [if_neg ng]
    rw [hN, e]
    exact ⟨r2, q11, f2⟩
  · have pg : 0 < tl (FlV V (kI (m : Nat))) o (kI 15) L := by
      rw [← tv, i_lt, i_0]
      rw [i_le, i_0] at g
      omega
    have c3 : ∀ b, b ≠ w → M3 b = M2 b := fun b hb => by rw [e3]; funext j; exact aPut_cell hb
    have e4 := D_235_v (a := 4) (l := m) rfl tm (by decide) hm ha
    have e5 := D_235_v (a := 5) (l := m) rfl tm (by decide) hm hb
    have c5 : ∀ b, b ≠ w → b ≠ w + 4 → M5 b = M2 b := fun b h1 h2 => by
      rw [← c3 b h1]
      funext j
      rw [e5, aPut_cell h2, e4, aPut_cell h2]
    have w5 : ∀ j, M5 w j = M3 w j := fun j => by rw [e5, aPut_cell (by omega), e4, aPut_cell (by omega)]
    have r5 : ∀ i, M5 (w + 4) i = if i = 10 + m then M2 (w + 4) (10 + m) + h999 v2 else if i = 8 + m then M2 (w + 4) (8 + m) + kI 1 else M2 (w + 4) i := fun i => by
      rw [e5, aPut_row, e4, aPut_row, aPut_row, c3 (w + 4) (by omega), mn999, if_neg (show ¬ 2 * 5 + m = 2 * 4 + m by omega)]
    obtain ⟨h1, h2, h3, h4, ⟨t4, t5, t6, t7, t8, t9, t10⟩, h6⟩ := r2
    have s5 : ∀ j, j ≠ 11 → M5 w j = M2 w j := fun j hj => by rw [w5, e3, aPut_at hj]
    rw [hN]
    refine ⟨⟨?_, ?_, fun i hi => ?_, fun i j hi hj => ?_, ?_, fun i hi => ?_⟩, ?_, frC_t f2 fun b z1 _ _ => c5 b (z1 0 (by decide)) (z1 4 (by decide))⟩
    · rw [s5 0 (by decide), g2 2 (by decide) (by decide)]
      exact h1
    · rw [s5 1 (by decide), s5 2 (by decide)]
      exact h2
    · rw [s5 1 (by decide), s5 2 (by decide), c5 (w + 1) (by omega) (by omega), g1 189 (by decide) (by decide) (by decide), g1 190 (by decide) (by decide) (by decide), g1 191 (by decide) (by decide) (by decide)]
      exact h3 i hi
    · rw [c5 (w + 2) (by omega) (by omega), c5 (w + 3) (by omega) (by omega), g1 194 (by decide) (by decide) (by decide), g1 195 (by decide) (by decide) (by decide)]
      exact h4 i j hi hj
    · rw [s5 4 (by decide), s5 5 (by decide), s5 6 (by decide), s5 7 (by decide), s5 8 (by decide), s5 9 (by decide), s5 10 (by decide), g2 3 (by decide) (by decide), g2 1 (by decide) (by decide), g2 17 (by decide) (by decide), g2 18 (by decide) (by decide), g2 19 (by decide) (by decide), g2 20 (by decide) (by decide), g2 21 (by decide) (by decide)]
      exact ⟨t4, t5, t6, t7, t8, t9, t10⟩
    · obtain ⟨z1, z2, z3, z4, z5⟩ := h6 i hi
      rw [r5, r5, r5, r5, r5, g1 196 (by decide) (by decide) (by decide), g1 199 (by decide) (by decide) (by decide), g1 200 (by decide) (by decide) (by decide), g5, g6,
        if_neg (show ¬ 6 + i = 10 + m by omega), if_neg (show ¬ 6 + i = 8 + m by omega), if_neg (show ¬ 8 + i = 10 + m by omega), if_neg (show ¬ 10 + i = 8 + m by omega), if_neg (show ¬ 12 + i = 10 + m by omega), if_neg (show ¬ 12 + i = 8 + m by omega), if_neg (show ¬ 16 + i = 10 + m by omega), if_neg (show ¬ 16 + i = 8 + m by omega)]
      by_cases q : i = m
      · subst q
        rw [if_pos rfl, if_pos rfl, if_pos ⟨pg, rfl⟩, if_pos ⟨pg, rfl⟩, z2, z3, ← tv]
        exact ⟨z1, rfl, rfl, z4, z5⟩
      · rw [if_neg (show ¬ 8 + i = 8 + m by omega), if_neg (show ¬ 10 + i = 10 + m by omega), if_neg (fun r => q r.2), if_neg (fun r => q r.2)]
        exact ⟨z1, z2, z3, z4, z5⟩
    · rw [w5, e3, aPut_same, q11, g3, if_pos pg]
/-! home -/
theorem hoV_v {o : List Cd} {L : List Ln} {V : pMem} : (∀ b, b ≠ 188 → b ≠ 191 → hoV o L V b = V b) ∧ (∀ j, j ≠ 57 → hoV o L V 188 j = V 188 j) ∧ hoV o L V 188 57 = kI (cN (goV o L V) 24 : Nat) ∧ ∀ i, hoV o L V 191 i = if i < 24 ∧ goV o L V i = true then kI 0 else V 191 i := by
  unfold hoV
  refine ⟨fun b h1 h2 => ?_, fun j hj => ?_, aPut_same, fun i => ?_⟩
  · funext j
    rw [aPut_cell h1, aRow_cell h2]
  · rw [aPut_at hj, aRow_cell (by decide)]
  · rw [aPut_cell (by decide), aRow_same']
theorem rV_ho {o : List Cd} {L : List Ln} {V : pMem} (h : rV V) : rV (hoV o L V) := by
  obtain ⟨v1, v2, v3, v4⟩ := hoV_v (o := o) (L := L) (V := V)
  obtain ⟨⟨n, n1, n2, n3⟩, h2, h3, h4⟩ := h
  refine ⟨⟨n, n1, by rw [v2 2 (by decide)]; exact n2, fun i a b => ?_⟩, fun i hi => ?_, by rw [v1 195 (by decide) (by decide)]; exact h3, by rw [v1 196 (by decide) (by decide)]; exact h4⟩
  · rw [v4, n3 i a b, kIz, ite_self]
  · rw [v1 189 (by decide) (by decide), v4]
    refine ⟨(h2 i hi).1, ?_⟩
    by_cases g : i < 24 ∧ goV o L V i = true
    · rw [if_pos g]
      exact Or.inl rfl
    · rw [if_neg g]
      exact (h2 i hi).2
theorem D_144_v {w l : Nat} (hw : pK 10 w = true) (hl : pK 2 l = true) {M V : pMem} (hV : rV V) (h : rW w M V) {o : List Cd} {L : List Ln} (hc : cLk M l o L) {v N} (hD : D_144 w l M v N) : rW w N (hoV o L V) ∧ N w 11 = M w 11 ∧ frC w l M N := by
  have w0 : w ≠ 132 := by have := wCell hw 0 (by decide); omega
  have w6 : w ≠ l + 6 := fun e => lwCell hl hw 6 (by decide) 0 (by decide) e.symm
  have q := hD (fun x3 x4 M' v N => ∀ i : Nat, x4.toInt = i → i ≤ 24 → (∀ k, bt x3 k = (decide (k < i) && goV o L V k)) → rW w M' V → M' w 11 = M w 11 → frC w l M M' → rW w N (hoV o L V) ∧ N w 11 = M w 11 ∧ frC w l M N) ?_
  · exact q 0 rfl (Nat.zero_le _) (fun k => by rw [bt_0]; rfl) h rfl frC_r
  · intro x3 x4 M' v N hs i hi hi24 hx hr h11 hf
    have g24 : ∀ k, 24 ≤ k → goV o L V k = goV o L V k := fun _ _ => rfl
    rcases hs with ⟨g, M1, e1, _, hN⟩ | ⟨g, hs⟩
    · rw [i_le, hi, kI_toInt (by decide) (by decide)] at g
      have ei : i = 24 := by omega
      subst ei
      have c1 : ∀ b, b ≠ w → M1 b = M' b := fun b hb => by rw [e1]; funext j; exact aPut_cell hb
      have d1 : ∀ j, j ≠ 2 → M1 w j = M' w j := fun j hj => by rw [e1, aPut_at hj]
      have s1 : M1 w 2 = M' w 2 &&& (x3 ^^^ kI (-1)) := by rw [e1, aPut_same]
      obtain ⟨h1, ⟨h2, h2'⟩, h3, h4, h5, h6⟩ := hr
      obtain ⟨v1, v2, v3, v4⟩ := hoV_v (o := o) (L := L) (V := V)
      rw [hN]
      refine ⟨⟨?_, ⟨?_, ?_⟩, fun k hk => ?_, fun a b ha hb => ?_, ?_, fun m hm => ?_⟩, by rw [d1 11 (by decide)]; exact h11, frC_t hf fun b z1 _ _ => c1 b (z1 0 (by decide))⟩
      · rw [d1 0 (by decide), v2 2 (by decide)]
        exact h1
      · rw [d1 1 (by decide)]
        exact h2
      · rw [s1]
        exact nb_and h2'
      · rw [d1 1 (by decide), s1, c1 (w + 1) (by omega), v1 189 (by decide) (by decide), v1 190 (by decide) (by decide), v4, bt_and, bt_not (by omega), hx, decide_eq_true hk]
        refine ⟨(h3 k hk).1, ?_, (h3 k hk).2.2⟩
        rw [(h3 k hk).2.1, Bool.true_and]
        cases e : goV o L V k with
        | true =>
          rw [if_pos ⟨hk, rfl⟩, Bool.not_true, Bool.and_false]
          decide
        | false =>
          rw [if_neg (fun q => by cases q.2), Bool.not_false, Bool.and_true]
      · rw [c1 (w + 2) (by omega), c1 (w + 3) (by omega), v1 194 (by decide) (by decide), v1 195 (by decide) (by decide)]
        exact h4 a b ha hb
      · rw [d1 4 (by decide), d1 5 (by decide), d1 6 (by decide), d1 7 (by decide), d1 8 (by decide), d1 9 (by decide), d1 10 (by decide), v2 3 (by decide), v2 1 (by decide), v2 17 (by decide), v2 18 (by decide), v2 19 (by decide), v2 20 (by decide), v2 21 (by decide)]
        exact h5
      · rw [c1 (w + 4) (by omega), v1 196 (by decide) (by decide), v1 197 (by decide) (by decide), v1 198 (by decide) (by decide), v1 199 (by decide) (by decide), v1 200 (by decide) (by decide)]
        exact h6 m hm
    · rw [i_le, hi, kI_toInt (by decide) (by decide)] at g
      have skip : goV o L V i = false → ∀ k, bt x3 k = (decide (k < i + 1) && goV o L V k) := fun e k => by
        rw [hx]
        by_cases q : k = i
        · rw [q, e, Bool.and_false, Bool.and_false]
        · by_cases r : k < i
          · rw [decide_eq_true r, decide_eq_true (show k < i + 1 by omega)]
          · rw [decide_eq_false r, decide_eq_false (show ¬ k < i + 1 by omega)]
      rcases hs with ⟨g2, hs⟩ | ⟨g2, _, M1, h168, v2, M2, h157, hs⟩
      · have g2 := (f37_th hV hr hi (by omega)).1.mp g2
        exact hs (i + 1) (n_add1 hi (by omega)) (by omega) (skip (by unfold goV; rw [g2]; rfl)) hr h11 hf
      · have g2 := (f37_th hV hr hi (by omega)).2.mp g2
        obtain ⟨a1, a2⟩ := D_168c_w hw hV hr hi (by omega) h168
        obtain ⟨b1, b2⟩ := D_157_v hl (by decide) (frC_law hw hl (frC_t hf (frC_132 a2)) hc) a1 h157
        have r2 := rW_6 hw hl (rW_132 hw hr a2) b2
        have f2 := frC_t hf (frC_t (frC_132 a2) (frC_6 b2))
        have q11 : M2 w 11 = M w 11 := by rw [b2 w w6, a2 w w0]; exact h11
        have tv : v2 = tl (FbV V i) o (kI 16) L := b1
        rcases hs with ⟨g3, hs⟩ | ⟨g3, hs⟩
        · refine hs (i + 1) (n_add1 hi (by omega)) (by omega) ?_ r2 q11 f2
          have e : goV o L V i = false := by
            unfold goV
            rw [decide_eq_false, Bool.and_false]
            rw [← tv, i_lt, i_0]
            rw [i_le, i_0] at g3
            omega
          intro k
          rw [bt_or, bt_0, Bool.or_false]
          exact skip e k
        · refine hs (i + 1) (n_add1 hi (by omega)) (by omega) ?_ r2 q11 f2
          have e : goV o L V i = true := by
            unfold goV
            rw [g2, decide_eq_true]
            · rfl
            · rw [← tv, i_lt, i_0]
              rw [i_le, i_0] at g3
              omega
          intro k
          rw [bt_or, bt_sh hi (by omega), hx]
          by_cases q : k = i
          · rw [q, e, decide_eq_true rfl, decide_eq_true (show i < i + 1 by omega), Bool.or_true]
            rfl
          · rw [decide_eq_false q, Bool.or_false]
            by_cases r : k < i
            · rw [decide_eq_true r, decide_eq_true (show k < i + 1 by omega)]
            · rw [decide_eq_false r, decide_eq_false (show ¬ k < i + 1 by omega)]
/-! names -/
theorem naV_v {o : List Cd} {L : List Ln} {l : Nat} {V : pMem} : (∀ b, b ≠ 188 → b ≠ 196 → naV o L l V b = V b) ∧ (∀ j, j ≠ 56 → naV o L l V 188 j = V 188 j) ∧ (∀ i, naV o L l V 196 i = if (V 196 l = 0 ∧ 0 < tl (FlV V (kI (l : Nat))) o (kI 17) L) ∧ i = l then V 188 3 + kI 1 else V 196 i) ∧ naV o L l V 188 56 = if V 196 l = 0 ∧ 0 < tl (FlV V (kI (l : Nat))) o (kI 17) L then V 188 56 + kI 1 else V 188 56 := by
  unfold naV
  by_cases g : V 196 l = 0 ∧ 0 < tl (FlV V (kI (l : Nat))) o (kI 17) L
  · rw [if_pos g, if_pos g]
    refine ⟨fun b h1 h2 => ?_, fun j hj => ?_, fun i => ?_, aPut_same⟩
    · funext j
      rw [aPut_cell h1, aPut_cell h2]
    · rw [aPut_at hj, aPut_cell (by decide)]
    · rw [aPut_cell (by decide), aPut_row]
      by_cases e : i = l
      · rw [if_pos e, if_pos ⟨g, e⟩]
      · rw [if_neg e, if_neg (fun q => e q.2)]
  · rw [if_neg g, if_neg g]
    exact ⟨fun _ _ _ => rfl, fun _ _ => rfl, fun i => (if_neg (fun q => g q.1)).symm, rfl⟩
theorem rV_na {o : List Cd} {L : List Ln} {l : Nat} {V : pMem} (h : rV V) (hd : 0 ≤ (V 188 3).toInt ∧ (V 188 3).toInt ≤ 100000) : rV (naV o L l V) := by
  obtain ⟨v1, v2, v3, v4⟩ := naV_v (o := o) (L := L) (l := l) (V := V)
  obtain ⟨⟨n, n1, n2, n3⟩, h2, h3, h4⟩ := h
  refine ⟨⟨n, n1, by rw [v2 2 (by decide)]; exact n2, by rw [v1 191 (by decide) (by decide)]; exact n3⟩, by rw [v1 189 (by decide) (by decide), v1 191 (by decide) (by decide)]; exact h2, by rw [v1 195 (by decide) (by decide)]; exact h3, fun i hi => ?_⟩
  rw [v3]
  by_cases g : (V 196 l = 0 ∧ 0 < tl (FlV V (kI (l : Nat))) o (kI 17) L) ∧ i = l
  · rw [if_pos g, i_add1 (by omega)]
    omega
  · rw [if_neg g]
    exact h4 i hi
theorem aV_na0 {V : pMem} : agV V (na0 V) := by
  have c : ∀ b, b ≠ 188 → na0 V b = V b := fun b hb => by
    funext j
    unfold na0
    rw [aPut_cell hb]
  have d : ∀ j, j ≠ 56 → na0 V 188 j = V 188 j := fun j h1 => by
    unfold na0
    rw [aPut_at h1]
  refine ⟨⟨d 1 (by decide), d 2 (by decide), d 3 (by decide), d 17 (by decide), d 18 (by decide), d 19 (by decide), d 20 (by decide), d 21 (by decide)⟩, fun i _ => ?_, fun k _ => ?_, fun l _ => ?_⟩
  · rw [c 189 (by decide), c 190 (by decide), c 191 (by decide)]
    exact ⟨rfl, rfl, rfl⟩
  · rw [c 194 (by decide), c 195 (by decide)]
    exact ⟨rfl, rfl⟩
  · rw [c 196 (by decide), c 197 (by decide), c 198 (by decide), c 199 (by decide), c 200 (by decide)]
    exact ⟨rfl, rfl, rfl, rfl, rfl⟩
theorem D_145_v {w l : Nat} (hw : pK 10 w = true) (hl : pK 2 l = true) {M V : pMem} (hV : rV V) (h : rW w M V) (h19 : V 188 19 = V 188 3) {o : List Cd} {L : List Ln} (hc : cLk M l o L) {m : Nat} (hm : m < 2) {v N} (hD : D_145 w l (kI (m : Nat)) M v N) : rW w N (naV o L m V) ∧ N w 11 = M w 11 ∧ frC w l M N := by
  obtain ⟨bm, tm⟩ := lot_of hm
  obtain ⟨_, M1, h167, hD⟩ := hD
  obtain ⟨a1, a2⟩ := D_167c_w hw hV h bm h167
  have r1 := rW_132 hw h a2
  have w0 : w ≠ 132 := by have := wCell hw 0 (by decide); omega
  have w6 : w ≠ l + 6 := fun e => lwCell hl hw 6 (by decide) 0 (by decide) e.symm
  have ge := hV.2.2.2 m hm
  have n1 : M1 (w + 4) (ix (kI 6 + kI (m : Nat))) = V 196 m := by
    rw [ix_of (n := 6 + m) (by rw [i_add (by rw [tm, kI_toInt (by decide) (by decide)]; omega) (by rw [tm, kI_toInt (by decide) (by decide)]; omega), tm, kI_toInt (by decide) (by decide)]; omega)]
    exact (r1.2.2.2.2.2 m hm).1
  have fz : f_237 w (kI (m : Nat)) M1 = 0 ↔ V 196 m = 0 := by
    unfold f_237
    rw [n1]
    by_cases q : V 196 m ≤ 0
    · rw [if_pos q]
      rw [i_le, i_0] at q
      exact ⟨fun _ => by rw [i_eq, i_0]; omega, fun _ => rfl⟩
    · rw [if_neg q]
      rw [i_le, i_0] at q
      exact ⟨fun r => absurd r (by decide), fun r => by rw [r, i_0] at q; omega⟩
  rcases hD with ⟨g, _, hN⟩ | ⟨g, v2, M2, h157, hD⟩
  · have e : naV o L m V = V := by
      unfold naV
      rw [if_neg (fun q => g (fz.mpr q.1))]
    rw [hN, e]
    exact ⟨r1, by rw [a2 w w0], frC_132 a2⟩
  · have z0 := fz.mp (Classical.not_not.mp g)
    obtain ⟨b1, b2⟩ := D_157_v hl (by decide) (frC_law hw hl (frC_132 a2) hc) a1 h157
    have r2 := rW_6 hw hl r1 b2
    have f2 : frC w l M M2 := frC_t (frC_132 a2) (frC_6 b2)
    have q11 : M2 w 11 = M w 11 := by rw [b2 w w6, a2 w w0]
    have tv : v2 = tl (FlV V (kI (m : Nat))) o (kI 17) L := b1
    rcases hD with ⟨g2, _, hN⟩ | ⟨g2, _, M3, h235, _, hN⟩
    · have e : naV o L m V = V := by
        unfold naV
        rw [if_neg]
        rintro ⟨_, q⟩
        rw [← tv, i_lt, i_0] at q
        rw [i_le, i_0] at g2
        omega
      rw [hN, e]
      exact ⟨r2, q11, f2⟩
    · have pg : V 196 m = 0 ∧ 0 < tl (FlV V (kI (m : Nat))) o (kI 17) L := ⟨z0, by
        rw [← tv, i_lt, i_0]
        rw [i_le, i_0] at g2
        omega⟩
      have e3 := D_235_v (a := 3) (l := m) rfl tm (by decide) hm h235
      obtain ⟨h1, h2, h3, h4, h5, h6⟩ := r2
      obtain ⟨v1, v2', v3, v4⟩ := naV_v (o := o) (L := L) (l := m) (V := V)
      have c3 : ∀ b, b ≠ w + 4 → M3 b = M2 b := fun b hb => by rw [e3]; funext j; exact aPut_cell hb
      have row : ∀ i, M3 (w + 4) i = if i = 6 + m then V 188 3 + kI 1 else M2 (w + 4) i := fun i => by
        rw [e3, aPut_row, show 2 * 3 + m = 6 + m by omega, (h6 m hm).1, z0, h5.2.2.2.2.1, h19, Int32.zero_add]
      rw [hN]
      refine ⟨⟨?_, ?_, fun i hi => ?_, fun i j hi hj => ?_, ?_, fun i hi => ?_⟩, by rw [c3 w (by omega)]; exact q11, frC_t f2 fun b z1 _ _ => c3 b (z1 4 (by decide))⟩
      · rw [c3 w (by omega), v2' 2 (by decide)]
        exact h1
      · rw [c3 w (by omega)]
        exact h2
      · rw [c3 w (by omega), c3 (w + 1) (by omega), v1 189 (by decide) (by decide), v1 190 (by decide) (by decide), v1 191 (by decide) (by decide)]
        exact h3 i hi
      · rw [c3 (w + 2) (by omega), c3 (w + 3) (by omega), v1 194 (by decide) (by decide), v1 195 (by decide) (by decide)]
        exact h4 i j hi hj
      · rw [c3 w (by omega), v2' 3 (by decide), v2' 1 (by decide), v2' 17 (by decide), v2' 18 (by decide), v2' 19 (by decide), v2' 20 (by decide), v2' 21 (by decide)]
        exact h5
      · obtain ⟨z1, z2, z3, z4, z5⟩ := h6 i hi
        rw [row, row, row, row, row, v3, v1 197 (by decide) (by decide), v1 198 (by decide) (by decide), v1 199 (by decide) (by decide), v1 200 (by decide) (by decide), if_neg (show ¬ 8 + i = 6 + m by omega), if_neg (show ¬ 10 + i = 6 + m by omega), if_neg (show ¬ 12 + i = 6 + m by omega), if_neg (show ¬ 16 + i = 6 + m by omega)]
        refine ⟨?_, z2, z3, z4, z5⟩
        by_cases q : i = m
        · rw [if_pos (by omega), if_pos ⟨pg, q⟩]
        · rw [if_neg (by omega), if_neg (fun r => q r.2)]
          exact z1
/-! the whole day -/
theorem rV_lik {o : List Cd} {L : List Ln} {V : pMem} (h : rV V) : rV (likV o L V) := rV_194 h fun b hb => likV_c hb
/-- what the steps leave of the days -/
theorem st3 {o : List Cd} {L : List Ln} {k p wr : Int32} {V : pMem} : stV o L k p wr V 188 3 = V 188 3 ∧ stV o L k p wr V 188 17 = k := by
  have a : ∀ j, j = 3 ∨ j = 17 → stV o L k p wr V 188 j = bgV k p wr V 188 j := fun j hj => by
    unfold stV
    rw [naV_v.2.1 j (by omega), naV_v.2.1 j (by omega)]
    show na0 _ 188 j = _
    unfold na0
    rw [aPut_at (by omega), hoV_v.2.1 j (by omega), fgV_v.2.1 j (by omega) (by omega), fgV_v.2.1 j (by omega) (by omega)]
    unfold fg0
    rw [aPut_at (by omega), aPut_at (by omega), likV_c (by decide)]
    by_cases g : k = kI 1
    · rw [if_pos g, plV_v.2.1, if_neg (by omega), if_neg (by omega)]
    · rw [if_neg g]
  rw [a 3 (Or.inl rfl), a 17 (Or.inr rfl), bgV_v.2.1, bgV_v.2.1, bg0_v.2, bg0_v.2]
  exact ⟨rfl, rfl⟩
theorem D_138_v {w l : Nat} (hw : pK 10 w = true) (hl : pK 2 l = true) {M V : pMem} (hV : rV V) (h : rW w M V) (hd : 0 ≤ (V 188 3).toInt ∧ (V 188 3).toInt ≤ 100000) {o : List Cd} {L : List Ln} (hc : cLk M l o L) {p3 p4 p5 : Int32} (hp : p5 = kI (-1) ∨ bo p5) {v N} (hD : D_138 w l p3 p4 p5 M v N) :
    rV (dyV (stV o L p3 p4 p5 V)) ∧ rW w N (dyV (stV o L p3 p4 p5 V)) ∧ v = f_239 (stV o L p3 p4 p5 V 188 54) ∧ N w 11 = stV o L p3 p4 p5 V 188 54 ∧ frC w l M N := by
  obtain ⟨_, M1, h139, hD⟩ := hD
  obtain ⟨a1, a2, a3⟩ := D_139_v (l := l) hw h hp h139
  have agV' := rV_bg (k := p3) (p := p4) (wr := p5) hV
  have b20 : bgV p3 p4 p5 V 188 20 = kI (-1) := by rw [bgV_v.2.1, bg0_v.2]; rfl
  have b19 : bgV p3 p4 p5 V 188 19 = V 188 3 := by rw [bgV_v.2.1, bg0_v.2]; rfl
  have b3 : bgV p3 p4 p5 V 188 3 = V 188 3 := by rw [bgV_v.2.1, bg0_v.2]; rfl
  -- from the likes on
  have tail : ∀ {M2 W : pMem}, rV W → rW w M2 W → M2 w 11 = kI 0 → frC w l M M2 → W 188 19 = V 188 3 → W 188 3 = V 188 3 → (tCall (D_141 w l M2) fun _ M3 => tCall (D_143 w l (kI 0) M3) fun _ M4 => tCall (D_143 w l (kI 1) M4) fun _ M5 => tCall (D_144 w l M5) fun _ M6 => tCall (D_145 w l (kI 0) M6) fun _ M7 => tCall (D_145 w l (kI 1) M7) fun _ M8 => tPut (aPut M8 w 4 ((M8 w 4) + (kI 1))) fun M9 => tRet (f_239 (M9 w 11)) M9) v N →
      ∀ U, U = naV o L 1 (naV o L 0 (na0 (hoV o L (fgV o L 1 (fgV o L 0 (fg0 (likV o L W))))))) → rV (dyV U) ∧ rW w N (dyV U) ∧ v = f_239 (U 188 54) ∧ N w 11 = U 188 54 ∧ frC w l M N := by
    intro M2 W wV wR w11 wf w19 w3 hD U hU
    obtain ⟨_, M3, h141, _, M4, h143, _, M5, h143b, _, M6, h144, _, M7, h145, _, M8, h145b, M9, e9, hv, hN⟩ := hD
    obtain ⟨c1, c2, c3⟩ := D_141_v hw hl wV wR (frC_law hw hl wf hc) h141
    have cV := rV_lik (o := o) (L := L) wV
    have f3 := frC_t wf c2
    have d0 : M3 w 11 = fg0 (likV o L W) 188 54 := by
      rw [c3, w11]
      unfold fg0
      rw [aPut_at (by decide), aPut_same]
    obtain ⟨d1, d2, d3⟩ := D_143_v hw hl (rV_fg0 cV) (rW_cg c1 aV_fg0) d0 (frC_law hw hl f3 hc) (m := 0) (by decide) h143
    have dV := rV_fg (o := o) (L := L) (l := 0) (rV_fg0 cV)
    have f4 := frC_t f3 d3
    obtain ⟨g1, g2, g3⟩ := D_143_v hw hl dV d1 d2 (frC_law hw hl f4 hc) (m := 1) (by decide) h143b
    have gV := rV_fg (o := o) (L := L) (l := 1) dV
    have f5 := frC_t f4 g3
    obtain ⟨i1, i2, i3⟩ := D_144_v hw hl gV g1 (frC_law hw hl f5 hc) h144
    have iV := rV_ho (o := o) (L := L) gV
    have f6 := frC_t f5 i3
    have nV := rV_cg iV (aV_na0 (V := hoV o L (fgV o L 1 (fgV o L 0 (fg0 (likV o L W))))))
    have k : ∀ j, j = 19 ∨ j = 3 → na0 (hoV o L (fgV o L 1 (fgV o L 0 (fg0 (likV o L W))))) 188 j = W 188 j := fun j hj => by
      unfold na0
      rw [aPut_at (by omega), hoV_v.2.1 j (by omega), fgV_v.2.1 j (by omega) (by omega), fgV_v.2.1 j (by omega) (by omega)]
      unfold fg0
      rw [aPut_at (by omega), aPut_at (by omega), likV_c (by decide)]
    have k19 := (k 19 (Or.inl rfl)).trans w19
    have k3 := (k 3 (Or.inr rfl)).trans w3
    obtain ⟨j1, j2, j3⟩ := D_145_v hw hl nV (rW_cg i1 aV_na0) (k19.trans k3.symm) (frC_law hw hl f6 hc) (m := 0) (by decide) h145
    have jV := rV_na (o := o) (L := L) (l := 0) nV (by rw [k3]; exact hd)
    have f7 := frC_t f6 j3
    have l19 : naV o L 0 (na0 (hoV o L (fgV o L 1 (fgV o L 0 (fg0 (likV o L W)))))) 188 19 = V 188 3 := by rw [naV_v.2.1 19 (by decide)]; exact k19
    have l3 : naV o L 0 (na0 (hoV o L (fgV o L 1 (fgV o L 0 (fg0 (likV o L W)))))) 188 3 = V 188 3 := by rw [naV_v.2.1 3 (by decide)]; exact k3
    obtain ⟨m1, m2, m3⟩ := D_145_v hw hl jV j1 (l19.trans l3.symm) (frC_law hw hl f7 hc) (m := 1) (by decide) h145b
    have mV := rV_na (o := o) (L := L) (l := 1) jV (by rw [l3]; exact hd)
    have f8 := frC_t f7 m3
    rw [← hU] at m1 mV
    have u54 : M8 w 11 = U 188 54 := by
      rw [m2, j2, i2, g2, hU, naV_v.2.1 54 (by decide), naV_v.2.1 54 (by decide)]
      unfold na0
      rw [aPut_at (by decide), hoV_v.2.1 54 (by decide)]
    have q11 : M9 w 11 = U 188 54 := by rw [e9, aPut_at (by decide)]; exact u54
    have dy : ∀ b, b ≠ 188 → dyV U b = U b := fun b hb => by
      funext j
      unfold dyV
      exact aPut_cell hb
    have dy8 : ∀ j, dyV U 188 j = if j = 3 then U 188 3 + kI 1 else U 188 j := fun j => by
      unfold dyV
      exact aPut_row
    rw [hv, hN]
    refine ⟨rV_188 mV (fun b h1 h2 => dy b (by omega)) (by rw [dy8]; rfl), ?_, by rw [q11], q11, frC_t f8 (by rw [e9]; exact frC_p ⟨0, by decide, rfl⟩)⟩
    obtain ⟨z1, z2, z3, z4, ⟨t4, t5, t6, t7, t8, t9, t10⟩, z6⟩ := m1
    have c9 : ∀ b, b ≠ w → M9 b = M8 b := fun b hb => by rw [e9]; funext j; exact aPut_cell hb
    have n9 : ∀ j, j ≠ 4 → M9 w j = M8 w j := fun j hj => by rw [e9, aPut_at hj]
    refine ⟨?_, ?_, fun i hi => ?_, fun i j hi hj => ?_, ?_, fun i hi => ?_⟩
    · rw [n9 0 (by decide), dy8]
      exact z1
    · rw [n9 1 (by decide), n9 2 (by decide)]
      exact z2
    · rw [n9 1 (by decide), n9 2 (by decide), c9 (w + 1) (by omega), dy 189 (by decide), dy 190 (by decide), dy 191 (by decide)]
      exact z3 i hi
    · rw [c9 (w + 2) (by omega), c9 (w + 3) (by omega), dy 194 (by decide), dy 195 (by decide)]
      exact z4 i j hi hj
    · rw [n9 5 (by decide), n9 6 (by decide), n9 7 (by decide), n9 8 (by decide), n9 9 (by decide), n9 10 (by decide), dy8, dy8, dy8, dy8, dy8, dy8, dy8, e9, aPut_same, t4]
      exact ⟨rfl, t5, t6, t7, t8, t9, t10⟩
    · rw [c9 (w + 4) (by omega), dy 196 (by decide), dy 197 (by decide), dy 198 (by decide), dy 199 (by decide), dy 200 (by decide)]
      exact z6 i hi
  rcases hD with ⟨g, hD⟩ | ⟨g, _, M2, h140, hD⟩
  · exact tail agV' a1 a2 a3 b19 b3 hD (stV o L p3 p4 p5 V) (by unfold stV; rw [if_neg g])
  · have g := Classical.not_not.mp g
    obtain ⟨d1, d2, d3⟩ := D_140_v (l := l) hw agV' a1 b20 h140
    have q : ∀ j, j = 19 ∨ j = 3 → plV (bgV p3 p4 p5 V) 188 j = bgV p3 p4 p5 V 188 j := fun j hj => by rw [plV_v.2.1, if_neg (by omega), if_neg (by omega)]
    exact tail (rV_pl agV') d1 (d2.trans a2) (frC_t a3 d3) ((q 19 (Or.inl rfl)).trans b19) ((q 3 (Or.inr rfl)).trans b3) hD (stV o L p3 p4 p5 V) (by unfold stV; rw [if_pos g])
