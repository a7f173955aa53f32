/-! knowing, a new boy -/
theorem bt_set {x p : Int32} {j k : Nat} (hp : p.toInt = j) (hj : j < 24) (hk : k < 24) : bt (x ||| (kI 1 <<< (p &&& 31))) k = if k = j then true else bt x k := by
  rw [bt_or, bt_sh hp (by omega)]
  by_cases e : k = j
  · rw [if_pos e, decide_eq_true e, Bool.or_true]
  · rw [if_neg e, decide_eq_false e, Bool.or_false]
theorem bt_clr {x p : Int32} {j k : Nat} (hp : p.toInt = j) (hj : j < 24) (hk : k < 24) : bt (x &&& ((kI 1 <<< (p &&& 31)) ^^^ kI (-1))) k = if k = j then false else bt x k := by
  rw [bt_and, bt_not (by omega), bt_sh hp (by omega)]
  by_cases e : k = j
  · rw [if_pos e, decide_eq_true e, Bool.not_true, Bool.and_false]
  · rw [if_neg e, decide_eq_false e, Bool.not_false, Bool.and_true]
theorem rT_know {M V : pMem} (h : rT 18 M V) {i j : Nat} (hi : i < 24) (hj : j < 24) {x y : Int32} {b : Bool} (hx : ∀ k, k < 24 → bt x k = if k = j then b else bt (M 21 i) k) (hy : y = if b = true then kI 1 else kI 0) : rT 18 (aPut M 21 i x) (aPut V 195 (24 * i + j) y) := by
  obtain ⟨⟨h1, h2, h3⟩, ⟨h5, h6⟩, _, _, h9⟩ := id h
  have h5 : rW 19 M V := h5
  have h6 : rLo 19 M V := h6
  have by' : bo y := by
    rw [hy]
    cases b
    · exact Or.inl rfl
    · exact Or.inr rfl
  obtain ⟨a1, a2, a3, a4⟩ := h1
  refine rT_w h ⟨⟨?_, ?_, fun k hk => ?_, ?_⟩, rVl_c h2 (aPut_cell (by decide)) (apR (by decide)) (apR (by decide)) (apR (by decide)), by rw [aPut_cell (by decide)]; exact h3⟩
    ⟨?_, rLo_c h6 (aPut_cell (by decide)) (apR (by decide))⟩ (apR (by decide)) (apR (by decide)) (fun b _ _ => apR (by omega)) (fun b _ _ => apR (by omega)) (rOt_c h9 (aPut_cell (by decide)) (aPut_cell (by decide)) (apR (by decide)) (apR (by decide)) (aPut_cell (by decide)) (aPut_cell (by decide)) (apR (by decide)) (apR (by decide)) (apR (by decide)))
  · unfold rNb at a1 ⊢
    rw [aPut_cell (by decide), apR (by decide)]
    exact a1
  · rw [apR (by decide), apR (by decide)]
    exact a2
  · rw [aPut_row]
    by_cases e : k = 24 * i + j
    · rw [if_pos e]; exact by'
    · rw [if_neg e]; exact a3 k hk
  · rw [apR (by decide)]
    exact a4
  obtain ⟨w1, w2, w3, w4, w5, w6⟩ := h5
  refine ⟨by rw [aPut_cell (by decide), aPut_cell (by decide)]; exact w1, by rw [aPut_cell (by decide), aPut_cell (by decide)]; exact w2, fun i hi => ?_, fun i' j' hi' hj' => ?_, ?_, fun l hl => ?_⟩
  · rw [aPut_cell (by decide), aPut_cell (by decide), aPut_cell (by decide), aPut_cell (by decide), aPut_cell (by decide), aPut_cell (by decide)]
    exact w3 i hi
  · obtain ⟨q1, q2⟩ := w4 i' j' hi' hj'
    have q1 : bt (M 21 i') j' = decide (V 195 (24 * i' + j') = kI 1) := q1
    refine ⟨?_, by rw [aPut_cell (by decide), aPut_cell (by decide)]; exact q2⟩
    show bt (aPut M 21 i x 21 i') j' = decide (aPut V 195 (24 * i + j) y 195 (24 * i' + j') = kI 1)
    rw [aPut_row, aPut_row]
    by_cases e : i' = i
    · subst e
      by_cases f : j' = j
      · subst f
        rw [if_pos rfl, if_pos rfl, hx _ hj', if_pos rfl, hy]
        cases b <;> decide
      · rw [if_pos rfl, if_neg (show ¬ 24 * i' + j' = 24 * i' + j by omega), hx _ hj', if_neg f]
        exact q1
    · rw [if_neg e, if_neg (show ¬ 24 * i' + j' = 24 * i + j by omega)]
      exact q1
  · rw [aPut_cell (by decide), aPut_cell (by decide), aPut_cell (by decide), aPut_cell (by decide), aPut_cell (by decide), aPut_cell (by decide), aPut_cell (by decide), aPut_cell (by decide), aPut_cell (by decide), aPut_cell (by decide), aPut_cell (by decide), aPut_cell (by decide), aPut_cell (by decide), aPut_cell (by decide)]
    exact w5
  · rw [apR (by decide), apR (by decide), apR (by decide), apR (by decide), apR (by decide), apR (by decide)]
    exact w6 l hl
theorem bt_boy {x p m : Int32} {n i : Nat} (hm : m.toInt = n) (hn : n < 24) (hp : p = 0 ∨ p = kI 1) : bt (x ||| (p <<< (m &&& 31))) i = (bt x i || (decide (p = kI 1) && decide (i = n))) := by
  rw [bt_or]
  rcases hp with rfl | rfl
  · rw [show ((0 : Int32) <<< (m &&& 31)) = kI 0 from sh_0, bt_0, show decide ((0 : Int32) = kI 1) = false by decide, Bool.false_and]
  · rw [bt_sh hm (by omega), show decide (kI 1 = kI 1) = true by decide, Bool.true_and]
theorem rT_boy {M V N U : pMem} (h : rT 18 M V) {n : Nat} {p q : Int32} (hn : (V 188 2).toInt = n) (hn24 : n < 24) (hp : p = 0 ∨ p = kI 1)
    (c0 : N 19 0 = M 19 0 + kI 1) (c1 : N 19 1 = M 19 1 ||| (p <<< (M 19 0 &&& 31))) (c2 : N 19 2 = M 19 2 ||| (kI 1 <<< (M 19 0 &&& 31))) (c3 : N 19 3 = M 19 3 ||| (kI 1 <<< (M 19 0 &&& 31))) (c4 : ∀ j, 4 ≤ j → N 19 j = M 19 j) (c20 : ∀ i, N 20 i = if i = n then q else M 20 i) (cb : ∀ b, 18 ≤ b → b < 74 → b ≠ 19 → b ≠ 20 → N b = M b)
    (d2 : U 188 2 = V 188 2 + kI 1) (d : ∀ j, 1 ≤ j → j ≠ 2 → U 188 j = V 188 j) (d189 : ∀ i, U 189 i = if i = n then p else V 189 i) (d190 : ∀ i, U 190 i = if i = n then q else V 190 i) (d191 : ∀ i, U 191 i = if i = n then kI 1 else V 191 i) (d192 : ∀ i, U 192 i = if i = n then kI 1 else V 192 i) (db : ∀ b, 193 ≤ b → b ≤ 227 → U b = V b) : rT 18 N U := by
  obtain ⟨⟨h1, h2, h3⟩, ⟨h5, h6⟩, _, _, h9⟩ := id h
  have h5 : rW 19 M V := h5
  have h6 : rLo 19 M V := h6
  obtain ⟨⟨m, m1, m2, m3⟩, a2, a3, a4⟩ := h1
  have m3n : ∀ i, n ≤ i → i < 24 → V 191 i = 0 := fun i h1 h2 => m3 i (by omega) h2
  obtain ⟨m', ⟨_, r2, _⟩, r4⟩ := h2
  have r4n : ∀ i, i < 24 → bo (V 192 i) ∧ (n ≤ i → V 192 i = 0 ∧ V 189 i = 0) := fun i hi => ⟨(r4 i hi).1, fun q => (r4 i hi).2 (by omega)⟩
  obtain ⟨w1, ⟨w2, w2'⟩, w3, w4, w5, w6⟩ := h5
  obtain ⟨l1, l2⟩ := h6
  have hm : (M 19 0).toInt = n := by rw [w1]; exact hn
  have n1 : (V 188 2 + kI 1).toInt = ((n + 1 : Nat) : Int) := n_add1 hn (by omega)
  have bp : bo p := hp
  have nb' : rNb U (n + 1) := ⟨by omega, by rw [d2]; exact n1, fun i h1 h2 => by rw [d191, if_neg (by omega)]; exact m3n i (by omega) h2⟩
  have nbx : ∀ {x p : Int32}, nb x → (p = 0 ∨ p = kI 1) → nb (x ||| (p <<< (M 19 0 &&& 31))) := fun hx hp i hi => by
    rw [bt_boy hm hn24 hp, hx i hi, decide_eq_false (show ¬ i = n by omega), Bool.and_false, Bool.or_false]
  have o1 : (kI 1 : Int32) = 0 ∨ (kI 1 : Int32) = kI 1 := Or.inr rfl
  have t1 : decide (kI 1 = kI 1) = true := decide_eq_true rfl
  refine rT_w h ⟨⟨⟨n + 1, nb'⟩, fun i hi => ⟨?_, ?_⟩, fun k hk => by rw [db 195 (by decide) (by decide)]; exact a3 k hk, fun l hl => by rw [db 196 (by decide) (by decide)]; exact a4 l hl⟩, ⟨n + 1, nb', fun i hi => ⟨?_, fun hmi => ?_⟩⟩, by rw [d 3 (by decide) (by decide)]; exact h3⟩ ⟨⟨?_, ⟨?_, ?_⟩, fun i hi => ⟨?_, ?_, ?_⟩, fun i j hi hj => ?_, ?_, fun l hl => ?_⟩, ⟨?_, fun i hi => ?_⟩⟩
    (cb 26 (by decide) (by decide) (by decide) (by decide)) (db 201 (by decide) (by decide)) (fun b _ _ => cb b (by omega) (by omega) (by omega) (by omega)) (fun b _ _ => db b (by omega) (by omega))
    (rOt_c h9 (by rw [cb 18 (by decide) (by decide) (by decide) (by decide)]) (by rw [cb 18 (by decide) (by decide) (by decide) (by decide)]) (cb 28 (by decide) (by decide) (by decide) (by decide)) (cb 29 (by decide) (by decide) (by decide) (by decide)) (d 4 (by decide) (by decide)) (d 71 (by decide) (by decide)) (db 226 (by decide) (by decide)) (db 227 (by decide) (by decide)) (db 193 (by decide) (by decide)))
  · rw [d189]
    by_cases e : i = n
    · rw [if_pos e]; exact bp
    · rw [if_neg e]; exact (a2 i hi).1
  · rw [d191]
    by_cases e : i = n
    · rw [if_pos e]; exact Or.inr rfl
    · rw [if_neg e]; exact (a2 i hi).2
  · rw [d192]
    by_cases e : i = n
    · rw [if_pos e]; exact Or.inr rfl
    · rw [if_neg e]; exact (r4n i hi).1
  · rw [d192, d189, if_neg (by omega), if_neg (by omega)]
    exact (r4n i hi).2 (by omega)
  · rw [c0, d2, w1]
  · rw [c1]; exact nbx w2 hp
  · rw [c2]; exact nbx w2' o1
  · rw [c1, bt_boy hm hn24 hp, (w3 i hi).1, d189]
    by_cases e : i = n
    · rw [if_pos e, ((r4n i hi).2 (by omega)).2, show decide ((0 : Int32) = kI 1) = false by decide, decide_eq_true e, Bool.and_true, Bool.false_or]
    · rw [if_neg e, decide_eq_false e, Bool.and_false, Bool.or_false]
  · rw [c2, bt_boy hm hn24 o1, (w3 i hi).2.1, d191, t1, Bool.true_and]
    by_cases e : i = n
    · rw [if_pos e, decide_eq_true e, Bool.or_true, t1]
    · rw [if_neg e, decide_eq_false e, Bool.or_false]
  · show N 20 i = U 190 i
    have q : M 20 i = V 190 i := (w3 i hi).2.2
    rw [c20, d190, q]
  · have e1 : N (19 + 2) = M (19 + 2) := cb 21 (by decide) (by decide) (by decide) (by decide)
    have e2 : N (19 + 3) = M (19 + 3) := cb 22 (by decide) (by decide) (by decide) (by decide)
    rw [e1, e2, db 195 (by decide) (by decide), db 194 (by decide) (by decide)]
    exact w4 i j hi hj
  · rw [c4 4 (by decide), c4 5 (by decide), c4 6 (by decide), c4 7 (by decide), c4 8 (by decide), c4 9 (by decide), c4 10 (by decide), d 3 (by decide) (by decide), d 1 (by decide) (by decide), d 17 (by decide) (by decide), d 18 (by decide) (by decide), d 19 (by decide) (by decide), d 20 (by decide) (by decide), d 21 (by decide) (by decide)]
    exact w5
  · have e1 : N (19 + 4) = M (19 + 4) := cb 23 (by decide) (by decide) (by decide) (by decide)
    rw [e1, db 196 (by decide) (by decide), db 197 (by decide) (by decide), db 198 (by decide) (by decide), db 199 (by decide) (by decide), db 200 (by decide) (by decide)]
    exact w6 l hl
  · rw [c3]; exact nbx l1 o1
  · rw [c3, bt_boy hm hn24 o1, l2 i hi, d192, t1, Bool.true_and]
    by_cases e : i = n
    · rw [if_pos e, decide_eq_true e, Bool.or_true, t1]
    · rw [if_neg e, decide_eq_false e, Bool.or_false]
