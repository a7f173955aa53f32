/-! text: a law, both sides; what fault tells -/
theorem D_7_law {M : pMem} {n k : Nat} {p1 p2 : Int32} (hn : n ≤ 500) (hM : (M 1 0).toInt = n) (h1 : p1 = kI 0) (hk : p2.toInt = k) (hk4 : k < 4) {v : Int32} {N : pMem} (h : D_7 p1 p2 M v N) :
    ∃ r, laR (yT (M 2) n) (yV (M 2) n) 16 0 [] r ∧ (r.1 = 0 → v.toInt = (r.2.2.2.length : Nat) ∧ N 6 4 = kI 0 ∧ N 6 5 = kI (-1) ∧ clLaw N (30 + 11 * k) r.2.2.1 r.2.2.2) ∧ (r.1 ≠ 0 → v = kI (-1) ∧ N 6 4 = kI r.1 ∧ N 6 5 = kI (xSt (M 2) n r.2.1)) := by
  obtain ⟨_, M1, h170, h⟩ := h
  obtain ⟨c, z1, z2, z3⟩ := D_170_w hn hM h170
  have h := tIf_n (show ¬ ¬ p1 = 0 from nn h1) h
  have h := tIf_n (f_33_iff.mpr (by omega)) h
  obtain ⟨_, v2, M2, h174, M3, e3, hv, hN⟩ := h
  rw [ix_of hk] at h174
  obtain ⟨r, r1, r2, r3⟩ := D_174_w (l := 30 + 11 * k) (by omega) z1 h174
  rw [hv, hN]
  refine ⟨r, r1, fun e => ?_, fun e => ?_⟩
  · obtain ⟨a1, a2, a3, a4⟩ := r2 e
    refine ⟨a1, by rw [e3, aPut_cell (by decide), a2, z2], by rw [e3, aPut_cell (by decide), a3, z3], ?_⟩
    obtain ⟨b1, b2, b3, b4, b5⟩ := a4
    have q : ∀ o, M3 (30 + 11 * k + o) = M2 (30 + 11 * k + o) := fun o => by
      funext j
      rw [e3, aPut_cell (by omega)]
    refine ⟨by rw [show M3 (30 + 11 * k) = M2 (30 + 11 * k) from q 0]; exact b1, b2, b3, fun i x hi => by rw [q 5]; exact b4 i x hi, fun i x hi => ?_⟩
    rw [q 1, q 2, q 3, q 4]
    exact b5 i x hi
  · obtain ⟨a1, a2, a3⟩ := r3 e
    exact ⟨a1, by rw [e3, aPut_cell (by decide), a2], by rw [e3, aPut_cell (by decide), a3]⟩
/-- the class: no such text -/
theorem D_7_no {M : pMem} {n : Nat} {p1 p2 : Int32} (hn : n ≤ 500) (hM : (M 1 0).toInt = n) (c : ¬ ((p1 = kI 0 ∨ p1 = kI 1) ∧ 0 ≤ p2.toInt ∧ p2.toInt < 4)) {v : Int32} {N : pMem} (h : D_7 p1 p2 M v N) : v = kI (-1) ∧ N 6 4 = kI 0 ∧ N 6 5 = kI (-1) := by
  obtain ⟨_, M1, h170, h⟩ := h
  obtain ⟨c', z1, z2, z3⟩ := D_170_w hn hM h170
  have no : ∀ {M2 : pMem}, M2 = aPut M1 1 0 (kI 0) → v = kI (-1) → N = M2 → v = kI (-1) ∧ N 6 4 = kI 0 ∧ N 6 5 = kI (-1) := by
    intro M2 e hv hN
    rw [hN, e]
    exact ⟨hv, by rw [aPut_cell (by decide), z2], by rw [aPut_cell (by decide), z3]⟩
  rcases h with ⟨g, h⟩ | ⟨g, h⟩
  · rcases h with ⟨g2, M2, e2, hv, hN⟩ | ⟨g2, h⟩
    · exact no e2 hv hN
    · rcases h with ⟨g3, M2, e2, hv, hN⟩ | ⟨g3, h⟩
      · exact no e2 hv hN
      · exact absurd ⟨Or.inr (Classical.not_not.mp g2), f_33_iff.mp g3⟩ c
  · have p0 : p1 = kI 0 := Classical.not_not.mp g
    rcases h with ⟨g3, h⟩ | ⟨g3, h⟩
    · have h := tIf_p (show ¬ p1 = kI 1 by rw [p0]; decide) h
      obtain ⟨M2, e2, hv, hN⟩ := h
      exact no e2 hv hN
    · exact absurd ⟨Or.inl p0, f_33_iff.mp g3⟩ c
/-- the reference's rows of a law -/
def rfLaw (m : Int32) (So Fr Su To : Nat → Int32) (b : Nat) (cm : Int32) (Op Ar : Nat → Int32) (c : Nat) (o : List Cd) (L : List Ln) : Prop :=
  m.toInt = L.length ∧ cm.toInt = (rcO o).length ∧ (∀ i x, (rcO o)[i]? = some x → Op (c + i) = x.1 ∧ Ar (c + i) = x.2) ∧
  ∀ i x, L[i]? = some x → (So (b + i)).toInt + 14 = x.1.toInt ∧ (Fr (b + i)).toInt = (rcO (o.take x.2.1)).length ∧ (Su (b + i)).toInt = (rcO (o.take x.2.2.1)).length ∧ (To (b + i)).toInt = (rcO (o.take x.2.2.2)).length ∧ x.2.1 ≤ x.2.2.1 ∧ x.2.2.1 ≤ x.2.2.2 ∧ x.2.2.2 ≤ o.length
/-- takesLaw -/
theorem D_78_w {M0 : pMem} {k n c : Nat} {p1 p2 : Int32} (hk : p1.toInt = k) (hk4 : k < 4) (hn : p2.toInt = n) (hn16 : n ≤ 16) (hc : (M0 188 38).toInt = c) (hc5 : c ≤ 500) {v : Unit} {N : pMem} (h : D_78 p1 p2 M0 v N) :
    (N 204 k).toInt = n ∧ (N 209 k).toInt = c ∧ (∀ j, ¬ j = k → N 204 j = M0 204 j ∧ N 209 j = M0 209 j) ∧
    (∀ i, i < n → N 205 (16 * k + i) = M0 205 (64 + i) ∧ N 206 (16 * k + i) = M0 206 (64 + i) ∧ N 207 (16 * k + i) = M0 207 (64 + i) ∧ N 208 (16 * k + i) = M0 208 (64 + i)) ∧
    (∀ i, i < c → N 210 (500 * k + i) = M0 210 (2000 + i) ∧ N 211 (500 * k + i) = M0 211 (2000 + i)) ∧
    (∀ i, (i < 16 * k ∨ 16 * k + 16 ≤ i) → N 205 i = M0 205 i ∧ N 206 i = M0 206 i ∧ N 207 i = M0 207 i ∧ N 208 i = M0 208 i) ∧
    ∀ i, (i < 500 * k ∨ 500 * k + 500 ≤ i) → N 210 i = M0 210 i ∧ N 211 i = M0 211 i := by
  have g := (h (fun x3 M v N => ∀ i : Nat, x3.toInt = i → i ≤ n → (M 188 38).toInt = c → (∀ j, N 204 j = (if j = k then p2 else M 204 j)) ∧ (∀ j, N 209 j = (if j = k then M 188 38 else M 209 j)) ∧
      (∀ j, i ≤ j → j < n → N 205 (16 * k + j) = M 205 (64 + j) ∧ N 206 (16 * k + j) = M 206 (64 + j) ∧ N 207 (16 * k + j) = M 207 (64 + j) ∧ N 208 (16 * k + j) = M 208 (64 + j)) ∧
      (∀ j, j < c → N 210 (500 * k + j) = M 210 (2000 + j) ∧ N 211 (500 * k + j) = M 211 (2000 + j)) ∧
      (∀ j, ¬ (16 * k + i ≤ j ∧ j < 16 * k + 16) → N 205 j = M 205 j ∧ N 206 j = M 206 j ∧ N 207 j = M 207 j ∧ N 208 j = M 208 j) ∧
      ∀ j, ¬ (500 * k ≤ j ∧ j < 500 * k + 500) → N 210 j = M 210 j ∧ N 211 j = M 211 j,
    fun x3 M v N => ∀ i : Nat, x3.toInt = i → i ≤ c → (M 188 38).toInt = c → (∀ j, N 204 j = (if j = k then p2 else M 204 j)) ∧ (∀ j, N 209 j = (if j = k then M 188 38 else M 209 j)) ∧
      (∀ j, N 205 j = M 205 j ∧ N 206 j = M 206 j ∧ N 207 j = M 207 j ∧ N 208 j = M 208 j) ∧
      (∀ j, i ≤ j → j < c → N 210 (500 * k + j) = M 210 (2000 + j) ∧ N 211 (500 * k + j) = M 211 (2000 + j)) ∧
      ∀ j, ¬ (500 * k + i ≤ j ∧ j < 500 * k + 500) → N 210 j = M 210 j ∧ N 211 j = M 211 j) ⟨?_, ?_⟩) 0 rfl (Nat.zero_le _) hc
  · obtain ⟨g1, g2, g3, g4, g5, g6⟩ := g
    refine ⟨by rw [g1, if_pos rfl]; exact hn, by rw [g2, if_pos rfl]; exact hc, fun j hj => ⟨by rw [g1, if_neg hj], by rw [g2, if_neg hj]⟩, fun i hi => g3 i (Nat.zero_le _) hi, fun i hi => g4 i hi, fun i hi => g5 i (by omega), fun i hi => g6 i (by omega)⟩
  · intro x3 M v N hs i hx hi hm
    rcases hs with ⟨g, hs⟩ | ⟨g, _, _, M1, e1, _, _, M2, e2, _, _, M3, e3, _, _, M4, e4, hs⟩
    · rw [i_le, hn, hx] at g
      obtain ⟨q1, q2, q3, q4, q5⟩ := hs 0 rfl (Nat.zero_le _) hm
      exact ⟨q1, q2, fun j h1 h2 => absurd h2 (by omega), fun j hj => q4 j (Nat.zero_le _) hj, fun j _ => q3 j, fun j hj => q5 j (by omega)⟩
    · rw [i_le, hn, hx] at g
      have e16 : (kI 16 * p1).toInt = ((16 * k : Nat) : Int) := by rw [i_mul (by rw [hk, kI_toInt (by decide) (by decide)]; omega) (by rw [hk, kI_toInt (by decide) (by decide)]; omega), hk, kI_toInt (by decide) (by decide)]; omega
      have ea : ix (kI 16 * p1 + x3) = 16 * k + i := ix_of (by rw [i_add (by omega) (by omega), e16, hx]; omega)
      have eb : ix (kI 64 + x3) = 64 + i := ix_of (by rw [i_add (by rw [kI_toInt (by decide) (by decide)]; omega) (by rw [kI_toInt (by decide) (by decide)]; omega), kI_toInt (by decide) (by decide), hx]; omega)
      rw [ea, eb] at e1 e2 e3 e4
      have a205 : ∀ j, M4 205 j = if j = 16 * k + i then M 205 (64 + i) else M 205 j := fun j => by rw [e4, aPut_cell (by decide), e3, aPut_cell (by decide), e2, aPut_cell (by decide), e1, aPut_row]
      have a206 : ∀ j, M4 206 j = if j = 16 * k + i then M 206 (64 + i) else M 206 j := fun j => by rw [e4, aPut_cell (by decide), e3, aPut_cell (by decide), e2, aPut_row, e1, aPut_cell (by decide), aPut_cell (by decide)]
      have a207 : ∀ j, M4 207 j = if j = 16 * k + i then M 207 (64 + i) else M 207 j := fun j => by rw [e4, aPut_cell (by decide), e3, aPut_row, e2, aPut_cell (by decide), aPut_cell (by decide), e1, aPut_cell (by decide), aPut_cell (by decide)]
      have a208 : ∀ j, M4 208 j = if j = 16 * k + i then M 208 (64 + i) else M 208 j := fun j => by rw [e4, aPut_row, e3, aPut_cell (by decide), aPut_cell (by decide), e2, aPut_cell (by decide), aPut_cell (by decide), e1, aPut_cell (by decide), aPut_cell (by decide)]
      have oth : ∀ a j, (a < 205 ∨ 208 < a) → M4 a j = M a j := fun a j ha => by rw [e4, aPut_cell (by omega), e3, aPut_cell (by omega), e2, aPut_cell (by omega), e1, aPut_cell (by omega)]
      obtain ⟨q1, q2, q3, q4, q5, q6⟩ := hs (i + 1) (by rw [i_add1 (by omega)]; omega) (by omega) (by rw [oth 188 38 (by omega)]; exact hm)
      refine ⟨fun j => by rw [q1 j, oth 204 j (by omega)], fun j => by rw [q2 j, oth 209 j (by omega), oth 188 38 (by omega)], fun j h1 h2 => ?_, fun j hj => by rw [(q4 j hj).1, (q4 j hj).2, oth 210 _ (by omega), oth 211 _ (by omega)]; exact ⟨rfl, rfl⟩, fun j hj => ?_, fun j hj => by rw [(q6 j hj).1, (q6 j hj).2, oth 210 _ (by omega), oth 211 _ (by omega)]; exact ⟨rfl, rfl⟩⟩
      · by_cases e : j = i
        · subst e
          obtain ⟨w1, w2, w3, w4⟩ := q5 (16 * k + j) (by omega)
          rw [w1, w2, w3, w4, a205, a206, a207, a208, if_pos rfl, if_pos rfl, if_pos rfl, if_pos rfl]
          exact ⟨rfl, rfl, rfl, rfl⟩
        · obtain ⟨w1, w2, w3, w4⟩ := q3 j (by omega) h2
          rw [w1, w2, w3, w4, a205, a206, a207, a208, if_neg (by omega), if_neg (by omega), if_neg (by omega), if_neg (by omega)]
          exact ⟨rfl, rfl, rfl, rfl⟩
      · obtain ⟨w1, w2, w3, w4⟩ := q5 j (by omega)
        rw [w1, w2, w3, w4, a205, a206, a207, a208, if_neg (by omega), if_neg (by omega), if_neg (by omega), if_neg (by omega)]
        exact ⟨rfl, rfl, rfl, rfl⟩
  · intro x3 M v N hs i hx hi hm
    rcases hs with ⟨g, _, M1, e1, _, M2, e2, _, hN⟩ | ⟨g, _, _, M1, e1, _, _, M2, e2, hs⟩
    · rw [i_le, hm, hx] at g
      rw [ix_of hk] at e1 e2
      have oth : ∀ a j, ¬ a = 204 → ¬ a = 209 → N a j = M a j := fun a j h1 h2 => by rw [hN, e2, aPut_cell h2, e1, aPut_cell h1]
      refine ⟨fun j => by rw [hN, e2, aPut_cell (by decide), e1, aPut_row], fun j => by rw [hN, e2, aPut_row, e1, aPut_cell (by decide), aPut_cell (by decide)], fun j => ⟨oth _ _ (by decide) (by decide), oth _ _ (by decide) (by decide), oth _ _ (by decide) (by decide), oth _ _ (by decide) (by decide)⟩, fun j h1 h2 => absurd h2 (by omega), fun j _ => ⟨oth _ _ (by decide) (by decide), oth _ _ (by decide) (by decide)⟩⟩
    · rw [i_le, hm, hx] at g
      have e5 : (kI 500 * p1).toInt = ((500 * k : Nat) : Int) := by rw [i_mul (by rw [hk, kI_toInt (by decide) (by decide)]; omega) (by rw [hk, kI_toInt (by decide) (by decide)]; omega), hk, kI_toInt (by decide) (by decide)]; omega
      have ea : ix (kI 500 * p1 + x3) = 500 * k + i := ix_of (by rw [i_add (by omega) (by omega), e5, hx]; omega)
      have eb : ix (kI 2000 + x3) = 2000 + i := ix_of (by rw [i_add (by rw [kI_toInt (by decide) (by decide)]; omega) (by rw [kI_toInt (by decide) (by decide)]; omega), kI_toInt (by decide) (by decide), hx]; omega)
      rw [ea, eb] at e1 e2
      have a210 : ∀ j, M2 210 j = if j = 500 * k + i then M 210 (2000 + i) else M 210 j := fun j => by rw [e2, aPut_cell (by decide), e1, aPut_row]
      have a211 : ∀ j, M2 211 j = if j = 500 * k + i then M 211 (2000 + i) else M 211 j := fun j => by rw [e2, aPut_row, e1, aPut_cell (by decide), aPut_cell (by decide)]
      have oth : ∀ a j, ¬ a = 210 → ¬ a = 211 → M2 a j = M a j := fun a j h1 h2 => by rw [e2, aPut_cell h2, e1, aPut_cell h1]
      obtain ⟨q1, q2, q3, q4, q5⟩ := hs (i + 1) (by rw [i_add1 (by omega)]; omega) (by omega) (by rw [oth 188 38 (by decide) (by decide)]; exact hm)
      refine ⟨fun j => by rw [q1 j, oth 204 j (by decide) (by decide)], fun j => by rw [q2 j, oth 209 j (by decide) (by decide), oth 188 38 (by decide) (by decide)], fun j => ?_, fun j h1 h2 => ?_, fun j hj => ?_⟩
      · obtain ⟨w1, w2, w3, w4⟩ := q3 j
        rw [w1, w2, w3, w4]
        exact ⟨oth _ _ (by decide) (by decide), oth _ _ (by decide) (by decide), oth _ _ (by decide) (by decide), oth _ _ (by decide) (by decide)⟩
      · by_cases e : j = i
        · subst e
          obtain ⟨w1, w2⟩ := q5 (500 * k + j) (by omega)
          rw [w1, w2, a210, a211, if_pos rfl, if_pos rfl]
          exact ⟨rfl, rfl⟩
        · obtain ⟨w1, w2⟩ := q4 j (by omega) h2
          rw [w1, w2, a210, a211, if_neg (by omega), if_neg (by omega)]
          exact ⟨rfl, rfl⟩
      · obtain ⟨w1, w2⟩ := q5 j (by omega)
        rw [w1, w2, a210, a211, if_neg (by omega), if_neg (by omega)]
        exact ⟨rfl, rfl⟩
/-- what comes behind reading -/
theorem L_81_w {p1 p2 x3 s0 v : Int32} {M N : pMem} (h : L_81_9 p1 p2 x3 s0 M v N) : S_81_9 p1 p2 (fun _ _ _ _ _ => False) x3 s0 M v N := by
  refine h (fun x3 s0 M v N => S_81_9 p1 p2 (fun _ _ _ _ _ => False) x3 s0 M v N) ?_
  intro x3 s0 M v N hs
  exact hs
/-- the reference's text of a law -/
theorem D_81_law {M : pMem} {B : Nat → Int32} {n k : Nat} {p1 p2 : Int32} (hn : n ≤ 500) (hp : xPre M B n) (hB : ∀ i, i < n → 0 ≤ (B i).toInt) (h1 : p1 = kI 0) (hk : p2.toInt = k) (hk4 : k < 4) {v : Int32} {N : pMem} (h : D_81 p1 p2 M v N) :
    ∃ r, laR (yT B n) (yV B n) 16 0 [] r ∧ (r.1 = 0 → v.toInt = (r.2.2.2.length : Nat) ∧ N 188 44 = kI 0 ∧ N 188 45 = kI (-1)) ∧
      (r.1 ≠ 0 → v = kI (-1) ∧ N 188 44 = kI r.1 ∧ N 188 45 = kI (xSt B n r.2.1)) := by
  obtain ⟨M1, e1, M2, e2, M3, e3, h⟩ := h
  have h := tIf_n (f_42_iff.mpr (by rw [h1]; decide)) h
  have h := tIf_n (f_42_iff.mpr (by rw [i_le, i_le, hk, kI_toInt (by decide) (by decide), kI_toInt (by decide) (by decide)]; omega)) h
  obtain ⟨M4, e4, M5, e5, M6, e6, _, M7, h65, h⟩ := h
  have h := tIf_n (show ¬ ¬ p1 = 0 from nn h1) h
  obtain ⟨v2, M8, h77, h⟩ := h
  have p6 : xPre M6 B n := by
    rw [e6, e5, e4, e3, e2, e1]
    exact xPre_put (xPre_put (xPre_put (xPre_put (xPre_put (xPre_put hp (by decide)) (by decide)) (by decide)) (by decide)) (by decide)) (by decide)
  have f7 := F_65 h65
  have r7 : rR M7 B n 0 := by
    have q := D_65_w hn hB h65 p6 0 (by rw [e6, aPut_at (by decide), e5, aPut_at (by decide), e4, aPut_same]; rfl) (Nat.zero_le _)
    refine ⟨?_, hn, hB, q⟩
    obtain ⟨q1, q2, q3⟩ := p6
    refine ⟨by rw [f7 188 24 (by decide) rfl rfl]; exact q1, ?_, fun j hj => ?_⟩
    · rw [← q2]
      funext i
      exact f7 202 i (by decide) rfl rfl
    · rw [f7 203 j (by decide) rfl rfl]
      exact q3 j hj
  have m38 : M7 188 38 = kI 0 := by rw [f7 188 38 (by decide) rfl rfl, e6, aPut_at (by decide), e5, aPut_same]
  have m39 : M7 188 39 = kI 0 := by rw [f7 188 39 (by decide) rfl rfl, e6, aPut_same]
  obtain ⟨r, r1, r2, r3⟩ := D_77_w r7 m38 m39 h77
  have f8 := F_77 h77
  have k44 : M8 188 44 = kI 0 := by
    rw [f8 188 44 (by decide) rfl rfl, f7 188 44 (by decide) rfl rfl, e6, aPut_at (by decide), e5, aPut_at (by decide), e4, aPut_at (by decide), e3, aPut_at (by decide), e2, aPut_same]
  have k45 : M8 188 45 = kI (-1) := by
    rw [f8 188 45 (by decide) rfl rfl, f7 188 45 (by decide) rfl rfl, e6, aPut_at (by decide), e5, aPut_at (by decide), e4, aPut_at (by decide), e3, aPut_same]
  refine ⟨r, r1, ?_⟩
  obtain ⟨Ma, ea, hs⟩ := L_81_w h
  have hs := tIf_n (show ¬ kI 1 = 0 by decide) hs
  by_cases c : r.1 = 0
  · obtain ⟨a1, _, _⟩ := r2 c
    have hne : ¬ v2 = kI (-1) := by
      rw [yk (by decide) (by decide), a1]
      omega
    have hs := tIf_p hne hs
    have hs := tIf_p hne hs
    have hs := tIf_n (show ¬ ¬ p1 = 0 from nn h1) hs
    obtain ⟨_, Mb, h78, hv, hN⟩ := hs
    have f78 := F_78 h78
    refine ⟨fun _ => ⟨by rw [hv]; exact a1, ?_, ?_⟩, fun e => absurd c e⟩
    · rw [hN, f78 188 44 (by decide) rfl rfl, ea, aPut_at (by decide)]
      exact k44
    · rw [hN, f78 188 45 (by decide) rfl rfl, ea, aPut_at (by decide)]
      exact k45
  · obtain ⟨a1, a2, a3⟩ := r3 c
    have hs := tIf_n (nn a1) hs
    obtain ⟨Mb, eb, Mc, ec, hs⟩ := hs
    have hs := tIf_n (nn a1) hs
    obtain ⟨hv, hN⟩ := hs
    refine ⟨fun e => absurd e c, fun _ => ⟨hv, ?_, ?_⟩⟩
    · rw [hN, ec, aPut_at (by decide), eb, aPut_same, ea, aPut_at (by decide)]
      exact a2
    · rw [hN, ec, aPut_same, eb, aPut_at (by decide), ea, aPut_at (by decide)]
      exact a3
/-- the reference: no such text -/
theorem D_81_no {M : pMem} {p1 p2 : Int32} (c : ¬ ((p1 = kI 0 ∨ p1 = kI 1) ∧ 0 ≤ p2.toInt ∧ p2.toInt < 4)) {v : Int32} {N : pMem} (h : D_81 p1 p2 M v N) : v = kI (-1) ∧ N 188 44 = kI 0 ∧ N 188 45 = kI (-1) := by
  obtain ⟨M1, e1, M2, e2, M3, e3, h⟩ := h
  have no : ∀ {M4 M5 M6 M7 : pMem} {u : Unit}, M4 = aPut M3 188 25 (kI 0) → M5 = aPut M4 188 38 (kI 0) → M6 = aPut M5 188 39 (kI 0) → D_65 M6 u M7 → L_81_9 p1 p2 (kI 0) (kI (-1)) M7 v N → v = kI (-1) ∧ N 188 44 = kI 0 ∧ N 188 45 = kI (-1) := by
    intro M4 M5 M6 M7 u e4 e5 e6 h65 h
    have f7 := F_65 h65
    obtain ⟨Ma, ea, hs⟩ := L_81_w h
    have hs := tIf_p (show kI 0 = 0 from rfl) hs
    have hs := tIf_n (show ¬ ¬ kI (-1) = kI (-1) from nn rfl) hs
    obtain ⟨hv, hN⟩ := hs
    refine ⟨hv, ?_, ?_⟩
    · rw [hN, ea, aPut_at (by decide), f7 188 44 (by decide) rfl rfl, e6, aPut_at (by decide), e5, aPut_at (by decide), e4, aPut_at (by decide), e3, aPut_at (by decide), e2, aPut_same]
    · rw [hN, ea, aPut_at (by decide), f7 188 45 (by decide) rfl rfl, e6, aPut_at (by decide), e5, aPut_at (by decide), e4, aPut_at (by decide), e3, aPut_same]
  rcases h with ⟨g, M4, e4, M5, e5, M6, e6, u, M7, h65, h⟩ | ⟨g, h⟩
  · exact no e4 e5 e6 h65 h
  · rcases h with ⟨g2, M4, e4, M5, e5, M6, e6, u, M7, h65, h⟩ | ⟨g2, h⟩
    · exact no e4 e5 e6 h65 h
    · have g := f_42_iff.mp g
      have g2 := f_42_iff.mp g2
      rw [i_le, i_le, kI_toInt (by decide) (by decide), kI_toInt (by decide) (by decide)] at g g2
      refine absurd ⟨?_, by omega, by omega⟩ c
      by_cases e : p1.toInt = 0
      · exact Or.inl (kI_inj e)
      · exact Or.inr (kI_inj (by omega))
/-- what fault tells, on both sides -/
def rFt (M : pMem) : Prop := M 6 4 = M 188 44 ∧ M 6 5 = M 188 45
def kFt (L : List (Nat × Nat)) : Bool := (pOut L 6 4 && pOut L 6 5) && (pOut L 188 44 && pOut L 188 45)
theorem rFt_fr {M N : pMem} {L : List (Nat × Nat)} (f : pFr L M N) (k : kFt L = true) (h : rFt M) : rFt N := by
  unfold kFt at k
  simp only [Bool.and_eq_true] at k
  obtain ⟨⟨k1, k2⟩, k3, k4⟩ := k
  unfold rFt
  rw [f 6 4 (by decide) rfl k1, f 6 5 (by decide) rfl k2, f 188 44 (by decide) rfl k3, f 188 45 (by decide) rfl k4]
  exact h
theorem op_text_v {p1 p2 v u : Int32} {M M1 M2 : pMem} (h : rA M) (h1 : D_7 p1 p2 M v M1) (h2 : D_81 p1 p2 M1 u M2) : v = u ∧ rFt M2 := by
  obtain ⟨ht, _⟩ := h
  obtain ⟨t1, t2, t3, t4, t5, t6⟩ := ht
  have f1 := F_7 h1
  have f2 := F_81 h2
  have o2 : ∀ j, M2 6 j = M1 6 j := fun j => f2 6 j (by decide) rfl (by simp only [l_81, pOut_cons, pOut_nil, true_or, and_true]; omega)
  obtain ⟨n, hnn⟩ : ∃ n : Nat, (M 1 0).toInt = n := ⟨(M 1 0).toInt.toNat, by omega⟩
  have n5 : n ≤ 500 := by omega
  unfold rFt
  rw [o2 4, o2 5]
  by_cases c : (p1 = kI 0 ∨ p1 = kI 1) ∧ 0 ≤ p2.toInt ∧ p2.toInt < 4
  · obtain ⟨c1, c2, c3⟩ := c
    obtain ⟨k, hkk⟩ : ∃ k : Nat, p2.toInt = k := ⟨p2.toInt.toNat, by omega⟩
    have hk4 : k < 4 := by omega
    have o1 : ∀ a j, a < 230 → pScr a j = false → 74 ≤ a → M1 a j = M a j := fun a j q1 q2 q3 => f1 a j q1 q2 (by
      simp only [l_7, pOut_cons, pOut_nil, true_or, and_true]
      rw [ix_of hkk]
      omega)
    have pre : xPre M1 (M 202) n := ⟨by rw [o1 188 24 (by decide) rfl (by omega), ← t1]; exact hnn, funext fun i => o1 202 i (by decide) rfl (by omega), fun j hj => by rw [o1 203 j (by decide) rfl (by omega)]; exact t6 j hj⟩
    have cg : ∀ i, i < n → M 2 i = M 202 i := fun i hi => t2 i (by omega)
    rcases c1 with c1 | c1
    · obtain ⟨r, w1, w2, w3⟩ := D_7_law n5 hnn c1 hkk hk4 h1
      obtain ⟨r', r1, r2, r3⟩ := D_81_law n5 pre (fun i hi => t5 i (by omega)) c1 hkk hk4 h2
      rw [yT_cg cg, yV_cg cg] at w1
      obtain rfl := laR_det w1 r1
      by_cases e0 : r.1 = 0
      · obtain ⟨a1, a2, a3, _⟩ := w2 e0
        obtain ⟨b1, b2, b3⟩ := r2 e0
        exact ⟨by rw [i_eq, a1, b1], by rw [a2, b2], by rw [a3, b3]⟩
      · obtain ⟨a1, a2, a3⟩ := w3 e0
        obtain ⟨b1, b2, b3⟩ := r3 e0
        exact ⟨by rw [a1, b1], by rw [a2, b2], by rw [a3, b3, xSt_cg cg]⟩
    · obtain ⟨w1, w2, w3⟩ := D_7_plan n5 hnn c1 hkk hk4 h1
      obtain ⟨r1, r2, r3⟩ := D_81_plan n5 pre (fun i hi => t5 i (by omega)) c1 hkk hk4 h2
      rw [yT_cg cg, yV_cg cg] at w1 w2
      by_cases e0 : (plL (yT (M 202) n) (yV (M 202) n) 24 0).1 = 0
      · obtain ⟨a1, a2, a3, _⟩ := w1 e0
        obtain ⟨b1, b2, b3, _⟩ := r1 e0
        exact ⟨by rw [i_eq, a1, b1], by rw [a2, b2], by rw [a3, b3]⟩
      · obtain ⟨a1, a2, a3, _⟩ := w2 e0
        obtain ⟨b1, b2, b3, _⟩ := r2 e0
        exact ⟨by rw [a1, b1], by rw [a2, b2], by rw [a3, b3, xSt_cg cg]⟩
  · obtain ⟨a1, a2, a3⟩ := D_7_no n5 hnn c h1
    obtain ⟨b1, b2, b3⟩ := D_81_no c h2
    exact ⟨by rw [a1, b1], by rw [a2, b2], by rw [a3, b3]⟩
theorem op_fault_v {p1 v u : Int32} {M M1 M2 : pMem} (h : rFt M) (h1 : D_8 p1 M v M1) (h2 : D_82 p1 M1 u M2) : v = u := by
  have m : M1 = M := by
    rcases h1 with ⟨_, h1⟩ | ⟨_, _, hM⟩
    · rcases h1 with ⟨_, _, hM⟩ | ⟨_, _, hM⟩
      · exact hM
      · exact hM
    · exact hM
  rw [m] at h2
  obtain ⟨Ma, ea, h2⟩ := h2
  obtain ⟨q1, q2⟩ := h
  have a44 : Ma 188 44 = M 188 44 := by rw [ea, aPut_at (by decide)]
  have a45 : Ma 188 45 = M 188 45 := by rw [ea, aPut_at (by decide)]
  by_cases c0 : p1 = 0
  · rw [(tIf_n (nn c0) h1).1, (tIf_n (nn c0) h2).1, a44]
    exact q1
  · have h1 := tIf_p c0 h1
    have h2 := tIf_p c0 h2
    by_cases c1 : p1 = kI 1
    · rw [(tIf_n (nn c1) h1).1, (tIf_n (nn c1) h2).1, a45]
      exact q2
    · rw [(tIf_p c1 h1).1, (tIf_p c1 h2).1]
/-! while a law is read the reference's laws stay: what is written lies behind them -/
def kp7 (M N : pMem) : Prop := (∀ a j, (a = 205 ∨ a = 206 ∨ a = 207 ∨ a = 208) → j < 64 → N a j = M a j) ∧ ∀ a j, (a = 210 ∨ a = 211) → j < 2000 → N a j = M a j
def Iq (M N : pMem) : Prop := (0 ≤ (M 188 38).toInt ∧ (M 188 38).toInt ≤ 500) → (0 ≤ (N 188 38).toInt ∧ (N 188 38).toInt ≤ 500) ∧ kp7 M N
theorem Iq_r {M : pMem} : Iq M M := fun h => ⟨h, fun _ _ _ _ => rfl, fun _ _ _ _ => rfl⟩
theorem Iq_t {M N K : pMem} (h : Iq M N) (g : Iq N K) : Iq M K := fun q => by
  obtain ⟨h1, h2, h3⟩ := h q
  obtain ⟨g1, g2, g3⟩ := g h1
  exact ⟨g1, fun a j q1 q2 => (g2 a j q1 q2).trans (h2 a j q1 q2), fun a j q1 q2 => (g3 a j q1 q2).trans (h3 a j q1 q2)⟩
def kQ (L : List (Nat × Nat)) : Bool := pOut L 188 38 && ((pNo L 205 && (pNo L 206 && (pNo L 207 && pNo L 208))) && (pNo L 210 && pNo L 211))
theorem Iq_fr {L : List (Nat × Nat)} {M N : pMem} (f : pFr L M N) (k : kQ L = true) : Iq M N := by
  unfold kQ at k
  simp only [Bool.and_eq_true] at k
  obtain ⟨k1, ⟨k2, k3, k4, k5⟩, k6, k7⟩ := k
  refine fun h => ⟨by rw [f 188 38 (by decide) rfl k1]; exact h, fun a j q _ => ?_, fun a j q _ => ?_⟩
  · rcases q with rfl | rfl | rfl | rfl
    · exact f 205 j (by decide) rfl (pNo_out k2 j)
    · exact f 206 j (by decide) rfl (pNo_out k3 j)
    · exact f 207 j (by decide) rfl (pNo_out k4 j)
    · exact f 208 j (by decide) rfl (pNo_out k5 j)
  · rcases q with rfl | rfl
    · exact f 210 j (by decide) rfl (pNo_out k6 j)
    · exact f 211 j (by decide) rfl (pNo_out k7 j)
def pTi {α : Type} (M0 : pMem) (T : pT α) : Prop := ∀ v N, T v N → Iq M0 N
section TI
variable {α β : Type} {M0 M : pMem} {A B : pT α} {c : Prop} {a j : Nat} {x : Int32}
theorem ti_ret {y : α} (f : Iq M0 M) : pTi M0 (tRet y M) := fun v N h => by
  obtain ⟨_, rfl⟩ := h
  exact f
theorem ti_gd (k : pTi M0 A) : pTi M0 (tGd c A) := fun v N h => k v N h.2
theorem ti_if (k1 : pTi M0 A) (k2 : pTi M0 B) : pTi M0 (tIf c A B) := fun v N h => h.elim (fun q => k1 v N q.2) (fun q => k2 v N q.2)
theorem ti_put {C : pMem → pT α} (h1 : (Nat.blt a 205 || Nat.blt 211 a) = true) (h2 : (Nat.beq a 188 && Nat.beq j 38) = false) (f : Iq M0 M) (k : ∀ M1, Iq M0 M1 → pTi M0 (C M1)) : pTi M0 (tPut (aPut M a j x) C) := fun v N h => by
  obtain ⟨M1, e, h⟩ := h
  have r : a < 205 ∨ 211 < a := by
    rcases Bool.or_eq_true _ _ ▸ h1 with q | q
    · exact Or.inl (Nat.le_of_ble_eq_true q)
    · exact Or.inr (Nat.le_of_ble_eq_true q)
  refine k M1 (Iq_t f fun q => ⟨?_, fun b i hb _ => by rw [e, aPut_cell (by omega)], fun b i hb _ => by rw [e, aPut_cell (by omega)]⟩) v N h
  by_cases ea : 188 = a
  · by_cases ej : 38 = j
    · rw [← ea, ← ej] at h2
      exact absurd h2 (by decide)
    · rw [e, aPut_at ej]; exact q
  · rw [e, aPut_cell ea]; exact q
theorem ti_put5 {C : pMem → pT α} (h1 : 205 ≤ a ∧ a ≤ 208) (h2 : 64 ≤ j) (f : Iq M0 M) (k : ∀ M1, Iq M0 M1 → pTi M0 (C M1)) : pTi M0 (tPut (aPut M a j x) C) := fun v N h => by
  obtain ⟨M1, e, h⟩ := h
  refine k M1 (Iq_t f fun q => ⟨by rw [e, aPut_cell (by omega)]; exact q, fun b i _ hi => by rw [e, aPut_at (by omega)], fun b i hb _ => by rw [e, aPut_cell (by omega)]⟩) v N h
theorem ti_call {D : pT β} {K : β → pMem → pT α} (d : ∀ v N, D v N → Iq M N) (f : Iq M0 M) (k : ∀ v N, Iq M0 N → pTi M0 (K v N)) : pTi M0 (tCall D K) := fun v N h => by
  obtain ⟨w, M1, h1, h2⟩ := h
  exact k w M1 (Iq_t f (d w M1 h1)) v N h2
theorem ti_tail (d : ∀ v N, A v N → Iq M N) (f : Iq M0 M) : pTi M0 A := fun v N h => Iq_t f (d v N h)
end TI
section RI
variable {M N : pMem} {p1 p2 v : Int32} {u : Unit}
theorem D_69_i (h : D_69 p1 p2 M u N) : Iq M N := fun h0 => by
  obtain ⟨g, M1, e1, _, M2, e2, M3, e3, _, hN⟩ := h
  have hl : (M 188 38).toInt < 500 := by
    obtain ⟨g1, g2⟩ := g
    have rg := i_rg (M 188 38)
    by_cases c : (M 188 38).toInt ≤ 2147481647
    · rw [i_add (by rw [kI_toInt (by decide) (by decide)]; omega) (by rw [kI_toInt (by decide) (by decide)]; omega), kI_toInt (by decide) (by decide)] at g2
      omega
    · exfalso
      have e : (kI 2000 + M 188 38).toInt = (M 188 38).toInt + 2000 - 4294967296 := by
        have q : kI 2000 + M 188 38 = Int32.ofInt (2000 + (M 188 38).toInt) := by rw [Int32.ofInt_add, Int32.ofInt_toInt]
        rw [q, Int32.toInt_ofInt, Int.bmod_def, show Int32.size = 4294967296 from rfl]
        omega
      rw [e] at g1
      omega
  obtain ⟨n, hn⟩ : ∃ n : Nat, (M 188 38).toInt = n := ⟨(M 188 38).toInt.toNat, by omega⟩
  have i1 : ix (kI 2000 + M 188 38) = 2000 + n := ix_of (by rw [i_add (by rw [kI_toInt (by decide) (by decide)]; omega) (by rw [kI_toInt (by decide) (by decide)]; omega), kI_toInt (by decide) (by decide), hn]; omega)
  have q1 : M1 188 38 = M 188 38 := by rw [e1, aPut_cell (by decide)]
  rw [q1, i1] at e2
  rw [i1] at e1
  rw [hN]
  refine ⟨?_, fun a j q hj => ?_, fun a j q hj => ?_⟩
  · rw [e3, aPut_same, e2, aPut_cell (by decide), q1, i_add1 (by omega)]
    omega
  · rw [e3, aPut_cell (by omega), e2, aPut_cell (by omega), e1, aPut_cell (by omega)]
  · rw [e3, aPut_cell (by omega), e2, aPut_at (by omega), e1, aPut_at (by omega)]
theorem D_70_i (h : D_70 M v N) : Iq M N := by
  have r : Iq M M := Iq_r
  have t : pTi M (D_70 M) := by
    unfold D_70
    repeat' first
      | exact ti_ret (by assumption)
      | refine ti_if ?_ ?_
      | refine ti_call (fun _ _ h => D_69_i h) (by assumption) (fun _ _ _ => ?_)
      | refine ti_call (fun _ _ h => Iq_fr (F_65 h) (by decide +kernel)) (by assumption) (fun _ _ _ => ?_)
      | refine ti_call (fun _ _ h => Iq_fr (F_66 h) (by decide +kernel)) (by assumption) (fun _ _ _ => ?_)
  exact t v N h
theorem S_71_i {P2 : pMem → pT Int32} (hP : ∀ M v N, P2 M v N → Iq M N) (h : S_71_2 P2 M v N) : Iq M N := by
  have r : Iq M M := Iq_r
  have t : pTi M (S_71_2 P2 M) := by
    unfold S_71_2
    repeat' first
      | exact ti_ret (by assumption)
      | refine ti_if ?_ ?_
      | refine ti_call (fun _ _ h => D_69_i h) (by assumption) (fun _ _ _ => ?_)
      | refine ti_call (fun _ _ h => D_70_i h) (by assumption) (fun _ _ _ => ?_)
      | refine ti_call (fun _ _ h => Iq_fr (F_65 h) (by decide +kernel)) (by assumption) (fun _ _ _ => ?_)
      | refine ti_call (fun _ _ h => Iq_fr (F_66 h) (by decide +kernel)) (by assumption) (fun _ _ _ => ?_)
      | exact ti_tail (fun _ _ h => hP _ _ _ h) (by assumption)
  exact t v N h
theorem L_71_i (h : L_71_2 M v N) : Iq M N := h (fun M _ N => Iq M N) (fun _ _ _ hs => S_71_i (fun _ _ _ h => h) hs)
theorem D_71_i (h : D_71 M v N) : Iq M N := by
  have r : Iq M M := Iq_r
  have t : pTi M (D_71 M) := by
    unfold D_71
    repeat' first
      | exact ti_ret (by assumption)
      | refine ti_if ?_ ?_
      | refine ti_call (fun _ _ h => D_70_i h) (by assumption) (fun _ _ _ => ?_)
      | exact ti_tail (fun _ _ h => L_71_i h) (by assumption)
  exact t v N h
theorem S_72_i {P2 : pMem → pT Int32} (hP : ∀ M v N, P2 M v N → Iq M N) (h : S_72_2 P2 M v N) : Iq M N := by
  have r : Iq M M := Iq_r
  have t : pTi M (S_72_2 P2 M) := by
    unfold S_72_2
    repeat' first
      | exact ti_ret (by assumption)
      | refine ti_if ?_ ?_
      | refine ti_call (fun _ _ h => D_69_i h) (by assumption) (fun _ _ _ => ?_)
      | refine ti_call (fun _ _ h => D_71_i h) (by assumption) (fun _ _ _ => ?_)
      | refine ti_call (fun _ _ h => Iq_fr (F_65 h) (by decide +kernel)) (by assumption) (fun _ _ _ => ?_)
      | exact ti_tail (fun _ _ h => hP _ _ _ h) (by assumption)
  exact t v N h
theorem L_72_i (h : L_72_2 M v N) : Iq M N := h (fun M _ N => Iq M N) (fun _ _ _ hs => S_72_i (fun _ _ _ h => h) hs)
theorem D_72_i (h : D_72 M v N) : Iq M N := by
  have r : Iq M M := Iq_r
  have t : pTi M (D_72 M) := by
    unfold D_72
    repeat' first
      | exact ti_ret (by assumption)
      | refine ti_if ?_ ?_
      | refine ti_call (fun _ _ h => D_71_i h) (by assumption) (fun _ _ _ => ?_)
      | exact ti_tail (fun _ _ h => L_72_i h) (by assumption)
  exact t v N h
theorem D_73_i (h : D_73 M v N) : Iq M N := by
  have r : Iq M M := Iq_r
  have t : pTi M (D_73 M) := by
    unfold D_73
    repeat' first
      | exact ti_ret (by assumption)
      | refine ti_if ?_ ?_
      | refine ti_call (fun _ _ h => D_72_i h) (by assumption) (fun _ _ _ => ?_)
      | refine ti_call (fun _ _ h => D_69_i h) (by assumption) (fun _ _ _ => ?_)
      | refine ti_call (fun _ _ h => Iq_fr (F_65 h) (by decide +kernel)) (by assumption) (fun _ _ _ => ?_)
      | refine ti_call (fun _ _ h => Iq_fr (F_66 h) (by decide +kernel)) (by assumption) (fun _ _ _ => ?_)
  exact t v N h
theorem S_75_i {P0 : pMem → pT Unit} (hP : ∀ M v N, P0 M v N → Iq M N) (h : S_75_0 p1 P0 M u N) : Iq M N := by
  have r : Iq M M := Iq_r
  have t : pTi M (S_75_0 p1 P0 M) := by
    unfold S_75_0
    repeat' first
      | exact ti_ret (by assumption)
      | refine ti_if ?_ ?_
      | refine ti_gd ?_
      | refine ti_put (by decide) (by decide) (by assumption) (fun _ _ => ?_)
      | refine ti_call (fun _ _ h => D_69_i h) (by assumption) (fun _ _ _ => ?_)
      | exact ti_tail (fun _ _ h => hP _ _ _ h) (by assumption)
  exact t u N h
theorem L_75_i (h : L_75_0 p1 M u N) : Iq M N := h (fun M _ N => Iq M N) (fun _ _ _ hs => S_75_i (fun _ _ _ h => h) hs)
theorem D_75_i (h : D_75 p1 M u N) : Iq M N := by
  have r : Iq M M := Iq_r
  have t : pTi M (D_75 p1 M) := by
    unfold D_75
    repeat' first
      | exact ti_ret (by assumption)
      | refine ti_if ?_ ?_
      | refine ti_gd ?_
      | refine ti_put (by decide) (by decide) (by assumption) (fun _ _ => ?_)
      | refine ti_call (fun _ _ h => D_69_i h) (by assumption) (fun _ _ _ => ?_)
      | exact ti_tail (fun _ _ h => L_75_i h) (by assumption)
  exact t u N h
theorem S_76_i {P1 : Int32 → Int32 → pMem → pT Int32} (hP : ∀ x y M v N, P1 x y M v N → Iq M N) {x1 x2 : Int32} (h : S_76_1 P1 x1 x2 M v N) : Iq M N := by
  have r : Iq M M := Iq_r
  have t : pTi M (S_76_1 P1 x1 x2 M) := by
    unfold S_76_1
    repeat' first
      | exact ti_ret (by assumption)
      | refine ti_if ?_ ?_
      | refine ti_gd ?_
      | refine ti_put (by decide) (by decide) (by assumption) (fun _ _ => ?_)
      | refine ti_call (fun _ _ h => D_75_i h) (by assumption) (fun _ _ _ => ?_)
      | refine ti_call (fun _ _ h => D_73_i h) (by assumption) (fun _ _ _ => ?_)
      | refine ti_call (fun _ _ h => Iq_fr (F_65 h) (by decide +kernel)) (by assumption) (fun _ _ _ => ?_)
      | refine ti_call (fun _ _ h => Iq_fr (F_66 h) (by decide +kernel)) (by assumption) (fun _ _ _ => ?_)
      | refine ti_call (fun _ _ h => Iq_fr (F_74 h) (by decide +kernel)) (by assumption) (fun _ _ _ => ?_)
      | exact ti_tail (fun _ _ h => hP _ _ _ _ _ h) (by assumption)
  exact t v N h
theorem L_76_i {x1 x2 : Int32} (h : L_76_1 x1 x2 M v N) : Iq M N := h (fun _ _ M _ N => Iq M N) (fun _ _ _ _ _ hs => S_76_i (fun _ _ _ _ _ h => h) hs)
theorem D_76_i (h : D_76 M v N) : Iq M N := by
  have r : Iq M M := Iq_r
  have t : pTi M (D_76 M) := by
    unfold D_76
    repeat' first
      | refine ti_put (by decide) (by decide) (by assumption) (fun _ _ => ?_)
      | exact ti_tail (fun _ _ h => L_76_i h) (by assumption)
  exact t v N h
theorem S_77_i {P1 : Int32 → pMem → pT Int32} (hP : ∀ x M v N, P1 x M v N → 0 ≤ x.toInt → x.toInt ≤ 16 → Iq M N) {x1 : Int32} (h0 : 0 ≤ x1.toInt) (h16 : x1.toInt ≤ 16) (h : S_77_1 P1 x1 M v N) : Iq M N := by
  have r : Iq M M := Iq_r
  have hx : 64 ≤ ix (kI 64 + x1) := by
    have e : (kI 64 + x1).toInt = 64 + x1.toInt := by rw [i_add (by rw [kI_toInt (by decide) (by decide)]; omega) (by rw [kI_toInt (by decide) (by decide)]; omega), kI_toInt (by decide) (by decide)]
    have q : ix (kI 64 + x1) = (kI 64 + x1).toInt.toNat := rfl
    omega
  rcases h with ⟨_, h⟩ | ⟨_, h⟩
  · rcases h with ⟨_, w, X, h66, hv, hN⟩ | ⟨_, hv, hN⟩
    · rw [hN]; exact Iq_fr (F_66 h66) (by decide +kernel)
    · rw [hN]; exact r
  · rcases h with ⟨_, h⟩ | ⟨_, h⟩
    · rcases h with ⟨_, w, X, h66, hv, hN⟩ | ⟨_, hv, hN⟩
      · rw [hN]; exact Iq_fr (F_66 h66) (by decide +kernel)
      · rw [hN]; exact r
    · rcases h with ⟨g, h⟩ | ⟨_, w, X, h66, hv, hN⟩
      · rw [yk (by decide) (by decide)] at g
        have y1 : (x1 + kI 1).toInt = x1.toInt + 1 := i_add1 (by omega)
        have y2 : 0 ≤ (x1 + kI 1).toInt := by omega
        have y3 : (x1 + kI 1).toInt ≤ 16 := by omega
        have key : ∀ {T : pT Int32}, pTi M T → T v N → Iq M N := fun k h => k v N h
        refine key ?_ h
        repeat' first
          | exact ti_ret (by assumption)
          | refine ti_if ?_ ?_
          | refine ti_gd ?_
          | refine ti_put5 (by decide) (by assumption) (by assumption) (fun _ _ => ?_)
          | refine ti_call (fun _ _ h => D_72_i h) (by assumption) (fun _ _ _ => ?_)
          | refine ti_call (fun _ _ h => D_76_i h) (by assumption) (fun _ _ _ => ?_)
          | refine ti_call (fun _ _ h => Iq_fr (F_65 h) (by decide +kernel)) (by assumption) (fun _ _ _ => ?_)
          | refine ti_call (fun _ _ h => Iq_fr (F_66 h) (by decide +kernel)) (by assumption) (fun _ _ _ => ?_)
          | exact ti_tail (fun _ _ h => hP _ _ _ _ h y2 y3) (by assumption)
      · rw [hN]; exact Iq_fr (F_66 h66) (by decide +kernel)
theorem D_77_i (h : D_77 M v N) : Iq M N :=
  (h (fun x M _ N => 0 ≤ x.toInt → x.toInt ≤ 16 → Iq M N) (fun _ _ _ _ hs h0 h16 => S_77_i (fun _ _ _ _ h a b => h a b) h0 h16 hs)) (by decide) (by decide)
end RI
/-! a text that isn't one leaves the class's laws as they are -/
def frU (M N : pMem) : Prop := ∀ a j, a < 230 → pScr a j = false → 18 ≤ a → N a j = M a j
theorem frU_t {M N K : pMem} (h : frU M N) (g : frU N K) : frU M K := fun a j h1 h2 h3 => (g a j h1 h2 h3).trans (h a j h1 h2 h3)
def q174f (B : Nat → Int32) (n c : Nat) (x2 : Int32) (M : pMem) (v : Int32) (N : pMem) : Prop := ∀ (m k : Nat) (o : List Cd) (L : List Ln), x2.toInt = L.length → m + L.length = 16 → cL M B n c k o → k ≤ 500 → clL M o L → v = kI (-1) → frU M N
theorem S_174_1f {B : Nat → Int32} {n c l : Nat} (hl : 30 ≤ l) {P1 : Int32 → pMem → pT Int32} (hP : ∀ x2 M v N, P1 x2 M v N → q174f B n c x2 M v N) {x2 : Int32} {M : pMem} {v : Int32} {N : pMem} (hs : S_174_1 l P1 x2 M v N) : q174f B n c x2 M v N := by
  intro m k o L hx hm h hk hL hv1
  obtain ⟨ht, _, _⟩ := zR_t h.1
  have hs := tIf_n (show ¬ kI 16 < x2 by rw [i_lt, hx, kI_toInt (by decide) (by decide)]; omega) hs
  rw [ht] at hs
  rcases hs with ⟨g, u, M1, h153, hv, hN⟩ | ⟨g, v1, M1, h175, hs⟩
  · obtain ⟨a1, a2, a3, a4⟩ := D_153_w (by omega) h153
    have e : v.toInt = L.length := by rw [hv, a4 7 (by omega)]; exact hL.1
    rw [hv1, kI_toInt (by decide) (by decide)] at e
    omega
  · have f : frU M M1 := fun a j h1 h2 h3 => F_175 h175 a j h1 h2 (by simp only [l_175, pOut_cons, pOut_nil, true_or, and_true]; omega)
    obtain ⟨w1, w2⟩ := D_175_w h hk hL hx g h175
    rcases hs with ⟨g2, hs⟩ | ⟨g2, _, hN⟩
    · by_cases wd : 14 ≤ (yT B n k).toInt ∧ (yT B n k).toInt ≤ 19
      · obtain ⟨w3, w4⟩ := w2 wd
        cases m with
        | zero => exact absurd (w3 (by omega)).1 g2
        | succ m =>
          obtain ⟨q, l1, l2, l3⟩ := w4 (by omega)
          by_cases q0 : q.1 = 0
          · obtain ⟨z1, z2, z3, z4, z5, z6, z7, z8, z9⟩ := l2 q0
            exact frU_t f (hP _ _ _ _ hs m q.2.1 q.2.2.1 (L ++ q.2.2.2) (by rw [i_add1 (by omega), hx, List.length_append, z9]; omega) (by rw [List.length_append, z9]; omega) ⟨z4, z5, by have := h.2.2; omega⟩ z7 z8 hv1)
          · exact absurd (l3 q0).1 g2
      · exact absurd (w1 wd).1 g2
    · rw [hN]; exact f
theorem D_174_f {M : pMem} {B : Nat → Int32} {n c l : Nat} (hl : 30 ≤ l) (h : rdR M B n c 0) {v : Int32} {N : pMem} (hD : D_174 l M v N) (hv : v = kI (-1)) : frU M N := by
  obtain ⟨_, M1, ⟨Ma, ea, Mb, eb, _, hM⟩, hD⟩ := hD
  have q : q174f B n c (kI 0) M1 v N := hD (q174f B n c) (fun _ _ _ _ hs => S_174_1f hl (fun _ _ _ _ h => h) hs)
  have f : pFr [(7, 0), (7, 1)] M M1 := fun a j _ _ q => by
    simp only [pOut_cons, pOut_nil, true_or, and_true] at q
    rw [hM, eb, ea]
    by_cases e7 : a = 7
    · subst e7
      rw [aPut_at (by omega), aPut_at (by omega)]
    · rw [aPut_cell e7, aPut_cell e7]
  have z0 : M1 7 0 = kI 0 := by rw [hM, eb, aPut_at (by decide), ea, aPut_same]
  have z1 : M1 7 1 = kI 0 := by rw [hM, eb, aPut_same]
  have s6 : M1 6 3 = M 6 3 := f 6 3 (by decide) rfl (by simp only [pOut_cons, pOut_nil, true_or, and_true]; omega)
  exact frU_t (fun a j h1 h2 h3 => f a j h1 h2 (by simp only [pOut_cons, pOut_nil, true_or, and_true]; omega)) (q 16 0 [] [] rfl rfl ⟨zR_fr h f (fun j => rfl) (by rw [s6]; exact h.2.2.2.2.1), ⟨by rw [z1]; rfl, by decide, fun i x hi => by cases hi⟩, by decide⟩ (by decide) ⟨by rw [z0]; rfl, by decide, fun i x hi => by cases hi⟩ hv)
/-- the class, whatever the text: places of Told but the plan's, the law's -/
theorem D_7_f {M : pMem} {n : Nat} {p1 p2 : Int32} (hn : n ≤ 500) (hM : (M 1 0).toInt = n) {v : Int32} {N : pMem} (h : D_7 p1 p2 M v N) :
    ∀ a j, a < 230 → pScr a j = false → 18 ≤ a → (p1 = kI 0 → ix p2 < 4 → v = kI (-1) ∨ ¬ (30 + 11 * ix p2 ≤ a ∧ a ≤ 35 + 11 * ix p2)) → (p1 = kI 1 → ix p2 < 4 → ¬ (37 + 11 * ix p2 ≤ a ∧ a ≤ 40 + 11 * ix p2)) → N a j = M a j := by
  obtain ⟨_, M1, h170, h⟩ := h
  obtain ⟨c, z1, z2, z3⟩ := D_170_w hn hM h170
  have f1 : frU M M1 := fun a j q1 q2 q3 => F_170 h170 a j q1 q2 (by simp only [l_170, pOut_cons, pOut_nil, true_or, and_true]; omega)
  have no : ∀ {M2 : pMem}, M2 = aPut M1 1 0 (kI 0) → N = M2 → frU M N := by
    intro M2 e hN a j q1 q2 q3
    rw [hN, e, aPut_cell (by omega)]
    exact f1 a j q1 q2 q3
  have plan : p1 = kI 1 → (tGd (pIn p2 4) <| tCall (D_181 (37 + 11 * ix p2) M1) fun v2 M2 => tPut (aPut M2 1 0 (kI 0)) fun M3 => tRet v2 M3) v N → ∀ a j, a < 230 → pScr a j = false → 18 ≤ a → (p1 = kI 1 → ix p2 < 4 → ¬ (37 + 11 * ix p2 ≤ a ∧ a ≤ 40 + 11 * ix p2)) → N a j = M a j := by
    rintro e ⟨g, v2, M2, h181, M3, e3, _, hN⟩ a j q1 q2 q3 q4
    have g' := (ix_in g).2
    have q4 := q4 e g'
    have w : pK 3 (37 + 11 * ix p2) = true := pArK (show pAr 25 4 37 11 3 = true by decide +kernel) (by decide) g
    rw [hN, e3, aPut_cell (by omega), F_181 w h181 a j q1 q2 (by simp only [l_181, pOut_cons, pOut_nil, true_or, and_true]; omega)]
    exact f1 a j q1 q2 q3
  rcases h with ⟨g, h⟩ | ⟨g, h⟩
  · rcases h with ⟨g2, M2, e2, _, hN⟩ | ⟨g2, h⟩
    · exact fun a j q1 q2 q3 _ _ => no e2 hN a j q1 q2 q3
    · rcases h with ⟨g3, M2, e2, _, hN⟩ | ⟨g3, h⟩
      · exact fun a j q1 q2 q3 _ _ => no e2 hN a j q1 q2 q3
      · exact fun a j q1 q2 q3 _ q5 => plan (Classical.not_not.mp g2) h a j q1 q2 q3 q5
  · have p0 : p1 = kI 0 := Classical.not_not.mp g
    rcases h with ⟨g3, h⟩ | ⟨g3, g4, v2, M2, h174, M3, e3, hv, hN⟩
    · obtain ⟨M2, e2, _, hN⟩ := tIf_p (show ¬ p1 = kI 1 by rw [p0]; decide) h
      exact fun a j q1 q2 q3 _ _ => no e2 hN a j q1 q2 q3
    · have g4' := (ix_in g4).2
      intro a j q1 q2 q3 q4 _
      rw [hN, e3, aPut_cell (by omega)]
      rcases q4 p0 g4' with q | q
      · rw [D_174_f (by omega) z1 h174 (by rw [← hv]; exact q) a j q1 q2 q3]
        exact f1 a j q1 q2 q3
      · have w : pK 2 (30 + 11 * ix p2) = true := pArK (show pAr 24 4 30 11 2 = true by decide +kernel) (by decide) g4
        rw [F_174 w h174 a j q1 q2 (by simp only [l_174, pOut_cons, pOut_nil, true_or, and_true]; omega)]
        exact f1 a j q1 q2 q3
/-! what codes come to: a stack of numbers, and of which of them are yes or no -/
def ev1 (F : Nat → Int32) (q : Cd) (s : List Int32) : List Int32 :=
  if q.1 = 0 then q.2 :: s else if q.1 = 1 then F (ix q.2) :: s
  else if q.1 = 9 then (match s with | y :: r => (if q.2.toInt % 2 = 1 then kI 1 - y else y) :: r | [] => [])
  else match s with | y :: x :: r => f_83 (kI (q.1 : Nat)) x y :: r | _ => s
def ev (F : Nat → Int32) : List Cd → List Int32 → List Int32
  | [], s => s
  | q :: r, s => ev F r (ev1 F q s)
def ty1 (q : Cd) (s : List Bool) : Option (List Bool) :=
  if q.1 = 0 then (if 0 ≤ q.2.toInt ∧ q.2.toInt < 10000 then some (false :: s) else none)
  else if q.1 = 1 then (if 0 ≤ q.2.toInt ∧ q.2.toInt ≤ 13 then some (false :: s) else none)
  else if q.1 = 9 then (match s with | true :: r => (if 0 ≤ q.2.toInt then some (true :: r) else none) | _ => none)
  else if 2 ≤ q.1 ∧ q.1 ≤ 5 then (match s with | false :: false :: r => some (false :: r) | _ => none)
  else if 6 ≤ q.1 ∧ q.1 ≤ 8 then (match s with | false :: false :: r => some (true :: r) | _ => none)
  else if q.1 = 10 ∨ q.1 = 11 then (match s with | true :: true :: r => some (true :: r) | _ => none)
  else none
def ty : List Cd → List Bool → Option (List Bool)
  | [], s => some s
  | q :: r, s => match ty1 q s with
    | some t => if t.length ≤ 30 then ty r t else none
    | none => none
theorem ty_cons {q : Cd} {r : List Cd} {s t : List Bool} (h : ty (q :: r) s = some t) : ∃ u, ty1 q s = some u ∧ u.length ≤ 30 ∧ ty r u = some t := by
  unfold ty at h
  cases e : ty1 q s with
  | none =>
    rw [e] at h
    cases h
  | some u =>
    rw [e] at h
    dsimp only at h
    by_cases c : u.length ≤ 30
    · rw [if_pos c] at h
      exact ⟨u, rfl, c, h⟩
    · rw [if_neg c] at h
      cases h
theorem ty_step {q : Cd} {r : List Cd} {s u : List Bool} {t : Option (List Bool)} (h : ty1 q s = some u) (c : u.length ≤ 30) (h2 : ty r u = t) : ty (q :: r) s = t := by
  unfold ty
  rw [h]
  dsimp only
  rw [if_pos c]
  exact h2
theorem ty_app {a b : List Cd} {s t : List Bool} : (∃ u, ty a s = some u ∧ ty b u = some t) → ty (a ++ b) s = some t := by
  induction a generalizing s with
  | nil =>
    rintro ⟨u, h1, h2⟩
    have h1 : some s = some u := h1
    injection h1 with h1
    rw [← h1] at h2
    exact h2
  | cons q r ih =>
    rintro ⟨u, h1, h2⟩
    obtain ⟨w, a1, a2, a3⟩ := ty_cons h1
    exact ty_step (r := r ++ b) a1 a2 (ih ⟨u, a3, h2⟩)
theorem ev_app {F : Nat → Int32} {a b : List Cd} {s : List Int32} : ev F (a ++ b) s = ev F b (ev F a s) := by
  induction a generalizing s with
  | nil => rfl
  | cons q r ih => exact ih
/-- the numbers are of those kinds -/
def tv : List Int32 → List Bool → Prop
  | [], [] => True
  | x :: r, b :: t => (b = true → bo x) ∧ tv r t
  | _, _ => False
theorem tv_len : ∀ {s : List Int32} {t : List Bool}, tv s t → s.length = t.length
  | [], [], _ => rfl
  | _ :: r, _ :: t, h => by
    rw [List.length_cons, List.length_cons, tv_len h.2]
  | [], _ :: _, h => h.elim
  | _ :: _, [], h => h.elim
theorem tv_cons {s : List Int32} {b : Bool} {t : List Bool} (h : tv s (b :: t)) : ∃ x r, s = x :: r ∧ (b = true → bo x) ∧ tv r t := by
  cases s with
  | nil => exact h.elim
  | cons x r => exact ⟨x, r, rfl, h.1, h.2⟩
theorem bo_if {c : Prop} [Decidable c] : bo (if c then kI 0 else kI 1) := by
  by_cases h : c
  · rw [if_pos h]; exact Or.inl rfl
  · rw [if_neg h]; exact Or.inr rfl
theorem f83_cmp {n : Nat} {x y : Int32} (h : 6 ≤ n ∧ n ≤ 8) : bo (f_83 (kI n) x y) := by
  have e : n = 6 ∨ n = 7 ∨ n = 8 := by omega
  rcases e with rfl | rfl | rfl
  · show bo (if y ≤ x then kI 0 else kI 1)
    exact bo_if
  · show bo (if ¬ x = y then kI 0 else kI 1)
    exact bo_if
  · show bo (if x ≤ y then kI 0 else kI 1)
    exact bo_if
theorem f83_bo {n : Nat} {x y : Int32} (h : n = 10 ∨ n = 11) (hx : bo x) (hy : bo y) : bo (f_83 (kI n) x y) := by
  rcases h with rfl | rfl
  · show bo (x * y)
    rcases hx with rfl | rfl <;> rcases hy with rfl | rfl
    · exact Or.inl (by decide)
    · exact Or.inl (by decide)
    · exact Or.inl (by decide)
    · exact Or.inr (by decide)
  · show bo (if (x + y) ≤ 0 then kI 0 else kI 1)
    exact bo_if
theorem ev1_tv {F : Nat → Int32} {q : Cd} {s : List Int32} {t u : List Bool} (h : tv s t) (hq : ty1 q t = some u) : tv (ev1 F q s) u := by
  unfold ty1 at hq
  unfold ev1
  by_cases c0 : q.1 = 0
  · rw [if_pos c0] at hq ⊢
    by_cases d : 0 ≤ q.2.toInt ∧ q.2.toInt < 10000
    · rw [if_pos d] at hq
      injection hq with hq
      rw [← hq]
      exact ⟨fun e => (by cases e), h⟩
    · rw [if_neg d] at hq
      cases hq
  · rw [if_neg c0] at hq ⊢
    by_cases c1 : q.1 = 1
    · rw [if_pos c1] at hq ⊢
      by_cases d : 0 ≤ q.2.toInt ∧ q.2.toInt ≤ 13
      · rw [if_pos d] at hq
        injection hq with hq
        rw [← hq]
        exact ⟨fun e => (by cases e), h⟩
      · rw [if_neg d] at hq
        cases hq
    · rw [if_neg c1] at hq ⊢
      by_cases c9 : q.1 = 9
      · rw [if_pos c9] at hq ⊢
        match t, h, hq with
        | true :: r, h, hq =>
          obtain ⟨x, s', rfl, h1, h2⟩ := tv_cons h
          dsimp only at hq
          by_cases d : 0 ≤ q.2.toInt
          · rw [if_pos d] at hq
            injection hq with hq
            rw [← hq]
            refine ⟨fun _ => ?_, h2⟩
            by_cases o : q.2.toInt % 2 = 1
            · rw [if_pos o]
              rcases h1 rfl with rfl | rfl
              · exact Or.inr (by decide)
              · exact Or.inl (by decide)
            · rw [if_neg o]
              exact h1 rfl
          · rw [if_neg d] at hq
            cases hq
      · rw [if_neg c9] at hq ⊢
        by_cases c2 : 2 ≤ q.1 ∧ q.1 ≤ 5
        · rw [if_pos c2] at hq
          match t, h, hq with
          | false :: false :: r, h, hq =>
            obtain ⟨y, s', rfl, h1, h2⟩ := tv_cons h
            obtain ⟨x, s2, rfl, h3, h4⟩ := tv_cons h2
            injection hq with hq
            rw [← hq]
            exact ⟨fun e => (by cases e), h4⟩
        · rw [if_neg c2] at hq
          by_cases c6 : 6 ≤ q.1 ∧ q.1 ≤ 8
          · rw [if_pos c6] at hq
            match t, h, hq with
            | false :: false :: r, h, hq =>
              obtain ⟨y, s', rfl, h1, h2⟩ := tv_cons h
              obtain ⟨x, s2, rfl, h3, h4⟩ := tv_cons h2
              injection hq with hq
              rw [← hq]
              exact ⟨fun _ => f83_cmp c6, h4⟩
          · rw [if_neg c6] at hq
            by_cases c10 : q.1 = 10 ∨ q.1 = 11
            · rw [if_pos c10] at hq
              match t, h, hq with
              | true :: true :: r, h, hq =>
                obtain ⟨y, s', rfl, h1, h2⟩ := tv_cons h
                obtain ⟨x, s2, rfl, h3, h4⟩ := tv_cons h2
                injection hq with hq
                rw [← hq]
                exact ⟨fun _ => f83_bo c10 (h3 rfl) (h1 rfl), h4⟩
            · rw [if_neg c10] at hq
              cases hq
/-! the class's steps -/
def evS1 (F : Nat → Int32) (x : Int32) (s : List Int32) : List Int32 :=
  if 0 ≤ x.toInt then (if x.toInt < 10000 then x :: s else F (ix (x - kI 10000)) :: s)
  else if x = kI (-23) then (match s with | y :: r => (kI 1 - y) :: r | [] => [])
  else match s with | y :: z :: r => f_159 (-x) z y :: r | _ => s
def evS (F : Nat → Int32) : List Int32 → List Int32 → List Int32
  | [], s => s
  | x :: r, s => evS F r (evS1 F x s)
def hS (F : Nat → Int32) : List Int32 → List Int32 → Prop
  | [], _ => True
  | x :: r, s => (0 ≤ x.toInt → s.length < 32 ∧ x.toInt < 10014) ∧ hS F r (evS1 F x s)
theorem evS_app {F : Nat → Int32} {a b s : List Int32} : evS F (a ++ b) s = evS F b (evS F a s) := by
  induction a generalizing s with
  | nil => rfl
  | cons x r ih => exact ih
/-- what each sign does, on both sides -/
theorem f159_2 {x y : Int32} : f_159 (-(stpC (2, kI 0)).headD 0) x y = (x + y) := by
  rw [show -(stpC (2, kI 0)).headD 0 = kI 43 by decide]
  unfold f_159
  rw [if_neg (show ¬ kI 43 = kI 21 by decide), if_neg (show ¬ kI 43 = kI 22 by decide), if_neg (show ¬ kI 43 = kI 42 by decide), if_pos rfl]
theorem f83_2 {x y : Int32} : f_83 (kI (2 : Nat)) x y = (x + y) := by
  show f_83 (kI 2) x y = _
  unfold f_83
  rw [if_neg (nn (show kI 2 = kI 2 from rfl))]
theorem f159_3 {x y : Int32} : f_159 (-(stpC (3, kI 0)).headD 0) x y = (x - y) := by
  rw [show -(stpC (3, kI 0)).headD 0 = kI 45 by decide]
  unfold f_159
  rw [if_neg (show ¬ kI 45 = kI 21 by decide), if_neg (show ¬ kI 45 = kI 22 by decide), if_neg (show ¬ kI 45 = kI 42 by decide), if_neg (show ¬ kI 45 = kI 43 by decide), if_pos rfl]
theorem f83_3 {x y : Int32} : f_83 (kI (3 : Nat)) x y = (x - y) := by
  show f_83 (kI 3) x y = _
  unfold f_83
  rw [if_pos (show ¬ kI 3 = kI 2 by decide), if_neg (nn (show kI 3 = kI 3 from rfl))]
theorem f159_4 {x y : Int32} : f_159 (-(stpC (4, kI 0)).headD 0) x y = (x * y) := by
  rw [show -(stpC (4, kI 0)).headD 0 = kI 42 by decide]
  unfold f_159
  rw [if_neg (show ¬ kI 42 = kI 21 by decide), if_neg (show ¬ kI 42 = kI 22 by decide), if_pos rfl]
theorem f83_4 {x y : Int32} : f_83 (kI (4 : Nat)) x y = (x * y) := by
  show f_83 (kI 4) x y = _
  unfold f_83
  rw [if_pos (show ¬ kI 4 = kI 2 by decide), if_pos (show ¬ kI 4 = kI 3 by decide), if_neg (nn (show kI 4 = kI 4 from rfl))]
theorem f159_5 {x y : Int32} : f_159 (-(stpC (5, kI 0)).headD 0) x y = (if ¬ y = 0 then (x / y) else (kI 0)) := by
  rw [show -(stpC (5, kI 0)).headD 0 = kI 47 by decide]
  unfold f_159
  rw [if_neg (show ¬ kI 47 = kI 21 by decide), if_neg (show ¬ kI 47 = kI 22 by decide), if_neg (show ¬ kI 47 = kI 42 by decide), if_neg (show ¬ kI 47 = kI 43 by decide), if_neg (show ¬ kI 47 = kI 45 by decide), if_pos rfl]
theorem f83_5 {x y : Int32} : f_83 (kI (5 : Nat)) x y = (x / y) := by
  show f_83 (kI 5) x y = _
  unfold f_83
  rw [if_pos (show ¬ kI 5 = kI 2 by decide), if_pos (show ¬ kI 5 = kI 3 by decide), if_pos (show ¬ kI 5 = kI 4 by decide), if_neg (nn (show kI 5 = kI 5 from rfl))]
theorem f159_6 {x y : Int32} : f_159 (-(stpC (6, kI 0)).headD 0) x y = (if y ≤ x then (kI 0) else (kI 1)) := by
  rw [show -(stpC (6, kI 0)).headD 0 = kI 60 by decide]
  unfold f_159
  rw [if_neg (show ¬ kI 60 = kI 21 by decide), if_neg (show ¬ kI 60 = kI 22 by decide), if_neg (show ¬ kI 60 = kI 42 by decide), if_neg (show ¬ kI 60 = kI 43 by decide), if_neg (show ¬ kI 60 = kI 45 by decide), if_neg (show ¬ kI 60 = kI 47 by decide), if_pos rfl]
theorem f83_6 {x y : Int32} : f_83 (kI (6 : Nat)) x y = (if y ≤ x then (kI 0) else (kI 1)) := by
  show f_83 (kI 6) x y = _
  unfold f_83
  rw [if_pos (show ¬ kI 6 = kI 2 by decide), if_pos (show ¬ kI 6 = kI 3 by decide), if_pos (show ¬ kI 6 = kI 4 by decide), if_pos (show ¬ kI 6 = kI 5 by decide), if_neg (nn (show kI 6 = kI 6 from rfl))]
theorem f159_7 {x y : Int32} : f_159 (-(stpC (7, kI 0)).headD 0) x y = (if ¬ x = y then (kI 0) else (kI 1)) := by
  rw [show -(stpC (7, kI 0)).headD 0 = kI 61 by decide]
  unfold f_159
  rw [if_neg (show ¬ kI 61 = kI 21 by decide), if_neg (show ¬ kI 61 = kI 22 by decide), if_neg (show ¬ kI 61 = kI 42 by decide), if_neg (show ¬ kI 61 = kI 43 by decide), if_neg (show ¬ kI 61 = kI 45 by decide), if_neg (show ¬ kI 61 = kI 47 by decide), if_neg (show ¬ kI 61 = kI 60 by decide), if_pos rfl]
theorem f83_7 {x y : Int32} : f_83 (kI (7 : Nat)) x y = (if ¬ x = y then (kI 0) else (kI 1)) := by
  show f_83 (kI 7) x y = _
  unfold f_83
  rw [if_pos (show ¬ kI 7 = kI 2 by decide), if_pos (show ¬ kI 7 = kI 3 by decide), if_pos (show ¬ kI 7 = kI 4 by decide), if_pos (show ¬ kI 7 = kI 5 by decide), if_pos (show ¬ kI 7 = kI 6 by decide), if_neg (nn (show kI 7 = kI 7 from rfl))]
theorem f159_8 {x y : Int32} : f_159 (-(stpC (8, kI 0)).headD 0) x y = (if x ≤ y then (kI 0) else (kI 1)) := by
  rw [show -(stpC (8, kI 0)).headD 0 = kI 62 by decide]
  unfold f_159
  rw [if_neg (show ¬ kI 62 = kI 21 by decide), if_neg (show ¬ kI 62 = kI 22 by decide), if_neg (show ¬ kI 62 = kI 42 by decide), if_neg (show ¬ kI 62 = kI 43 by decide), if_neg (show ¬ kI 62 = kI 45 by decide), if_neg (show ¬ kI 62 = kI 47 by decide), if_neg (show ¬ kI 62 = kI 60 by decide), if_neg (show ¬ kI 62 = kI 61 by decide), if_pos rfl]
theorem f83_8 {x y : Int32} : f_83 (kI (8 : Nat)) x y = (if x ≤ y then (kI 0) else (kI 1)) := by
  show f_83 (kI 8) x y = _
  unfold f_83
  rw [if_pos (show ¬ kI 8 = kI 2 by decide), if_pos (show ¬ kI 8 = kI 3 by decide), if_pos (show ¬ kI 8 = kI 4 by decide), if_pos (show ¬ kI 8 = kI 5 by decide), if_pos (show ¬ kI 8 = kI 6 by decide), if_pos (show ¬ kI 8 = kI 7 by decide), if_neg (nn (show kI 8 = kI 8 from rfl))]
theorem f159_10 {x y : Int32} : f_159 (-(stpC (10, kI 0)).headD 0) x y = (x &&& y) := by
  rw [show -(stpC (10, kI 0)).headD 0 = kI 22 by decide]
  unfold f_159
  rw [if_neg (show ¬ kI 22 = kI 21 by decide), if_pos rfl]
theorem f83_10 {x y : Int32} : f_83 (kI (10 : Nat)) x y = (x * y) := by
  show f_83 (kI 10) x y = _
  unfold f_83
  rw [if_pos (show ¬ kI 10 = kI 2 by decide), if_pos (show ¬ kI 10 = kI 3 by decide), if_pos (show ¬ kI 10 = kI 4 by decide), if_pos (show ¬ kI 10 = kI 5 by decide), if_pos (show ¬ kI 10 = kI 6 by decide), if_pos (show ¬ kI 10 = kI 7 by decide), if_pos (show ¬ kI 10 = kI 8 by decide), if_neg (nn (show kI 10 = kI 10 from rfl))]
theorem f159_11 {x y : Int32} : f_159 (-(stpC (11, kI 0)).headD 0) x y = (x ||| y) := by
  rw [show -(stpC (11, kI 0)).headD 0 = kI 21 by decide]
  unfold f_159
  rw [if_pos rfl]
theorem f83_11 {x y : Int32} : f_83 (kI (11 : Nat)) x y = (if (x + y) ≤ 0 then (kI 0) else (kI 1)) := by
  show f_83 (kI 11) x y = _
  unfold f_83
  rw [if_pos (show ¬ kI 11 = kI 2 by decide), if_pos (show ¬ kI 11 = kI 3 by decide), if_pos (show ¬ kI 11 = kI 4 by decide), if_pos (show ¬ kI 11 = kI 5 by decide), if_pos (show ¬ kI 11 = kI 6 by decide), if_pos (show ¬ kI 11 = kI 7 by decide), if_pos (show ¬ kI 11 = kI 8 by decide), if_pos (show ¬ kI 11 = kI 10 by decide)]
theorem f159_eq {n : Nat} {x y : Int32} (h : 2 ≤ n ∧ n ≤ 8) : f_159 (-(stpC (n, kI 0)).headD 0) x y = f_83 (kI n) x y := by
  have e : n = 2 ∨ n = 3 ∨ n = 4 ∨ n = 5 ∨ n = 6 ∨ n = 7 ∨ n = 8 := by omega
  rcases e with rfl | rfl | rfl | rfl | rfl | rfl | rfl
  · rw [f159_2, f83_2]
  · rw [f159_3, f83_3]
  · rw [f159_4, f83_4]
  · rw [f159_5, f83_5]
    by_cases c : y = 0
    · rw [if_neg (nn c), c, i_eq, Int32.toInt_div, i_0, Int.tdiv_zero]
      rfl
    · rw [if_pos c]
  · rw [f159_6, f83_6]
  · rw [f159_7, f83_7]
  · rw [f159_8, f83_8]
theorem f159_bo {n : Nat} {x y : Int32} (h : n = 10 ∨ n = 11) (hx : bo x) (hy : bo y) : f_159 (-(stpC (n, kI 0)).headD 0) x y = f_83 (kI n) x y := by
  rcases h with rfl | rfl
  · rw [f159_10, f83_10]
    rcases hx with rfl | rfl <;> rcases hy with rfl | rfl <;> decide
  · rw [f159_11, f83_11]
    rcases hx with rfl | rfl <;> rcases hy with rfl | rfl <;> decide
theorem stp_bin {n : Nat} {a : Int32} (h : (2 ≤ n ∧ n ≤ 8) ∨ n = 10 ∨ n = 11) : ∃ x, stpC (n, a) = [x] ∧ x = (stpC (n, kI 0)).headD 0 ∧ x.toInt < 0 ∧ ¬ x = kI (-23) := by
  have e : n = 2 ∨ n = 3 ∨ n = 4 ∨ n = 5 ∨ n = 6 ∨ n = 7 ∨ n = 8 ∨ n = 10 ∨ n = 11 := by omega
  rcases e with rfl | rfl | rfl | rfl | rfl | rfl | rfl | rfl | rfl
  all_goals exact ⟨_, rfl, rfl, by decide, by decide⟩
/-- one code, as its steps -/
theorem evS_one {F : Nat → Int32} {q : Cd} {s : List Int32} {t u : List Bool} (h : tv s t) (h30 : t.length ≤ 30) (hq : ty1 q t = some u) : evS F (stpC q) s = ev1 F q s ∧ hS F (stpC q) s := by
  obtain ⟨m, a⟩ := q
  have hl := tv_len h
  unfold ty1 at hq
  unfold ev1
  dsimp only at hq ⊢
  by_cases c0 : m = 0
  · subst c0
    rw [if_pos rfl] at hq ⊢
    by_cases d : 0 ≤ a.toInt ∧ a.toInt < 10000
    · refine ⟨?_, fun _ => ⟨by omega, by show a.toInt < 10014; omega⟩, trivial⟩
      show evS1 F a s = a :: s
      unfold evS1
      rw [if_pos d.1, if_pos d.2]
    · rw [if_neg d] at hq
      cases hq
  · rw [if_neg c0] at hq ⊢
    by_cases c1 : m = 1
    · subst c1
      rw [if_pos rfl] at hq ⊢
      by_cases d : 0 ≤ a.toInt ∧ a.toInt ≤ 13
      · have e : (kI 10000 + a).toInt = 10000 + a.toInt := by rw [i_add (by rw [kI_toInt (by decide) (by decide)]; omega) (by rw [kI_toInt (by decide) (by decide)]; omega), kI_toInt (by decide) (by decide)]
        have e2 : kI 10000 + a - kI 10000 = a := by rw [i_eq, i_sub (by rw [e, kI_toInt (by decide) (by decide)]; omega) (by rw [e, kI_toInt (by decide) (by decide)]; omega), e, kI_toInt (by decide) (by decide)]; omega
        refine ⟨?_, fun _ => ⟨by omega, by show (kI 10000 + a).toInt < 10014; omega⟩, trivial⟩
        show evS1 F (kI 10000 + a) s = F (ix a) :: s
        unfold evS1
        rw [if_pos (by omega), if_neg (by omega), e2]
      · rw [if_neg d] at hq
        cases hq
    · rw [if_neg c1] at hq ⊢
      by_cases c9 : m = 9
      · subst c9
        rw [if_pos rfl] at hq ⊢
        have es : stpC (9, a) = if a.toInt % 2 = 1 then [kI (-23)] else [] := rfl
        rw [es]
        match t, h, hq with
        | true :: r, h, hq =>
          obtain ⟨x, s', rfl, h1, h2⟩ := tv_cons h
          by_cases o : a.toInt % 2 = 1
          · rw [if_pos o]
            refine ⟨?_, fun e => absurd e (by decide), trivial⟩
            show evS1 F (kI (-23)) (x :: s') = (if a.toInt % 2 = 1 then kI 1 - x else x) :: s'
            rw [if_pos o]
            rfl
          · rw [if_neg o]
            refine ⟨?_, trivial⟩
            show x :: s' = (if a.toInt % 2 = 1 then kI 1 - x else x) :: s'
            rw [if_neg o]
      · rw [if_neg c9] at hq ⊢
        have bin : ∀ {y x : Int32} {r : List Int32}, s = y :: x :: r → ((2 ≤ m ∧ m ≤ 8) ∨ m = 10 ∨ m = 11) → f_159 (-(stpC (m, kI 0)).headD 0) x y = f_83 (kI m) x y → evS F (stpC (m, a)) s = f_83 (kI m) x y :: r ∧ hS F (stpC (m, a)) s := by
          intro y x r es hm he
          obtain ⟨z, z1, z2, z3, z4⟩ := stp_bin (a := a) hm
          rw [z1]
          refine ⟨?_, fun e => absurd e (by omega), trivial⟩
          show evS1 F z s = _
          unfold evS1
          rw [if_neg (by omega), if_neg z4, es]
          show f_159 (-z) x y :: r = _
          rw [z2, he]
        by_cases c2 : 2 ≤ m ∧ m ≤ 5
        · rw [if_pos c2] at hq
          match t, h, hq with
          | false :: false :: r, h, hq =>
            obtain ⟨y, s', rfl, h1, h2⟩ := tv_cons h
            obtain ⟨x, s2, rfl, h3, h4⟩ := tv_cons h2
            exact bin rfl (by omega) (f159_eq (by omega))
        · rw [if_neg c2] at hq
          by_cases c6 : 6 ≤ m ∧ m ≤ 8
          · rw [if_pos c6] at hq
            match t, h, hq with
            | false :: false :: r, h, hq =>
              obtain ⟨y, s', rfl, h1, h2⟩ := tv_cons h
              obtain ⟨x, s2, rfl, h3, h4⟩ := tv_cons h2
              exact bin rfl (by omega) (f159_eq (by omega))
          · rw [if_neg c6] at hq
            by_cases c10 : m = 10 ∨ m = 11
            · rw [if_pos c10] at hq
              match t, h, hq with
              | true :: true :: r, h, hq =>
                obtain ⟨y, s', rfl, h1, h2⟩ := tv_cons h
                obtain ⟨x, s2, rfl, h3, h4⟩ := tv_cons h2
                exact bin rfl (Or.inr c10) (f159_bo c10 (h3 rfl) (h1 rfl))
            · rw [if_neg c10] at hq
              cases hq
theorem hS_app {F : Nat → Int32} {a b s : List Int32} (h1 : hS F a s) (h2 : hS F b (evS F a s)) : hS F (a ++ b) s := by
  induction a generalizing s with
  | nil => exact h2
  | cons x r ih => exact ⟨h1.1, ih h1.2 h2⟩
theorem evS_ev {F : Nat → Int32} : ∀ {o : List Cd} {s : List Int32} {t u : List Bool}, tv s t → t.length ≤ 30 → ty o t = some u → evS F (stC o) s = ev F o s ∧ hS F (stC o) s ∧ tv (ev F o s) u
  | [], s, t, u, h, h30, hq => by
    have hq : some t = some u := hq
    injection hq with hq
    rw [← hq]
    exact ⟨rfl, trivial, h⟩
  | q :: r, s, t, u, h, h30, hq => by
    obtain ⟨w, a1, a2, a3⟩ := ty_cons hq
    obtain ⟨b1, b2⟩ := evS_one (F := F) h h30 a1
    obtain ⟨c1, c2, c3⟩ := evS_ev (F := F) (o := r) (ev1_tv (F := F) h a1) a2 a3
    have e : stC (q :: r) = stpC q ++ stC r := rfl
    rw [e, evS_app, b1]
    exact ⟨c1, hS_app b2 (by rw [b1]; exact c2), c3⟩
/-! the class works it out -/
def stk (M : pMem) (a : Nat) (s : List Int32) : Prop := ∀ i x, s.reverse[i]? = some x → M a i = x
theorem stk_eq {M N : pMem} {a : Nat} {s : List Int32} (h : stk M a s) (e : ∀ i, i < s.length → N a i = M a i) : stk N a s := fun i x hi => by
  have hl := (List.getElem?_eq_some_iff.mp hi).1
  rw [List.length_reverse] at hl
  rw [e i hl]
  exact h i x hi
theorem stk_push {M N : pMem} {a : Nat} {s : List Int32} {x : Int32} (h : stk M a s) (e : N = aPut M a s.length x) : stk N a (x :: s) := fun i y hi => by
  rw [List.reverse_cons] at hi
  rw [e, aPut_row]
  by_cases c : i = s.length
  · rw [if_pos c]
    rw [c, List.getElem?_append_right (by rw [List.length_reverse]; exact Nat.le_refl _), List.length_reverse, Nat.sub_self] at hi
    exact (Option.some.inj hi)
  · rw [if_neg c]
    have hl := (List.getElem?_eq_some_iff.mp hi).1
    rw [List.length_append, List.length_reverse, List.length_singleton] at hl
    rw [List.getElem?_append_left (by rw [List.length_reverse]; omega)] at hi
    exact h i y hi
theorem stk_pop {M : pMem} {a : Nat} {s : List Int32} {x : Int32} (h : stk M a (x :: s)) : stk M a s ∧ M a s.length = x := by
  refine ⟨fun i y hi => ?_, ?_⟩
  · refine h i y ?_
    have hl := (List.getElem?_eq_some_iff.mp hi).1
    rw [List.reverse_cons, List.getElem?_append_left hl]
    exact hi
  · refine h s.length x ?_
    rw [List.reverse_cons, List.getElem?_append_right (by rw [List.length_reverse]; exact Nat.le_refl _), List.length_reverse, Nat.sub_self]
    rfl
theorem stk_put {M N : pMem} {a : Nat} {s : List Int32} {x y : Int32} (h : stk M a (x :: s)) (e : N = aPut M a s.length y) : stk N a (y :: s) := stk_push (stk_pop h).1 e
/-! the class works steps out, and finds the line that holds -/
/-- a list of two or more -/
theorem two_of {s : List Int32} (h : 2 ≤ s.length) : ∃ y z t, s = y :: z :: t := by
  cases s with
  | nil => exact absurd h (by decide)
  | cons y t =>
    cases t with
    | nil => exact absurd h (show ¬ 2 ≤ 1 by decide)
    | cons z t => exact ⟨y, z, t, rfl⟩
theorem one_of {s : List Int32} (h : 1 ≤ s.length) : ∃ y t, s = y :: t := by
  cases s with
  | nil => exact absurd h (by decide)
  | cons y t => exact ⟨y, t, rfl⟩
theorem evS1_lt {F : Nat → Int32} {x : Int32} {s : List Int32} (c : ¬ 0 ≤ x.toInt) (n : ¬ x = kI (-23)) (h : s.length < 2) : evS1 F x s = s := by
  unfold evS1
  rw [if_neg c, if_neg n]
  cases s with
  | nil => rfl
  | cons y t =>
    cases t with
    | nil => rfl
    | cons z t =>
      rw [List.length_cons, List.length_cons] at h
      omega
theorem evS1_two {F : Nat → Int32} {x y z : Int32} {t : List Int32} (c : ¬ 0 ≤ x.toInt) (n : ¬ x = kI (-23)) : evS1 F x (y :: z :: t) = f_159 (-x) z y :: t := by
  unfold evS1
  rw [if_neg c, if_neg n]
theorem evS1_not {F : Nat → Int32} {x y : Int32} {t : List Int32} (c : ¬ 0 ≤ x.toInt) (n : x = kI (-23)) : evS1 F x (y :: t) = (kI 1 - y) :: t := by
  unfold evS1
  rw [if_neg c, if_pos n]
theorem evS1_not0 {F : Nat → Int32} {x : Int32} (c : ¬ 0 ≤ x.toInt) (n : x = kI (-23)) : evS1 F x [] = [] := by
  unfold evS1
  rw [if_neg c, if_pos n]
theorem dn1 {x : Int32} {n : Nat} (h : x.toInt = ((n + 1 : Nat) : Int)) : (x + kI (-1)).toInt = (n : Nat) := by
  have m1 : (kI (-1)).toInt = -1 := by decide
  have rg := i_rg x
  rw [h] at rg
  rw [i_add (by rw [m1, h]; omega) (by rw [m1, h]; omega), m1, h]
  omega
theorem dn2 {x : Int32} {n : Nat} (h : x.toInt = ((n + 1 : Nat) : Int)) : (x - kI 1).toInt = (n : Nat) := by
  have rg := i_rg x
  rw [h] at rg
  rw [i_sub (by rw [h, kI1]; omega) (by rw [h, kI1]; omega), h, kI1]
  omega
def q158 (l fa : Nat) (p2 : Int32) (F : Nat → Int32) (x4 x5 : Int32) (M : pMem) (v : Int32) (N : pMem) : Prop := ∀ (i : Nat) (r s : List Int32), x5.toInt = i → p2.toInt = ((i + r.length : Nat) : Int) → i + r.length ≤ 500 →
  (∀ j x, r[j]? = some x → M (l + 5) (i + j) = x) → (∀ k, k < 14 → M fa k = F k) → x4.toInt = s.length → s.length ≤ 32 → stk M (l + 6) s → hS F r s → v = (evS F r s).headD 0 ∧ ∀ b, b ≠ l + 6 → N b = M b
theorem S_158_1w {l fa : Nat} (hfa : fa ≠ l + 6) {p1 p2 : Int32} {F : Nat → Int32} {P1 : Int32 → Int32 → pMem → pT Int32} (hP : ∀ x4 x5 M v N, P1 x4 x5 M v N → q158 l fa p2 F x4 x5 M v N) {x4 x5 : Int32} {M : pMem} {v : Int32} {N : pMem} (hs : S_158_1 l p1 p2 fa P1 x4 x5 M v N) : q158 l fa p2 F x4 x5 M v N := by
  intro i r s hx h2 h5 hr hF h4 h32 hst hh
  have k32 : (Int32.ofNat 32).toInt = 32 := by decide
  have k14 : (Int32.ofNat 14).toInt = 14 := by decide
  have k1 : (kI 1).toInt = 1 := rfl
  have hs := tIf_n (show ¬ x5 < 0 by rw [i_lt, hx, i_0]; omega) hs
  cases r with
  | nil =>
    have h2' : p2.toInt = i := by rw [h2]; show ((i + 0 : Nat) : Int) = i; omega
    have hs := tIf_p (show p2 ≤ x5 by rw [i_le, hx, h2']; omega) hs
    have nx : ∀ {q : Int32}, q.toInt = ((s.length - 1 : Nat) : Int) → s ≠ [] → v = M (l + 6) (ix q) → v = s.headD 0 := by
      intro q hq hne hv
      cases s with
      | nil => exact absurd rfl hne
      | cons x s' =>
        rw [hv, ix_of hq]
        exact (stk_pop hst).2
    rcases hs with ⟨g, hv, hN⟩ | ⟨g, c, hv, hN⟩
    · rw [i_le, h4, i_0] at g
      have e : s = [] := List.eq_nil_of_length_eq_zero (by omega)
      rw [hN, e]
      exact ⟨hv, fun _ _ => rfl⟩
    · rw [i_le, h4, i_0] at g
      rw [hN]
      refine ⟨nx (q := x4 - kI 1) ?_ (fun e => by rw [e] at g; exact g (Int.le_refl _)) hv, fun _ _ => rfl⟩
      rw [i_sub (by omega) (by omega), h4, k1]
      omega
  | cons x r =>
    have hlen : (x :: r).length = r.length + 1 := rfl
    rw [hlen] at h2 h5
    have hs := tIf_n (show ¬ p2 ≤ x5 by rw [i_le, hx, h2]; omega) hs
    have hs := tIf_n (show ¬ kI 500 ≤ x5 by rw [i_le, hx, kI_toInt (by decide) (by decide)]; omega) hs
    obtain ⟨_, hs⟩ := hs
    have ex : M (l + 5) (ix x5) = x := by rw [ix_of hx]; exact hr 0 x rfl
    rw [ex] at hs
    have xr := i_rg x
    have hr' : ∀ j y, r[j]? = some y → M (l + 5) (i + 1 + j) = y := fun j y hj => by
      have := hr (j + 1) y (by rw [List.getElem?_cons_succ]; exact hj)
      rw [show i + 1 + j = i + (j + 1) by omega]
      exact this
    have nx5 : (x5 + kI 1).toInt = ((i + 1 : Nat) : Int) := by rw [i_add1 (by omega), hx]; omega
    obtain ⟨hh1, hh2⟩ := hh
    -- further with another stack
    have go : ∀ {y4 : Int32} {M1 : pMem} {s1 : List Int32}, P1 y4 (x5 + kI 1) M1 v N → (∀ b, b ≠ l + 6 → M1 b = M b) → y4.toInt = s1.length → s1.length ≤ 32 → stk M1 (l + 6) s1 → evS1 F x s = s1 → v = (evS F (x :: r) s).headD 0 ∧ ∀ b, b ≠ l + 6 → N b = M b := by
      intro y4 M1 s1 hs fr hy hl hk he
      rw [he] at hh2
      obtain ⟨a1, a2⟩ := hP _ _ _ _ _ hs (i + 1) r s1 nx5 (by rw [h2]; omega) (by omega) (fun j y hj => by rw [fr (l + 5) (by omega)]; exact hr' j y hj) (fun k hk => by rw [fr fa hfa]; exact hF k hk) hy hl hk hh2
      refine ⟨?_, fun b hb => by rw [a2 b hb, fr b hb]⟩
      rw [a1]
      show (evS F r s1).headD 0 = (evS F r (evS1 F x s)).headD 0
      rw [he]
    have frp : ∀ {M1 : pMem} {j : Nat} {y : Int32}, M1 = aPut M (l + 6) j y → ∀ b, b ≠ l + 6 → M1 b = M b := fun e b hb => by
      funext j
      rw [e, aPut_cell hb]
    by_cases c : 0 ≤ x.toInt
    · obtain ⟨d1, d2⟩ := hh1 c
      have hs := tIf_n (show ¬ x < 0 by rw [i_lt, i_0]; omega) hs
      have e10 : (x - kI 10000).toInt = x.toInt - 10000 := by rw [i_sub (by rw [kI_toInt (by decide) (by decide)]; omega) (by rw [kI_toInt (by decide) (by decide)]; omega), kI_toInt (by decide) (by decide)]
      have hs := tIf_n (show ¬ Int32.ofNat 14 ≤ x - kI 10000 by rw [i_le, k14, e10]; omega) hs
      have hs := tIf_n (show ¬ Int32.ofNat 32 ≤ x4 by rw [i_le, k32, h4]; omega) hs
      have ny4 : (x4 + kI 1).toInt = ((s.length + 1 : Nat) : Int) := by rw [i_add1 (by omega), h4]; omega
      rcases hs with ⟨g, g2, _, M1, e1, hs⟩ | ⟨g, _, M1, e1, hs⟩
      · rw [i_le, i_0, e10] at g
        rw [ix_of h4] at e1
        obtain ⟨g3, g4⟩ := ix_in g2
        rw [hF _ g4] at e1
        refine go (s1 := F (ix (x - kI 10000)) :: s) hs (frp e1) ny4 (by rw [List.length_cons]; omega) (stk_push hst e1) ?_
        unfold evS1
        rw [if_pos c, if_neg (by omega)]
      · rw [i_le, i_0, e10] at g
        rw [ix_of h4] at e1
        refine go (s1 := x :: s) hs (frp e1) ny4 (by rw [List.length_cons]; omega) (stk_push hst e1) ?_
        unfold evS1
        rw [if_pos c, if_pos (by omega)]
    · have hs := tIf_p (show x < 0 by rw [i_lt, i_0]; omega) hs
      rcases hs with ⟨n23, hs⟩ | ⟨g, hs⟩
      · have hs := tIf_n (show ¬ 0 ≤ x by rw [i_le, i_0]; omega) hs
        rcases hs with ⟨g, hs⟩ | ⟨g, _, _, _, M1, e1, hs⟩
        · rw [i_lt, h4, kI_toInt (by decide) (by decide)] at g
          exact go hs (fun _ _ => rfl) h4 h32 hst (evS1_lt c n23 (by omega))
        · rw [i_lt, h4, kI_toInt (by decide) (by decide)] at g
          obtain ⟨y, z, t, es⟩ := two_of (s := s) (by omega)
          have e0 : evS1 F x s = f_159 (-x) z y :: t := by rw [es]; exact evS1_two c n23
          have ls : s.length = t.length + 1 + 1 := by rw [es]; rfl
          rw [es] at hst
          have l32 : (f_159 (-x) z y :: t).length ≤ 32 := by rw [List.length_cons]; omega
          have f1 : (x4 + kI (-1)).toInt = ((t.length + 1 : Nat) : Int) := dn1 (by rw [h4, ls])
          have f2 : (x4 + kI (-1) - kI 1).toInt = ((t.length : Nat) : Int) := dn2 f1
          rw [ix_of f1, ix_of f2] at e1
          obtain ⟨t1, t2⟩ := stk_pop hst
          obtain ⟨t3, t4⟩ := stk_pop t1
          rw [List.length_cons] at t2
          rw [t2, t4] at e1
          exact go (s1 := f_159 (-x) z y :: t) hs (frp e1) (by rw [f1, List.length_cons]) l32 (stk_push t3 e1) e0
      · have e23 := Classical.not_not.mp g
        rcases hs with ⟨g2, hs⟩ | ⟨g2, _, _, M1, e1, hs⟩
        · rw [i_lt, h4, k1] at g2
          have hs := tIf_n (show ¬ 0 ≤ x by rw [i_le, i_0]; omega) hs
          have hs := tIf_p (show x4 < kI 2 by rw [i_lt, h4, kI_toInt (by decide) (by decide)]; omega) hs
          have es : s = [] := List.eq_nil_of_length_eq_zero (by omega)
          exact go hs (fun _ _ => rfl) h4 h32 hst (by rw [es]; exact evS1_not0 c e23)
        · rw [i_lt, h4, k1] at g2
          obtain ⟨y, t, es⟩ := one_of (s := s) (by omega)
          have e0 : evS1 F x s = (kI 1 - y) :: t := by rw [es]; exact evS1_not c e23
          have ls : s.length = t.length + 1 := by rw [es]; rfl
          rw [es] at hst
          have l32 : ((kI 1 - y) :: t).length ≤ 32 := by rw [List.length_cons]; omega
          have f2 : (x4 - kI 1).toInt = ((t.length : Nat) : Int) := dn2 (by rw [h4, ls])
          rw [ix_of f2] at e1
          obtain ⟨t1, t2⟩ := stk_pop hst
          rw [t2] at e1
          exact go (s1 := (kI 1 - y) :: t) hs (frp e1) (by rw [h4, ls, List.length_cons]) l32 (stk_push t1 e1) e0
theorem D_158_w {l fa a : Nat} (hfa : fa ≠ l + 6) {p1 p2 : Int32} {F : Nat → Int32} {st : List Int32} {M : pMem} (h1 : p1.toInt = a) (h2 : p2.toInt = ((a + st.length : Nat) : Int)) (h5 : a + st.length ≤ 500) (hr : ∀ j x, st[j]? = some x → M (l + 5) (a + j) = x) (hF : ∀ k, k < 14 → M fa k = F k) (hh : hS F st []) {v : Int32} {N : pMem} (h : D_158 l p1 p2 fa M v N) : v = (evS F st []).headD 0 ∧ ∀ b, b ≠ l + 6 → N b = M b := by
  have q : q158 l fa p2 F (kI 0) p1 M v N := h (q158 l fa p2 F) (fun _ _ _ _ _ hs => S_158_1w hfa (fun _ _ _ _ _ h => h) hs)
  exact q a st [] h1 h2 h5 hr hF rfl (by decide) (fun i x hi => by cases hi) hh
/-! lines -/
def sl (o : List Cd) (a b : Nat) : List Cd := (o.take b).drop a
theorem stC_sl {o : List Cd} {a b : Nat} (h : a ≤ b) (hb : b ≤ o.length) : stC (o.take b) = stC (o.take a) ++ stC (sl o a b) := by
  rw [← stC_app]
  unfold sl
  have e : o.take a = (o.take b).take a := by rw [List.take_take, Nat.min_eq_left h]
  rw [e, List.take_append_drop]
theorem stC_all {o : List Cd} {b : Nat} : stC o = stC (o.take b) ++ stC (o.drop b) := by
  rw [← stC_app, List.take_append_drop]
def wfLn (o : List Cd) (x : Ln) : Prop := x.2.1 ≤ x.2.2.1 ∧ x.2.2.1 ≤ x.2.2.2 ∧ x.2.2.2 ≤ o.length ∧ ty (sl o x.2.1 x.2.2.1) [] = some [false] ∧ (x.2.2.1 = x.2.2.2 ∨ ty (sl o x.2.2.1 x.2.2.2) [] = some [true])
def wfLw (o : List Cd) (L : List Ln) : Prop := ∀ x, x ∈ L → wfLn o x
def teL (F : Nat → Int32) (o : List Cd) (w : Int32) : List Ln → Option Int32
  | [] => none
  | x :: r => if x.1 = w ∧ (x.2.2.1 = x.2.2.2 ∨ ¬ (ev F (sl o x.2.2.1 x.2.2.2) []).headD 0 = 0) then some ((ev F (sl o x.2.1 x.2.2.1) []).headD 0) else teL F o w r
theorem teL_n {F : Nat → Int32} {o : List Cd} {w : Int32} {x : Ln} {r : List Ln} (h : ¬ (x.1 = w ∧ (x.2.2.1 = x.2.2.2 ∨ ¬ (ev F (sl o x.2.2.1 x.2.2.2) []).headD 0 = 0))) : teL F o w (x :: r) = teL F o w r := by
  show (if x.1 = w ∧ (x.2.2.1 = x.2.2.2 ∨ ¬ (ev F (sl o x.2.2.1 x.2.2.2) []).headD 0 = 0) then some ((ev F (sl o x.2.1 x.2.2.1) []).headD 0) else teL F o w r) = _
  rw [if_neg h]
theorem teL_y {F : Nat → Int32} {o : List Cd} {w : Int32} {x : Ln} {r : List Ln} (h : x.1 = w ∧ (x.2.2.1 = x.2.2.2 ∨ ¬ (ev F (sl o x.2.2.1 x.2.2.2) []).headD 0 = 0)) : teL F o w (x :: r) = some ((ev F (sl o x.2.1 x.2.2.1) []).headD 0) := by
  show (if x.1 = w ∧ (x.2.2.1 = x.2.2.2 ∨ ¬ (ev F (sl o x.2.2.1 x.2.2.2) []).headD 0 = 0) then some ((ev F (sl o x.2.1 x.2.2.1) []).headD 0) else teL F o w r) = _
  rw [if_pos h]
theorem tv_one {s : List Int32} {b : Bool} (h : tv s [b]) : ∃ x, s = [x] ∧ (b = true → bo x) := by
  obtain ⟨x, r, rfl, h1, h2⟩ := tv_cons h
  cases r with
  | nil => exact ⟨x, rfl, h1⟩
  | cons y t => exact h2.elim
theorem stC_ne {o : List Cd} {b : Bool} (h : ty o [] = some [b]) : stC o ≠ [] := fun e => by
  obtain ⟨a1, a2, a3⟩ := evS_ev (F := fun _ => 0) (o := o) (s := []) (t := []) trivial (by decide) h
  rw [e] at a1
  have a1 : [] = ev (fun _ => 0) o [] := a1
  rw [← a1] at a3
  exact a3.elim
theorem rcO_ne {o : List Cd} {b : Bool} (h : ty o [] = some [b]) : rcO o ≠ [] := fun e => by
  cases o with
  | nil =>
    have h : some ([] : List Bool) = some [b] := h
    injection h with h
    cases h
  | cons q r =>
    obtain ⟨u, u1, u2, u3⟩ := ty_cons h
    have e2 : rcC q ++ rcO r = [] := e
    have e3 := (List.append_eq_nil_iff.mp e2).1
    unfold ty1 at u1
    by_cases c0 : q.1 = 0
    · have : rcC q = [(kI (0 : Nat), q.2)] := by unfold rcC; rw [c0]; rfl
      rw [this] at e3
      cases e3
    · rw [if_neg c0] at u1
      by_cases c1 : q.1 = 1
      · have : rcC q = [(kI (1 : Nat), q.2)] := by unfold rcC; rw [c1]; rfl
        rw [this] at e3
        cases e3
      · rw [if_neg c1] at u1
        by_cases c9 : q.1 = 9
        · rw [if_pos c9] at u1
          cases u1
        · rw [if_neg c9] at u1
          by_cases c2 : 2 ≤ q.1 ∧ q.1 ≤ 5
          · rw [if_pos c2] at u1
            cases u1
          · rw [if_neg c2] at u1
            by_cases c6 : 6 ≤ q.1 ∧ q.1 ≤ 8
            · rw [if_pos c6] at u1
              cases u1
            · rw [if_neg c6] at u1
              by_cases c10 : q.1 = 10 ∨ q.1 = 11
              · rw [if_pos c10] at u1
                cases u1
              · rw [if_neg c10] at u1
                cases u1
def q157 (l fa : Nat) (p1 p3 : Int32) (F : Nat → Int32) (o : List Cd) (L : List Ln) (x4 : Int32) (M : pMem) (v : Int32) (N : pMem) : Prop := ∀ i : Nat, x4.toInt = i → i ≤ L.length → clLaw M l o L → (∀ k, k < 14 → M fa k = F k) → v = (teL F o p1 (L.drop i)).getD p3 ∧ ∀ b, b ≠ l + 6 → N b = M b
theorem clLaw_eq {M N : pMem} {l : Nat} {o : List Cd} {L : List Ln} (h : clLaw M l o L) (e : ∀ b, l ≤ b → b ≤ l + 5 → N b = M b) : clLaw N l o L := by
  obtain ⟨h1, h2, h3, h4, h5⟩ := h
  refine ⟨by rw [e l (Nat.le_refl _) (by omega)]; exact h1, h2, h3, fun i x hi => by rw [e (l + 5) (by omega) (Nat.le_refl _)]; exact h4 i x hi, fun i x hi => ?_⟩
  rw [e (l + 1) (by omega) (by omega), e (l + 2) (by omega) (by omega), e (l + 3) (by omega) (by omega), e (l + 4) (by omega) (by omega)]
  exact h5 i x hi
/-- a slice of the class's steps -/
theorem cl_work {M : pMem} {l fa : Nat} (hfa : fa ≠ l + 6) {o : List Cd} {L : List Ln} (h : clLaw M l o L) {F : Nat → Int32} (hF : ∀ k, k < 14 → M fa k = F k) {a b : Nat} {t : Bool} (hab : a ≤ b) (hb : b ≤ o.length) (hty : ty (sl o a b) [] = some [t]) {p1 p2 : Int32} (h1 : p1.toInt = (stC (o.take a)).length) (h2 : p2.toInt = (stC (o.take b)).length) {v : Int32} {N : pMem} (hD : D_158 l p1 p2 fa M v N) : v = (ev F (sl o a b) []).headD 0 ∧ ∀ b, b ≠ l + 6 → N b = M b := by
  obtain ⟨e1, e2, _⟩ := evS_ev (F := F) (o := sl o a b) (s := []) (t := []) trivial (by decide) hty
  have es := stC_sl hab hb
  have ea := stC_all (o := o) (b := b)
  have hl : (stC (o.take b)).length = (stC (o.take a)).length + (stC (sl o a b)).length := by rw [es, List.length_append]
  have ha : (stC o).length = (stC (o.take b)).length + (stC (o.drop b)).length := by rw [← List.length_append, ← ea]
  obtain ⟨_, _, h3, h4, _⟩ := h
  have r := D_158_w hfa h1 (h2.trans (by rw [hl])) (by omega) (fun j x hj => h4 _ x (by
    have hj2 := (List.getElem?_eq_some_iff.mp hj).1
    rw [ea, es, List.append_assoc, List.getElem?_append_right (by omega), Nat.add_sub_cancel_left, List.getElem?_append_left hj2]
    exact hj)) hF e2 hD
  rw [e1] at r
  exact r
theorem S_157_1w {l fa : Nat} (hfa : fa ≠ l + 6) (hfl : fa < l ∨ l + 6 < fa) {p1 p3 : Int32} {F : Nat → Int32} {o : List Cd} {L : List Ln} (hw : wfLw o L) {P1 : Int32 → pMem → pT Int32} (hP : ∀ x4 M v N, P1 x4 M v N → q157 l fa p1 p3 F o L x4 M v N) {x4 : Int32} {M : pMem} {v : Int32} {N : pMem} (hs : S_157_1 l p1 fa p3 P1 x4 M v N) : q157 l fa p1 p3 F o L x4 M v N := by
  intro i hx hi hc hF
  obtain ⟨c1, c2, c3, c4, c5⟩ := id hc
  rcases hs with ⟨g, hv, hN⟩ | ⟨g, hs⟩
  · rw [i_le, c1, hx] at g
    rw [hN, drop_nil (by omega)]
    exact ⟨hv, fun _ _ => rfl⟩
  · rw [i_le, c1, hx] at g
    have hs := tIf_n (show ¬ kI 16 ≤ x4 by rw [i_le, hx, kI_toInt (by decide) (by decide)]; omega) hs
    obtain ⟨_, hs⟩ := hs
    have hi2 : i < L.length := by omega
    rw [ix_of hx] at hs
    have hx0 : L[i]? = some L[i] := List.getElem?_eq_getElem hi2
    obtain ⟨d1, d2, d3, d4, d5, d6, d7⟩ := c5 i L[i] hx0
    obtain ⟨w1, w2, w3, w4, w5⟩ := hw L[i] (List.getElem_mem hi2)
    rw [drop_at hi2]
    have nx : (x4 + kI 1).toInt = ((i + 1 : Nat) : Int) := by rw [i_add1 (by omega), hx]; omega
    have e8 := stC_sl w2 w3
    have l8 : (stC (o.take L[i].2.2.2)).length = (stC (o.take L[i].2.2.1)).length + (stC (sl o L[i].2.2.1 L[i].2.2.2)).length := by rw [e8, List.length_append]
    -- the next line
    have skip : ∀ {M1 : pMem}, P1 (x4 + kI 1) M1 v N → (∀ b, b ≠ l + 6 → M1 b = M b) → ¬ (L[i].1 = p1 ∧ (L[i].2.2.1 = L[i].2.2.2 ∨ ¬ (ev F (sl o L[i].2.2.1 L[i].2.2.2) []).headD 0 = 0)) → v = (teL F o p1 (L[i] :: L.drop (i + 1))).getD p3 ∧ ∀ b, b ≠ l + 6 → N b = M b := by
      intro M1 hs fr hn
      obtain ⟨a1, a2⟩ := hP _ _ _ _ hs (i + 1) nx (by omega) (clLaw_eq hc (fun b hb1 hb2 => fr b (by omega))) (fun k hk => by rw [fr fa hfa]; exact hF k hk)
      refine ⟨?_, fun b hb => by rw [a2 b hb, fr b hb]⟩
      rw [a1, teL_n hn]
    have take : ∀ {M1 : pMem} {v1 : Int32} {M2 : pMem}, (∀ b, b ≠ l + 6 → M1 b = M b) → D_158 l (M1 (l + 2) i) (M1 (l + 3) i) fa M1 v1 M2 → v = v1 → N = M2 → (L[i].1 = p1 ∧ (L[i].2.2.1 = L[i].2.2.2 ∨ ¬ (ev F (sl o L[i].2.2.1 L[i].2.2.2) []).headD 0 = 0)) → v = (teL F o p1 (L[i] :: L.drop (i + 1))).getD p3 ∧ ∀ b, b ≠ l + 6 → N b = M b := by
      intro M1 v1 M2 fr hD hv hN hy
      rw [fr (l + 2) (by omega), fr (l + 3) (by omega)] at hD
      obtain ⟨a1, a2⟩ := cl_work (F := F) hfa (clLaw_eq hc (fun b hb1 hb2 => fr b (by omega))) (fun k hk => by rw [fr fa hfa]; exact hF k hk) w1 (by omega) w4 d2 d3 hD
      rw [hv, hN]
      refine ⟨?_, fun b hb => by rw [a2 b hb, fr b hb]⟩
      rw [a1, teL_y hy]
      rfl
    rcases hs with ⟨g2, hs⟩ | ⟨g2, _, _, hs⟩
    · exact skip hs (fun _ _ => rfl) (fun q => g2 (d1.trans q.1))
    · have hw1 : L[i].1 = p1 := by rw [← d1]; exact Classical.not_not.mp g2
      rcases hs with ⟨g3, _, _, v1, M1, hD, hv, hN⟩ | ⟨g3, _, _, v1, M1, hD, hs⟩
      · refine take (fun _ _ => rfl) hD hv hN ⟨hw1, Or.inl ?_⟩
        rcases w5 with e | e
        · exact e
        · have q := stC_ne e
          rw [i_eq, d3, d4, l8] at g3
          exact absurd (List.eq_nil_of_length_eq_zero (by omega)) q
      · have ne : ¬ L[i].2.2.1 = L[i].2.2.2 := fun e => g3 (by rw [i_eq, d3, d4, e])
        have t5 := w5.resolve_left ne
        obtain ⟨a1, a2⟩ := cl_work hfa hc hF w2 w3 t5 d3 d4 hD
        rcases hs with ⟨g4, hs⟩ | ⟨g4, _, _, v2, M2, hD2, hv, hN⟩
        · refine skip hs a2 (fun q => q.2.elim ne (fun q => q ?_))
          rw [← a1]
          exact g4
        · refine take a2 hD2 hv hN ⟨hw1, Or.inr ?_⟩
          rw [← a1]
          exact g4
theorem D_157_w {l fa : Nat} (hfl : fa < l ∨ l + 6 < fa) {p1 p3 : Int32} {F : Nat → Int32} {o : List Cd} {L : List Ln} (hw : wfLw o L) {M : pMem} (hc : clLaw M l o L) (hF : ∀ k, k < 14 → M fa k = F k) {v : Int32} {N : pMem} (h : D_157 l p1 fa p3 M v N) : v = (teL F o p1 L).getD p3 ∧ ∀ b, b ≠ l + 6 → N b = M b := by
  have q : q157 l fa p1 p3 F o L (kI 0) M v N := h (q157 l fa p1 p3 F o L) (fun _ _ _ _ hs => S_157_1w (by omega) hfl hw (fun _ _ _ _ h => h) hs)
  exact q 0 rfl (Nat.zero_le _) hc hF
/-! the reference works codes out -/
def evR1 (F : Nat → Int32) (p : Int32 × Int32) (s : List Int32) : List Int32 :=
  if p.1 = 0 then p.2 :: s else if p.1 = kI 1 then F (ix p.2) :: s
  else if p.1 = kI 9 then (match s with | y :: r => (kI 1 - y) :: r | [] => [])
  else match s with | y :: x :: r => f_83 p.1 x y :: r | _ => s
def evR (F : Nat → Int32) : List (Int32 × Int32) → List Int32 → List Int32
  | [], s => s
  | p :: r, s => evR F r (evR1 F p s)
theorem evR_app {F : Nat → Int32} {a b : List (Int32 × Int32)} {s : List Int32} : evR F (a ++ b) s = evR F b (evR F a s) := by
  induction a generalizing s with
  | nil => rfl
  | cons x r ih => exact ih
theorem one_one {y : Int32} : kI 1 - (kI 1 - y) = y := by
  have e : kI 1 - (kI 1 - y) = kI (1 - (1 - y.toInt)) := by
    show kI 1 - (kI 1 - y) = Int32.ofInt (1 - (1 - y.toInt))
    rw [Int32.ofInt_sub, Int32.ofInt_sub, Int32.ofInt_toInt]
  rw [e]
  exact (kI_inj (by omega)).symm
theorem evR_nots {F : Nat → Int32} {y : Int32} {r : List Int32} : ∀ {n : Nat}, evR F (List.replicate n (kI 9, kI 0)) (y :: r) = (if n % 2 = 1 then kI 1 - y else y) :: r ∧ evR F (List.replicate n (kI 9, kI 0)) [] = []
  | 0 => ⟨rfl, rfl⟩
  | n + 1 => by
    have e1 : evR F (List.replicate (n + 1) (kI 9, kI 0)) (y :: r) = evR F (List.replicate n (kI 9, kI 0)) ((kI 1 - y) :: r) := rfl
    have e2 : evR F (List.replicate (n + 1) (kI 9, kI 0)) [] = evR F (List.replicate n (kI 9, kI 0)) [] := rfl
    refine ⟨?_, by rw [e2]; exact (evR_nots (y := y) (r := r) (n := n)).2⟩
    rw [e1, (evR_nots (n := n)).1, one_one]
    by_cases c : n % 2 = 1
    · rw [if_pos c, if_neg (by omega)]
    · rw [if_neg c, if_pos (by omega)]
theorem rcC_o {q : Cd} (h : q.1 ≠ 9) : rcC q = [(kI (q.1 : Nat), q.2)] := by
  obtain ⟨m, a⟩ := q
  unfold rcC
  split
  · rename_i e
    exact absurd e h
  · rfl
theorem evR_one {F : Nat → Int32} {q : Cd} {s : List Int32} {t u : List Bool} (hq : ty1 q t = some u) : evR F (rcC q) s = ev1 F q s := by
  by_cases c9 : q.1 = 9
  · obtain ⟨m, a⟩ := q
    have c9 : m = 9 := c9
    subst c9
    have hn : 0 ≤ a.toInt := by
      unfold ty1 at hq
      rw [if_neg (show ¬ (9 : Nat) = 0 by decide), if_neg (show ¬ (9 : Nat) = 1 by decide), if_pos rfl] at hq
      match t, hq with
      | true :: r, hq =>
        by_cases d : 0 ≤ a.toInt
        · exact d
        · dsimp only at hq
          rw [if_neg d] at hq
          cases hq
    have e : rcC (9, a) = List.replicate a.toInt.toNat (kI 9, kI 0) := rfl
    rw [e]
    unfold ev1
    rw [if_neg (show ¬ (9 : Nat) = 0 by decide), if_neg (show ¬ (9 : Nat) = 1 by decide), if_pos rfl]
    match s with
    | [] => exact (evR_nots (y := 0) (r := [])).2
    | y :: r =>
      rw [(evR_nots).1]
      show _ = (if a.toInt % 2 = 1 then kI 1 - y else y) :: r
      by_cases o : a.toInt % 2 = 1
      · rw [if_pos o, if_pos (by omega)]
      · rw [if_neg o, if_neg (by omega)]
  · rw [rcC_o c9]
    show evR1 F (kI (q.1 : Nat), q.2) s = ev1 F q s
    have h12 : q.1 ≤ 11 := by
      unfold ty1 at hq
      by_cases c0 : q.1 = 0
      · omega
      · rw [if_neg c0] at hq
        by_cases c1 : q.1 = 1
        · omega
        · rw [if_neg c1, if_neg c9] at hq
          by_cases c2 : 2 ≤ q.1 ∧ q.1 ≤ 5
          · omega
          · rw [if_neg c2] at hq
            by_cases c6 : 6 ≤ q.1 ∧ q.1 ≤ 8
            · omega
            · rw [if_neg c6] at hq
              by_cases c10 : q.1 = 10 ∨ q.1 = 11
              · omega
              · rw [if_neg c10] at hq
                cases hq
    have k : ∀ m : Nat, m ≤ 11 → (kI (q.1 : Nat) = kI (m : Nat) ↔ q.1 = m) := fun m hm => by
      rw [yk (by omega) (by omega), kI_toInt (by omega) (by omega)]
      omega
    have k0 : kI (q.1 : Nat) = 0 ↔ q.1 = 0 := k 0 (by omega)
    have k1 : kI (q.1 : Nat) = kI 1 ↔ q.1 = 1 := k 1 (by omega)
    have k9 : kI (q.1 : Nat) = kI 9 ↔ q.1 = 9 := k 9 (by omega)
    unfold evR1 ev1
    dsimp only
    by_cases c0 : q.1 = 0
    · rw [if_pos (k0.mpr c0), if_pos c0]
    · rw [if_neg (fun e => c0 (k0.mp e)), if_neg c0]
      by_cases c1 : q.1 = 1
      · rw [if_pos (k1.mpr c1), if_pos c1]
      · rw [if_neg (fun e => c1 (k1.mp e)), if_neg c1, if_neg (fun e => c9 (k9.mp e)), if_neg c9]
        all_goals (rcases s with _ | ⟨y, _ | ⟨x, r⟩⟩ <;> rfl)
theorem evR_ev {F : Nat → Int32} : ∀ {o : List Cd} {s : List Int32} {t u : List Bool}, ty o t = some u → evR F (rcO o) s = ev F o s
  | [], _, _, _, _ => rfl
  | q :: r, s, t, u, hq => by
    obtain ⟨w, a1, _, a3⟩ := ty_cons hq
    have e : rcO (q :: r) = rcC q ++ rcO r := rfl
    rw [e, evR_app, evR_one a1]
    exact evR_ev a3
theorem evR1_two {F : Nat → Int32} {p : Int32 × Int32} {y z : Int32} {t : List Int32} (g : ¬ p.1 = 0) (g1 : ¬ p.1 = kI 1) (g9 : ¬ p.1 = kI 9) : evR1 F p (y :: z :: t) = f_83 p.1 z y :: t := by
  unfold evR1
  rw [if_neg g, if_neg g1, if_neg g9]
theorem evR1_not {F : Nat → Int32} {p : Int32 × Int32} {y : Int32} {t : List Int32} (g : ¬ p.1 = 0) (g1 : ¬ p.1 = kI 1) (g9 : p.1 = kI 9) : evR1 F p (y :: t) = (kI 1 - y) :: t := by
  unfold evR1
  rw [if_neg g, if_neg g1, if_pos g9]
def q84 (p1 p3 : Int32) (k : Nat) (F : Nat → Int32) (x4 x5 : Int32) (M : pMem) (v : Int32) (N : pMem) : Prop := ∀ (i : Nat) (r : List (Int32 × Int32)) (s : List Int32) (y : Int32), x5.toInt = ((500 * k + i : Nat) : Int) → (kI 500 * p1 + p3).toInt = ((500 * k + (i + r.length) : Nat) : Int) → i + r.length ≤ 500 →
  (∀ j x, r[j]? = some x → M 210 (500 * k + (i + j)) = x.1 ∧ M 211 (500 * k + (i + j)) = x.2) → (∀ j, j < 14 → M 216 j = F j) → x4.toInt = s.length → stk M 217 s → evR F r s = [y] → v = y ∧ ∀ b, b ≠ 217 → N b = M b
theorem S_84_1w {p1 p2 p3 : Int32} {k : Nat} (hk : k < 5) {F : Nat → Int32} {P1 : Int32 → Int32 → pMem → pT Int32} (hP : ∀ x4 x5 M v N, P1 x4 x5 M v N → q84 p1 p3 k F x4 x5 M v N) {x4 x5 : Int32} {M : pMem} {v : Int32} {N : pMem} (hs : S_84_1 p1 p2 p3 P1 x4 x5 M v N) : q84 p1 p3 k F x4 x5 M v N := by
  intro i r s y hx he h5 hr hF h4 hst hv
  have k1 : (kI 1).toInt = 1 := rfl
  cases r with
  | nil =>
    rw [List.length_nil, Nat.add_zero] at he
    obtain ⟨_, hv', hN⟩ := tIf_p (show kI 500 * p1 + p3 ≤ x5 by rw [i_le, he, hx]; exact Int.le_refl _) hs
    have hv : s = [y] := hv
    subst hv
    rw [hN]
    exact ⟨by rw [hv']; exact hst 0 y rfl, fun _ _ => rfl⟩
  | cons p r =>
    rw [List.length_cons] at he h5
    have hs := tIf_n (show ¬ kI 500 * p1 + p3 ≤ x5 by rw [i_le, he, hx]; omega) hs
    obtain ⟨_, hs⟩ := hs
    obtain ⟨d1, d2⟩ := hr 0 p rfl
    rw [ix_of hx] at hs
    rw [Nat.add_zero] at d1 d2
    rw [d1, d2] at hs
    have hr' : ∀ j x, r[j]? = some x → M 210 (500 * k + (i + 1 + j)) = x.1 ∧ M 211 (500 * k + (i + 1 + j)) = x.2 := fun j x hj => by
      have := hr (j + 1) x (by rw [List.getElem?_cons_succ]; exact hj)
      rw [show i + 1 + j = i + (j + 1) by omega]
      exact this
    have nx5 : (x5 + kI 1).toInt = ((500 * k + (i + 1) : Nat) : Int) := by rw [i_add1 (by omega), hx]; omega
    have hv : evR F r (evR1 F p s) = [y] := hv
    have go : ∀ {y4 : Int32} {M1 : pMem} {s1 : List Int32} {j : Nat} {z : Int32}, P1 y4 (x5 + kI 1) M1 v N → M1 = aPut M 217 j z → y4.toInt = s1.length → stk M1 217 s1 → evR1 F p s = s1 → v = y ∧ ∀ b, b ≠ 217 → N b = M b := by
      intro y4 M1 s1 j z hs e1 hy hk1 hev
      rw [hev] at hv
      have fr : ∀ b, b ≠ 217 → M1 b = M b := fun b hb => by
        funext j
        rw [e1, aPut_cell hb]
      obtain ⟨a1, a2⟩ := hP _ _ _ _ _ hs (i + 1) r s1 y nx5 (by rw [he]; omega) (by omega) (fun j x hj => by rw [fr 210 (by decide), fr 211 (by decide)]; exact hr' j x hj) (fun k hk => by rw [fr 216 (by decide)]; exact hF k hk) hy hk1 hv
      exact ⟨a1, fun b hb => by rw [a2 b hb, fr b hb]⟩
    rcases hs with ⟨g, _, hs⟩ | ⟨g, _, hs⟩
    · obtain ⟨_, g4, M1, e1, hs⟩ := tIf_n (nn g) hs
      obtain ⟨g5, g6⟩ := ix_in g4
      rw [ix_of h4] at e1 g6
      refine go hs e1 (by rw [i_add1 (by omega), h4, List.length_cons]; omega) (stk_push hst e1) ?_
      unfold evR1
      rw [if_pos g]
    · rcases hs with ⟨g1, _, hs⟩ | ⟨g1, _, hs⟩
      · rcases hs with ⟨g9, _, ga, gb, _, M1, e1, hs⟩ | ⟨g9, ga, _, M1, e1, hs⟩
        · obtain ⟨a1, a2⟩ := ix_in ga
          obtain ⟨b1, b2⟩ := ix_in gb
          have rg := i_rg x4
          have f1 : (x4 - kI 1).toInt = (s.length : Int) - 1 := by rw [i_sub (by rw [h4, k1]; omega) (by rw [h4, k1]; omega), h4, k1]
          have f2 : (x4 - kI 1 - kI 1).toInt = (s.length : Int) - 2 := by rw [i_sub (by rw [f1, k1]; omega) (by rw [f1, k1]; omega), f1, k1]; omega
          obtain ⟨y2, z, t, es⟩ := two_of (s := s) (by omega)
          have e0 : evR1 F p s = f_83 p.1 z y2 :: t := by rw [es]; exact evR1_two g g1 g9
          have ls : s.length = t.length + 1 + 1 := by rw [es]; rfl
          have hst' := hst
          rw [es] at hst'
          have f1' : (x4 - kI 1).toInt = ((t.length + 1 : Nat) : Int) := by rw [f1]; omega
          have f2' : (x4 - kI 1 - kI 1).toInt = ((t.length : Nat) : Int) := by rw [f2]; omega
          rw [ix_of f1', ix_of f2'] at e1
          obtain ⟨t1, t2⟩ := stk_pop hst'
          obtain ⟨t3, t4⟩ := stk_pop t1
          rw [List.length_cons] at t2
          rw [t2, t4] at e1
          exact go (s1 := f_83 p.1 z y2 :: t) hs e1 (by rw [f1', List.length_cons]) (stk_push t3 e1) e0
        · have e9 := Classical.not_not.mp g9
          obtain ⟨a1, a2⟩ := ix_in ga
          have rg := i_rg x4
          have f1 : (x4 - kI 1).toInt = (s.length : Int) - 1 := by rw [i_sub (by rw [h4, k1]; omega) (by rw [h4, k1]; omega), h4, k1]
          obtain ⟨z, t, es⟩ := one_of (s := s) (by omega)
          have e0 : evR1 F p s = (kI 1 - z) :: t := by rw [es]; exact evR1_not g g1 e9
          have ls : s.length = t.length + 1 := by rw [es]; rfl
          have hst' := hst
          rw [es] at hst'
          have f1' : (x4 - kI 1).toInt = ((t.length : Nat) : Int) := by rw [f1]; omega
          rw [ix_of f1'] at e1
          obtain ⟨t1, t2⟩ := stk_pop hst'
          rw [t2] at e1
          exact go (s1 := (kI 1 - z) :: t) hs e1 (by rw [h4, ls, List.length_cons]) (stk_push t1 e1) e0
      · have e1' := Classical.not_not.mp g1
        have hs := tIf_p g hs
        obtain ⟨_, g3, g4, M1, e1, hs⟩ := hs
        obtain ⟨g5, g6⟩ := ix_in g4
        obtain ⟨g7, g8⟩ := ix_in g3
        rw [ix_of h4] at e1 g6
        rw [hF _ g8] at e1
        refine go hs e1 (by rw [i_add1 (by omega), h4, List.length_cons]; omega) (stk_push hst e1) ?_
        unfold evR1
        rw [if_neg g, if_pos e1']
theorem D_84_w {p1 p2 p3 : Int32} {k a : Nat} (hk : k < 5) {F : Nat → Int32} {r : List (Int32 × Int32)} {y : Int32} {M : pMem} (h1 : p1.toInt = k) (h2 : p2.toInt = a) (h3 : p3.toInt = ((a + r.length : Nat) : Int)) (h5 : a + r.length ≤ 500) (hr : ∀ j x, r[j]? = some x → M 210 (500 * k + (a + j)) = x.1 ∧ M 211 (500 * k + (a + j)) = x.2) (hF : ∀ j, j < 14 → M 216 j = F j) (hv : evR F r [] = [y]) {v : Int32} {N : pMem} (h : D_84 p1 p2 p3 M v N) : v = y ∧ ∀ b, b ≠ 217 → N b = M b := by
  have q : q84 p1 p3 k F (kI 0) (kI 500 * p1 + p2) M v N := h (q84 p1 p3 k F) (fun _ _ _ _ _ hs => S_84_1w hk (fun _ _ _ _ _ h => h) hs)
  have m : (kI 500 * p1).toInt = 500 * k := by rw [i_mul (by rw [h1, kI_toInt (by decide) (by decide)]; omega) (by rw [h1, kI_toInt (by decide) (by decide)]; omega), h1, kI_toInt (by decide) (by decide)]
  exact q a r [] y (by rw [i_add (by rw [m, h2]; omega) (by rw [m, h2]; omega), m, h2]; omega) (by rw [i_add (by rw [m, h3]; omega) (by rw [m, h3]; omega), m, h3]; omega) h5 hr hF rfl (fun i x hi => by cases hi) hv
/-- the reference's law at k -/
def rLR (M : pMem) (k : Nat) (o : List Cd) (L : List Ln) : Prop := rfLaw (M 204 k) (M 205) (M 206) (M 207) (M 208) (16 * k) (M 209 k) (M 210) (M 211) (500 * k) o L ∧ (rcO o).length ≤ 500
theorem rLR_eq {M N : pMem} {k : Nat} {o : List Cd} {L : List Ln} (h : rLR M k o L) (e : ∀ b, 204 ≤ b → b ≤ 211 → N b = M b) : rLR N k o L := by
  unfold rLR at h ⊢
  rw [e 204 (by decide) (by decide), e 205 (by decide) (by decide), e 206 (by decide) (by decide), e 207 (by decide) (by decide), e 208 (by decide) (by decide), e 209 (by decide) (by decide), e 210 (by decide) (by decide), e 211 (by decide) (by decide)]
  exact h
theorem rcO_sl {o : List Cd} {a b : Nat} (h : a ≤ b) : rcO (o.take b) = rcO (o.take a) ++ rcO (sl o a b) := by
  rw [← rcO_app]
  unfold sl
  have e : o.take a = (o.take b).take a := by rw [List.take_take, Nat.min_eq_left h]
  rw [e, List.take_append_drop]
theorem rcO_all {o : List Cd} {b : Nat} : rcO o = rcO (o.take b) ++ rcO (o.drop b) := by
  rw [← rcO_app, List.take_append_drop]
theorem rf_work {M : pMem} {k : Nat} (hk : k < 5) {o : List Cd} {L : List Ln} (h : rLR M k o L) {F : Nat → Int32} (hF : ∀ k, k < 14 → M 216 k = F k) {a b : Nat} {t : Bool} (hab : a ≤ b) (hty : ty (sl o a b) [] = some [t]) {p1 p2 p3 : Int32} (h1 : p1.toInt = k) (h2 : p2.toInt = (rcO (o.take a)).length) (h3 : p3.toInt = (rcO (o.take b)).length) {v : Int32} {N : pMem} (hD : D_84 p1 p2 p3 M v N) : v = (ev F (sl o a b) []).headD 0 ∧ ∀ b, b ≠ 217 → N b = M b := by
  obtain ⟨_, _, e3⟩ := evS_ev (F := F) (o := sl o a b) (s := []) (t := []) trivial (by decide) hty
  obtain ⟨y, ey, _⟩ := tv_one e3
  have es := rcO_sl (o := o) hab
  have ea := rcO_all (o := o) (b := b)
  have hl : (rcO (o.take b)).length = (rcO (o.take a)).length + (rcO (sl o a b)).length := by rw [es, List.length_append]
  have ha : (rcO o).length = (rcO (o.take b)).length + (rcO (o.drop b)).length := by
    rw [← List.length_append, ← ea]
  obtain ⟨⟨_, _, g3, _⟩, g5⟩ := h
  have r := D_84_w hk h1 h2 (h3.trans (by rw [hl])) (by omega) (fun j x hj => g3 _ x (by
    have hj2 := (List.getElem?_eq_some_iff.mp hj).1
    rw [ea, es, List.append_assoc, List.getElem?_append_right (by omega), Nat.add_sub_cancel_left, List.getElem?_append_left hj2]
    exact hj)) hF ((evR_ev (F := F) (s := []) hty).trans ey) hD
  rw [ey]
  exact r
/-- what else is as it was -/
def fr85 (M N : pMem) : Prop := (∀ b, b ≠ 217 → b ≠ 188 → N b = M b) ∧ ∀ j, j ≠ 51 → N 188 j = M 188 j
theorem fr85_t {M N K : pMem} (h : fr85 M N) (g : fr85 N K) : fr85 M K := ⟨fun b h1 h2 => (g.1 b h1 h2).trans (h.1 b h1 h2), fun j hj => (g.2 j hj).trans (h.2 j hj)⟩
theorem fr85_w {M N : pMem} (h : ∀ b, b ≠ 217 → N b = M b) : fr85 M N := ⟨fun b h1 _ => h b h1, fun j _ => by rw [h 188 (by decide)]⟩
theorem fr85_p {M : pMem} {x : Int32} : fr85 M (aPut M 188 51 x) := ⟨fun b _ h => by
  funext j
  exact aPut_cell h, fun j hj => aPut_at hj⟩
def q85 (p1 w : Int32) (k : Nat) (F : Nat → Int32) (o : List Cd) (L : List Ln) (x2 : Int32) (M : pMem) (v : Int32) (N : pMem) : Prop := ∀ i : Nat, x2.toInt = ((16 * k + i : Nat) : Int) → i ≤ L.length → rLR M k o L → (∀ k, k < 14 → M 216 k = F k) → (M 188 4).toInt = k →
  v = (teL F o w (L.drop i)).getD 0 ∧ N 188 51 = (if teL F o w (L.drop i) = none then kI 0 else kI 1) ∧ fr85 M N
theorem S_85_1w {p1 w : Int32} (hw1 : w.toInt = p1.toInt + 14) {k : Nat} (hk : k < 5) {F : Nat → Int32} {o : List Cd} {L : List Ln} (hL : L.length ≤ 16) (hw : wfLw o L) {P1 : Int32 → pMem → pT Int32} (hP : ∀ x2 M v N, P1 x2 M v N → q85 p1 w k F o L x2 M v N) {x2 : Int32} {M : pMem} {v : Int32} {N : pMem} (hs : S_85_1 p1 P1 x2 M v N) : q85 p1 w k F o L x2 M v N := by
  intro i hx hi hc hF h4
  obtain ⟨⟨c1, c2, c3, c4⟩, c5⟩ := id hc
  obtain ⟨_, hs⟩ := hs
  have m : (kI 16 * M 188 4).toInt = 16 * k := by rw [i_mul (by rw [h4, kI_toInt (by decide) (by decide)]; omega) (by rw [h4, kI_toInt (by decide) (by decide)]; omega), h4, kI_toInt (by decide) (by decide)]
  have me : (kI 16 * M 188 4 + M 204 (ix (M 188 4))).toInt = ((16 * k + L.length : Nat) : Int) := by
    rw [ix_of h4, i_add (by rw [m, c1]; omega) (by rw [m, c1]; omega), m, c1]
    omega
  rcases hs with ⟨g, M1, e1, hv, hN⟩ | ⟨g, _, hs⟩
  · rw [i_le, me, hx] at g
    rw [hN, e1, drop_nil (by omega)]
    exact ⟨hv, aPut_same, fr85_p⟩
  · rw [i_le, me, hx] at g
    have hi2 : i < L.length := by omega
    rw [ix_of hx] at hs
    have hx0 : L[i]? = some L[i] := List.getElem?_eq_getElem hi2
    obtain ⟨d1, d2, d3, d4, d5, d6, d7⟩ := c4 i L[i] hx0
    obtain ⟨w1, w2, w3, w4, w5⟩ := hw L[i] (List.getElem_mem hi2)
    rw [drop_at hi2]
    have nx : (x2 + kI 1).toInt = ((16 * k + (i + 1) : Nat) : Int) := by rw [i_add1 (by omega), hx]; omega
    have e8 := rcO_sl (o := o) w2
    have l8 : (rcO (o.take L[i].2.2.2)).length = (rcO (o.take L[i].2.2.1)).length + (rcO (sl o L[i].2.2.1 L[i].2.2.2)).length := by rw [e8, List.length_append]
    have wd : M 205 (16 * k + i) = p1 ↔ L[i].1 = w := by rw [i_eq, i_eq, hw1, ← d1]; omega
    have skip : ∀ {M1 : pMem}, P1 (x2 + kI 1) M1 v N → (∀ b, b ≠ 217 → M1 b = M b) → ¬ (L[i].1 = w ∧ (L[i].2.2.1 = L[i].2.2.2 ∨ ¬ (ev F (sl o L[i].2.2.1 L[i].2.2.2) []).headD 0 = 0)) →
        v = (teL F o w (L[i] :: L.drop (i + 1))).getD 0 ∧ N 188 51 = (if teL F o w (L[i] :: L.drop (i + 1)) = none then kI 0 else kI 1) ∧ fr85 M N := by
      intro M1 hs fr hn
      obtain ⟨a1, a2, a3⟩ := hP _ _ _ _ hs (i + 1) nx (by omega) (rLR_eq hc (fun b hb1 hb2 => fr b (by omega))) (fun k hk => by rw [fr 216 (by decide)]; exact hF k hk) (by rw [fr 188 (by decide)]; exact h4)
      have e : teL F o w (L[i] :: L.drop (i + 1)) = teL F o w (L.drop (i + 1)) := by
        exact teL_n hn
      rw [e]
      exact ⟨a1, a2, fr85_t (fr85_w fr) a3⟩
    have take : ∀ {M1 : pMem} {v1 : Int32} {M2 : pMem}, (∀ b, b ≠ 217 → M1 b = M b) → D_84 ((aPut M1 188 51 (kI 1)) 188 4) ((aPut M1 188 51 (kI 1)) 206 (16 * k + i)) ((aPut M1 188 51 (kI 1)) 207 (16 * k + i)) (aPut M1 188 51 (kI 1)) v1 M2 → v = v1 → N = M2 → (L[i].1 = w ∧ (L[i].2.2.1 = L[i].2.2.2 ∨ ¬ (ev F (sl o L[i].2.2.1 L[i].2.2.2) []).headD 0 = 0)) →
        v = (teL F o w (L[i] :: L.drop (i + 1))).getD 0 ∧ N 188 51 = (if teL F o w (L[i] :: L.drop (i + 1)) = none then kI 0 else kI 1) ∧ fr85 M N := by
      intro M1 v1 M2 fr hD hv hN hy
      have f2 : ∀ b, b ≠ 217 → b ≠ 188 → (aPut M1 188 51 (kI 1)) b = M b := fun b h1 h2 => by
        rw [← fr b h1]
        funext j
        exact aPut_cell h2
      rw [aPut_at (show (4 : Nat) ≠ 51 by decide), fr 188 (by decide), f2 206 (by decide) (by decide), f2 207 (by decide) (by decide)] at hD
      obtain ⟨a1, a2⟩ := rf_work (F := F) hk (rLR_eq hc (fun b hb1 hb2 => f2 b (by omega) (by omega))) (fun k hk => by rw [f2 216 (by decide) (by decide)]; exact hF k hk) w1 w4 h4 d2 d3 hD
      have e : teL F o w (L[i] :: L.drop (i + 1)) = some ((ev F (sl o L[i].2.1 L[i].2.2.1) []).headD 0) := by
        exact teL_y hy
      rw [e, hv, hN]
      refine ⟨a1, ?_, fr85_t (fr85_w fr) (fr85_t fr85_p (fr85_w a2))⟩
      rw [a2 188 (by decide), aPut_same, if_neg (by intro q; cases q)]
    rcases hs with ⟨g2, hs⟩ | ⟨g2, _, _, hs⟩
    · exact skip hs (fun _ _ => rfl) (fun q => g2 (wd.mpr q.1))
    · have hwd := wd.mp (Classical.not_not.mp g2)
      rcases hs with ⟨g3, M1, e1, _, _, v1, M2, hD, hv, hN⟩ | ⟨g3, _, _, v1, M1, hD, hs⟩
      · rw [e1] at hD
        refine take (fun _ _ => rfl) hD hv hN ⟨hwd, Or.inl ?_⟩
        rcases w5 with e | e
        · exact e
        · have q := rcO_ne e
          rw [i_le, d3, d4, l8] at g3
          exact absurd (List.eq_nil_of_length_eq_zero (by omega)) q
      · have ne : ¬ L[i].2.2.1 = L[i].2.2.2 := fun e => g3 (by rw [i_le, d3, d4, e]; exact Int.le_refl _)
        have t5 := w5.resolve_left ne
        obtain ⟨a1, a2⟩ := rf_work hk hc hF w2 t5 h4 d3 d4 hD
        rcases hs with ⟨g4, M2, e2, _, _, v2, M3, hD2, hv, hN⟩ | ⟨g4, hs⟩
        · rw [e2] at hD2
          refine take a2 hD2 hv hN ⟨hwd, Or.inr ?_⟩
          rw [← a1]
          exact g4
        · refine skip hs a2 (fun q => q.2.elim ne (fun q => q ?_))
          rw [← a1]
          exact Classical.not_not.mp g4
theorem D_85_w {p1 w : Int32} (hw1 : w.toInt = p1.toInt + 14) {k : Nat} (hk : k < 5) {F : Nat → Int32} {o : List Cd} {L : List Ln} (hL : L.length ≤ 16) (hw : wfLw o L) {M : pMem} (hc : rLR M k o L) (hF : ∀ k, k < 14 → M 216 k = F k) (h4 : (M 188 4).toInt = k) {v : Int32} {N : pMem} (h : D_85 p1 M v N) :
    v = (teL F o w L).getD 0 ∧ N 188 51 = (if teL F o w L = none then kI 0 else kI 1) ∧ fr85 M N := by
  have q : q85 p1 w k F o L (kI 16 * M 188 4) M v N := h (q85 p1 w k F o L) (fun _ _ _ _ hs => S_85_1w hw1 hk hL hw (fun _ _ _ _ h => h) hs)
  exact q 0 (by rw [i_mul (by rw [h4, kI_toInt (by decide) (by decide)]; omega) (by rw [h4, kI_toInt (by decide) (by decide)]; omega), h4, kI_toInt (by decide) (by decide)]; omega) (Nat.zero_le _) hc hF h4
