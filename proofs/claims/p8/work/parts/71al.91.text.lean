/-! text: a law, both sides; what fault tells -/
theorem D_7_law {M : pMem} {n k : Nat} {p1 p2 : Int32} (hn : n ≤ 500) (hM : (M 1 0).toInt = n) (h1 : p1 = kI 0) (hk : p2.toInt = k) (hk4 : k < 4) {v : Int32} {N : pMem} (h : D_7 p1 p2 M v N) :
    ∃ r, laR (yT (M 2) n) (yV (M 2) n) 16 0 [] r ∧ (r.1 = 0 → v.toInt = (r.2.2.2.length : Nat) ∧ N 6 4 = kI 0 ∧ N 6 5 = kI (-1) ∧ clLaw N (30 + 11 * k) r.2.2.1 r.2.2.2) ∧ (r.1 ≠ 0 → v = kI (-1) ∧ N 6 4 = kI r.1 ∧ N 6 5 = kI (xSt (M 2) n r.2.1)) := by
  obtain ⟨_, M1, h170, h⟩ := h
  obtain ⟨c, z1, z2, z3⟩ := D_170_w hn hM h170
  have h := tIf_n (show ¬ ¬ p1 = 0 from nn h1) h
  have h := tIf_n (f_33_iff.mpr (by omega)) h
  obtain ⟨_, v2, M2, h174, M3, e3, hv, hN⟩ := h
  rw [ix_of hk] at h174
  obtain ⟨r, r1, r2, r3⟩ := D_174_w (l := 30 + 11 * k) (by omega) z1 h174
  rw [hv, hN]
  refine ⟨r, r1, fun e => ?_, fun e => ?_⟩
  · obtain ⟨a1, a2, a3, a4⟩ := r2 e
    refine ⟨a1, by rw [e3, aPut_cell (by decide), a2, z2], by rw [e3, aPut_cell (by decide), a3, z3], ?_⟩
    obtain ⟨b1, b2, b3, b4, b5⟩ := a4
    have q : ∀ o, M3 (30 + 11 * k + o) = M2 (30 + 11 * k + o) := fun o => by
      funext j
      rw [e3, aPut_cell (by omega)]
    refine ⟨by rw [show M3 (30 + 11 * k) = M2 (30 + 11 * k) from q 0]; exact b1, b2, b3, fun i x hi => by rw [q 5]; exact b4 i x hi, fun i x hi => ?_⟩
    rw [q 1, q 2, q 3, q 4]
    exact b5 i x hi
  · obtain ⟨a1, a2, a3⟩ := r3 e
    exact ⟨a1, by rw [e3, aPut_cell (by decide), a2], by rw [e3, aPut_cell (by decide), a3]⟩
/-- the class: no such text -/
theorem D_7_no {M : pMem} {n : Nat} {p1 p2 : Int32} (hn : n ≤ 500) (hM : (M 1 0).toInt = n) (c : ¬ ((p1 = kI 0 ∨ p1 = kI 1) ∧ 0 ≤ p2.toInt ∧ p2.toInt < 4)) {v : Int32} {N : pMem} (h : D_7 p1 p2 M v N) : v = kI (-1) ∧ N 6 4 = kI 0 ∧ N 6 5 = kI (-1) := by
  obtain ⟨_, M1, h170, h⟩ := h
  obtain ⟨c', z1, z2, z3⟩ := D_170_w hn hM h170
  have no : ∀ {M2 : pMem}, M2 = aPut M1 1 0 (kI 0) → v = kI (-1) → N = M2 → v = kI (-1) ∧ N 6 4 = kI 0 ∧ N 6 5 = kI (-1) := by
    intro M2 e hv hN
    rw [hN, e]
    exact ⟨hv, by rw [aPut_cell (by decide), z2], by rw [aPut_cell (by decide), z3]⟩
  rcases h with ⟨g, h⟩ | ⟨g, h⟩
  · rcases h with ⟨g2, M2, e2, hv, hN⟩ | ⟨g2, h⟩
    · exact no e2 hv hN
    · rcases h with ⟨g3, M2, e2, hv, hN⟩ | ⟨g3, h⟩
      · exact no e2 hv hN
      · exact absurd ⟨Or.inr (Classical.not_not.mp g2), f_33_iff.mp g3⟩ c
  · have p0 : p1 = kI 0 := Classical.not_not.mp g
    rcases h with ⟨g3, h⟩ | ⟨g3, h⟩
    · have h := tIf_p (show ¬ p1 = kI 1 by rw [p0]; decide) h
      obtain ⟨M2, e2, hv, hN⟩ := h
      exact no e2 hv hN
    · exact absurd ⟨Or.inl p0, f_33_iff.mp g3⟩ c
/-- the reference's rows of a law -/
def rfLaw (m : Int32) (So Fr Su To : Nat → Int32) (b : Nat) (cm : Int32) (Op Ar : Nat → Int32) (c : Nat) (o : List Cd) (L : List Ln) : Prop :=
  m.toInt = L.length ∧ cm.toInt = (rcO o).length ∧ (∀ i x, (rcO o)[i]? = some x → Op (c + i) = x.1 ∧ Ar (c + i) = x.2) ∧
  ∀ i x, L[i]? = some x → (So (b + i)).toInt + 14 = x.1.toInt ∧ (Fr (b + i)).toInt = (rcO (o.take x.2.1)).length ∧ (Su (b + i)).toInt = (rcO (o.take x.2.2.1)).length ∧ (To (b + i)).toInt = (rcO (o.take x.2.2.2)).length ∧ x.2.1 ≤ x.2.2.1 ∧ x.2.2.1 ≤ x.2.2.2 ∧ x.2.2.2 ≤ o.length
/-- takesLaw -/
theorem D_78_w {M0 : pMem} {k n c : Nat} {p1 p2 : Int32} (hk : p1.toInt = k) (hk4 : k < 4) (hn : p2.toInt = n) (hn16 : n ≤ 16) (hc : (M0 188 38).toInt = c) (hc5 : c ≤ 500) {v : Unit} {N : pMem} (h : D_78 p1 p2 M0 v N) :
    (N 204 k).toInt = n ∧ (N 209 k).toInt = c ∧ (∀ j, ¬ j = k → N 204 j = M0 204 j ∧ N 209 j = M0 209 j) ∧
    (∀ i, i < n → N 205 (16 * k + i) = M0 205 (64 + i) ∧ N 206 (16 * k + i) = M0 206 (64 + i) ∧ N 207 (16 * k + i) = M0 207 (64 + i) ∧ N 208 (16 * k + i) = M0 208 (64 + i)) ∧
    (∀ i, i < c → N 210 (500 * k + i) = M0 210 (2000 + i) ∧ N 211 (500 * k + i) = M0 211 (2000 + i)) ∧
    (∀ i, (i < 16 * k ∨ 16 * k + 16 ≤ i) → N 205 i = M0 205 i ∧ N 206 i = M0 206 i ∧ N 207 i = M0 207 i ∧ N 208 i = M0 208 i) ∧
    ∀ i, (i < 500 * k ∨ 500 * k + 500 ≤ i) → N 210 i = M0 210 i ∧ N 211 i = M0 211 i := by
  have g := (h (fun x3 M v N => ∀ i : Nat, x3.toInt = i → i ≤ n → (M 188 38).toInt = c → (∀ j, N 204 j = (if j = k then p2 else M 204 j)) ∧ (∀ j, N 209 j = (if j = k then M 188 38 else M 209 j)) ∧
      (∀ j, i ≤ j → j < n → N 205 (16 * k + j) = M 205 (64 + j) ∧ N 206 (16 * k + j) = M 206 (64 + j) ∧ N 207 (16 * k + j) = M 207 (64 + j) ∧ N 208 (16 * k + j) = M 208 (64 + j)) ∧
      (∀ j, j < c → N 210 (500 * k + j) = M 210 (2000 + j) ∧ N 211 (500 * k + j) = M 211 (2000 + j)) ∧
      (∀ j, ¬ (16 * k + i ≤ j ∧ j < 16 * k + 16) → N 205 j = M 205 j ∧ N 206 j = M 206 j ∧ N 207 j = M 207 j ∧ N 208 j = M 208 j) ∧
      ∀ j, ¬ (500 * k ≤ j ∧ j < 500 * k + 500) → N 210 j = M 210 j ∧ N 211 j = M 211 j,
    fun x3 M v N => ∀ i : Nat, x3.toInt = i → i ≤ c → (M 188 38).toInt = c → (∀ j, N 204 j = (if j = k then p2 else M 204 j)) ∧ (∀ j, N 209 j = (if j = k then M 188 38 else M 209 j)) ∧
      (∀ j, N 205 j = M 205 j ∧ N 206 j = M 206 j ∧ N 207 j = M 207 j ∧ N 208 j = M 208 j) ∧
      (∀ j, i ≤ j → j < c → N 210 (500 * k + j) = M 210 (2000 + j) ∧ N 211 (500 * k + j) = M 211 (2000 + j)) ∧
      ∀ j, ¬ (500 * k + i ≤ j ∧ j < 500 * k + 500) → N 210 j = M 210 j ∧ N 211 j = M 211 j) ⟨?_, ?_⟩) 0 rfl (Nat.zero_le _) hc
  · obtain ⟨g1, g2, g3, g4, g5, g6⟩ := g
    refine ⟨by rw [g1, if_pos rfl]; exact hn, by rw [g2, if_pos rfl]; exact hc, fun j hj => ⟨by rw [g1, if_neg hj], by rw [g2, if_neg hj]⟩, fun i hi => g3 i (Nat.zero_le _) hi, fun i hi => g4 i hi, fun i hi => g5 i (by omega), fun i hi => g6 i (by omega)⟩
  · intro x3 M v N hs i hx hi hm
    rcases hs with ⟨g, hs⟩ | ⟨g, _, _, M1, e1, _, _, M2, e2, _, _, M3, e3, _, _, M4, e4, hs⟩
    · rw [i_le, hn, hx] at g
      obtain ⟨q1, q2, q3, q4, q5⟩ := hs 0 rfl (Nat.zero_le _) hm
      exact ⟨q1, q2, fun j h1 h2 => absurd h2 (by omega), fun j hj => q4 j (Nat.zero_le _) hj, fun j _ => q3 j, fun j hj => q5 j (by omega)⟩
    · rw [i_le, hn, hx] at g
      have e16 : (kI 16 * p1).toInt = ((16 * k : Nat) : Int) := by rw [i_mul (by rw [hk, kI_toInt (by decide) (by decide)]; omega) (by rw [hk, kI_toInt (by decide) (by decide)]; omega), hk, kI_toInt (by decide) (by decide)]; omega
      have ea : ix (kI 16 * p1 + x3) = 16 * k + i := ix_of (by rw [i_add (by omega) (by omega), e16, hx]; omega)
      have eb : ix (kI 64 + x3) = 64 + i := ix_of (by rw [i_add (by rw [kI_toInt (by decide) (by decide)]; omega) (by rw [kI_toInt (by decide) (by decide)]; omega), kI_toInt (by decide) (by decide), hx]; omega)
      rw [ea, eb] at e1 e2 e3 e4
      have a205 : ∀ j, M4 205 j = if j = 16 * k + i then M 205 (64 + i) else M 205 j := fun j => by rw [e4, aPut_cell (by decide), e3, aPut_cell (by decide), e2, aPut_cell (by decide), e1, aPut_row]
      have a206 : ∀ j, M4 206 j = if j = 16 * k + i then M 206 (64 + i) else M 206 j := fun j => by rw [e4, aPut_cell (by decide), e3, aPut_cell (by decide), e2, aPut_row, e1, aPut_cell (by decide), aPut_cell (by decide)]
      have a207 : ∀ j, M4 207 j = if j = 16 * k + i then M 207 (64 + i) else M 207 j := fun j => by rw [e4, aPut_cell (by decide), e3, aPut_row, e2, aPut_cell (by decide), aPut_cell (by decide), e1, aPut_cell (by decide), aPut_cell (by decide)]
      have a208 : ∀ j, M4 208 j = if j = 16 * k + i then M 208 (64 + i) else M 208 j := fun j => by rw [e4, aPut_row, e3, aPut_cell (by decide), aPut_cell (by decide), e2, aPut_cell (by decide), aPut_cell (by decide), e1, aPut_cell (by decide), aPut_cell (by decide)]
      have oth : ∀ a j, (a < 205 ∨ 208 < a) → M4 a j = M a j := fun a j ha => by rw [e4, aPut_cell (by omega), e3, aPut_cell (by omega), e2, aPut_cell (by omega), e1, aPut_cell (by omega)]
      obtain ⟨q1, q2, q3, q4, q5, q6⟩ := hs (i + 1) (by rw [i_add1 (by omega)]; omega) (by omega) (by rw [oth 188 38 (by omega)]; exact hm)
      refine ⟨fun j => by rw [q1 j, oth 204 j (by omega)], fun j => by rw [q2 j, oth 209 j (by omega), oth 188 38 (by omega)], fun j h1 h2 => ?_, fun j hj => by rw [(q4 j hj).1, (q4 j hj).2, oth 210 _ (by omega), oth 211 _ (by omega)]; exact ⟨rfl, rfl⟩, fun j hj => ?_, fun j hj => by rw [(q6 j hj).1, (q6 j hj).2, oth 210 _ (by omega), oth 211 _ (by omega)]; exact ⟨rfl, rfl⟩⟩
      · by_cases e : j = i
        · subst e
          obtain ⟨w1, w2, w3, w4⟩ := q5 (16 * k + j) (by omega)
          rw [w1, w2, w3, w4, a205, a206, a207, a208, if_pos rfl, if_pos rfl, if_pos rfl, if_pos rfl]
          exact ⟨rfl, rfl, rfl, rfl⟩
        · obtain ⟨w1, w2, w3, w4⟩ := q3 j (by omega) h2
          rw [w1, w2, w3, w4, a205, a206, a207, a208, if_neg (by omega), if_neg (by omega), if_neg (by omega), if_neg (by omega)]
          exact ⟨rfl, rfl, rfl, rfl⟩
      · obtain ⟨w1, w2, w3, w4⟩ := q5 j (by omega)
        rw [w1, w2, w3, w4, a205, a206, a207, a208, if_neg (by omega), if_neg (by omega), if_neg (by omega), if_neg (by omega)]
        exact ⟨rfl, rfl, rfl, rfl⟩
  · intro x3 M v N hs i hx hi hm
    rcases hs with ⟨g, _, M1, e1, _, M2, e2, _, hN⟩ | ⟨g, _, _, M1, e1, _, _, M2, e2, hs⟩
    · rw [i_le, hm, hx] at g
      rw [ix_of hk] at e1 e2
      have oth : ∀ a j, ¬ a = 204 → ¬ a = 209 → N a j = M a j := fun a j h1 h2 => by rw [hN, e2, aPut_cell h2, e1, aPut_cell h1]
      refine ⟨fun j => by rw [hN, e2, aPut_cell (by decide), e1, aPut_row], fun j => by rw [hN, e2, aPut_row, e1, aPut_cell (by decide), aPut_cell (by decide)], fun j => ⟨oth _ _ (by decide) (by decide), oth _ _ (by decide) (by decide), oth _ _ (by decide) (by decide), oth _ _ (by decide) (by decide)⟩, fun j h1 h2 => absurd h2 (by omega), fun j _ => ⟨oth _ _ (by decide) (by decide), oth _ _ (by decide) (by decide)⟩⟩
    · rw [i_le, hm, hx] at g
      have e5 : (kI 500 * p1).toInt = ((500 * k : Nat) : Int) := by rw [i_mul (by rw [hk, kI_toInt (by decide) (by decide)]; omega) (by rw [hk, kI_toInt (by decide) (by decide)]; omega), hk, kI_toInt (by decide) (by decide)]; omega
      have ea : ix (kI 500 * p1 + x3) = 500 * k + i := ix_of (by rw [i_add (by omega) (by omega), e5, hx]; omega)
      have eb : ix (kI 2000 + x3) = 2000 + i := ix_of (by rw [i_add (by rw [kI_toInt (by decide) (by decide)]; omega) (by rw [kI_toInt (by decide) (by decide)]; omega), kI_toInt (by decide) (by decide), hx]; omega)
      rw [ea, eb] at e1 e2
      have a210 : ∀ j, M2 210 j = if j = 500 * k + i then M 210 (2000 + i) else M 210 j := fun j => by rw [e2, aPut_cell (by decide), e1, aPut_row]
      have a211 : ∀ j, M2 211 j = if j = 500 * k + i then M 211 (2000 + i) else M 211 j := fun j => by rw [e2, aPut_row, e1, aPut_cell (by decide), aPut_cell (by decide)]
      have oth : ∀ a j, ¬ a = 210 → ¬ a = 211 → M2 a j = M a j := fun a j h1 h2 => by rw [e2, aPut_cell h2, e1, aPut_cell h1]
      obtain ⟨q1, q2, q3, q4, q5⟩ := hs (i + 1) (by rw [i_add1 (by omega)]; omega) (by omega) (by rw [oth 188 38 (by decide) (by decide)]; exact hm)
      refine ⟨fun j => by rw [q1 j, oth 204 j (by decide) (by decide)], fun j => by rw [q2 j, oth 209 j (by decide) (by decide), oth 188 38 (by decide) (by decide)], fun j => ?_, fun j h1 h2 => ?_, fun j hj => ?_⟩
      · obtain ⟨w1, w2, w3, w4⟩ := q3 j
        rw [w1, w2, w3, w4]
        exact ⟨oth _ _ (by decide) (by decide), oth _ _ (by decide) (by decide), oth _ _ (by decide) (by decide), oth _ _ (by decide) (by decide)⟩
      · by_cases e : j = i
        · subst e
          obtain ⟨w1, w2⟩ := q5 (500 * k + j) (by omega)
          rw [w1, w2, a210, a211, if_pos rfl, if_pos rfl]
          exact ⟨rfl, rfl⟩
        · obtain ⟨w1, w2⟩ := q4 j (by omega) h2
          rw [w1, w2, a210, a211, if_neg (by omega), if_neg (by omega)]
          exact ⟨rfl, rfl⟩
      · obtain ⟨w1, w2⟩ := q5 j (by omega)
        rw [w1, w2, a210, a211, if_neg (by omega), if_neg (by omega)]
        exact ⟨rfl, rfl⟩
/-- what comes behind reading -/
theorem L_81_w {p1 p2 x3 s0 v : Int32} {M N : pMem} (h : L_81_9 p1 p2 x3 s0 M v N) : S_81_9 p1 p2 (fun _ _ _ _ _ => False) x3 s0 M v N := by
  refine h (fun x3 s0 M v N => S_81_9 p1 p2 (fun _ _ _ _ _ => False) x3 s0 M v N) ?_
  intro x3 s0 M v N hs
  exact hs
/-- the reference's text of a law -/
theorem D_81_law {M : pMem} {B : Nat → Int32} {n k : Nat} {p1 p2 : Int32} (hn : n ≤ 500) (hp : xPre M B n) (hB : ∀ i, i < n → 0 ≤ (B i).toInt) (h1 : p1 = kI 0) (hk : p2.toInt = k) (hk4 : k < 4) {v : Int32} {N : pMem} (h : D_81 p1 p2 M v N) :
    ∃ r, laR (yT B n) (yV B n) 16 0 [] r ∧ (r.1 = 0 → v.toInt = (r.2.2.2.length : Nat) ∧ N 188 44 = kI 0 ∧ N 188 45 = kI (-1)) ∧
      (r.1 ≠ 0 → v = kI (-1) ∧ N 188 44 = kI r.1 ∧ N 188 45 = kI (xSt B n r.2.1)) := by
  obtain ⟨M1, e1, M2, e2, M3, e3, h⟩ := h
  have h := tIf_n (f_42_iff.mpr (by rw [h1]; decide)) h
  have h := tIf_n (f_42_iff.mpr (by rw [i_le, i_le, hk, kI_toInt (by decide) (by decide), kI_toInt (by decide) (by decide)]; omega)) h
  obtain ⟨M4, e4, M5, e5, M6, e6, _, M7, h65, h⟩ := h
  have h := tIf_n (show ¬ ¬ p1 = 0 from nn h1) h
  obtain ⟨v2, M8, h77, h⟩ := h
  have p6 : xPre M6 B n := by
    rw [e6, e5, e4, e3, e2, e1]
    exact xPre_put (xPre_put (xPre_put (xPre_put (xPre_put (xPre_put hp (by decide)) (by decide)) (by decide)) (by decide)) (by decide)) (by decide)
  have f7 := F_65 h65
  have r7 : rR M7 B n 0 := by
    have q := D_65_w hn hB h65 p6 0 (by rw [e6, aPut_at (by decide), e5, aPut_at (by decide), e4, aPut_same]; rfl) (Nat.zero_le _)
    refine ⟨?_, hn, hB, q⟩
    obtain ⟨q1, q2, q3⟩ := p6
    refine ⟨by rw [f7 188 24 (by decide) rfl rfl]; exact q1, ?_, fun j hj => ?_⟩
    · rw [← q2]
      funext i
      exact f7 202 i (by decide) rfl rfl
    · rw [f7 203 j (by decide) rfl rfl]
      exact q3 j hj
  have m38 : M7 188 38 = kI 0 := by rw [f7 188 38 (by decide) rfl rfl, e6, aPut_at (by decide), e5, aPut_same]
  have m39 : M7 188 39 = kI 0 := by rw [f7 188 39 (by decide) rfl rfl, e6, aPut_same]
  obtain ⟨r, r1, r2, r3⟩ := D_77_w r7 m38 m39 h77
  have f8 := F_77 h77
  have k44 : M8 188 44 = kI 0 := by
    rw [f8 188 44 (by decide) rfl rfl, f7 188 44 (by decide) rfl rfl, e6, aPut_at (by decide), e5, aPut_at (by decide), e4, aPut_at (by decide), e3, aPut_at (by decide), e2, aPut_same]
  have k45 : M8 188 45 = kI (-1) := by
    rw [f8 188 45 (by decide) rfl rfl, f7 188 45 (by decide) rfl rfl, e6, aPut_at (by decide), e5, aPut_at (by decide), e4, aPut_at (by decide), e3, aPut_same]
  refine ⟨r, r1, ?_⟩
  obtain ⟨Ma, ea, hs⟩ := L_81_w h
  have hs := tIf_n (show ¬ kI 1 = 0 by decide) hs
  by_cases c : r.1 = 0
  · obtain ⟨a1, _, _⟩ := r2 c
    have hne : ¬ v2 = kI (-1) := by
      rw [yk (by decide) (by decide), a1]
      omega
    have hs := tIf_p hne hs
    have hs := tIf_p hne hs
    have hs := tIf_n (show ¬ ¬ p1 = 0 from nn h1) hs
    obtain ⟨_, Mb, h78, hv, hN⟩ := hs
    have f78 := F_78 h78
    refine ⟨fun _ => ⟨by rw [hv]; exact a1, ?_, ?_⟩, fun e => absurd c e⟩
    · rw [hN, f78 188 44 (by decide) rfl rfl, ea, aPut_at (by decide)]
      exact k44
    · rw [hN, f78 188 45 (by decide) rfl rfl, ea, aPut_at (by decide)]
      exact k45
  · obtain ⟨a1, a2, a3⟩ := r3 c
    have hs := tIf_n (nn a1) hs
    obtain ⟨Mb, eb, Mc, ec, hs⟩ := hs
    have hs := tIf_n (nn a1) hs
    obtain ⟨hv, hN⟩ := hs
    refine ⟨fun e => absurd e c, fun _ => ⟨hv, ?_, ?_⟩⟩
    · rw [hN, ec, aPut_at (by decide), eb, aPut_same, ea, aPut_at (by decide)]
      exact a2
    · rw [hN, ec, aPut_same, eb, aPut_at (by decide), ea, aPut_at (by decide)]
      exact a3
/-- the reference: no such text -/
theorem D_81_no {M : pMem} {p1 p2 : Int32} (c : ¬ ((p1 = kI 0 ∨ p1 = kI 1) ∧ 0 ≤ p2.toInt ∧ p2.toInt < 4)) {v : Int32} {N : pMem} (h : D_81 p1 p2 M v N) : v = kI (-1) ∧ N 188 44 = kI 0 ∧ N 188 45 = kI (-1) := by
  obtain ⟨M1, e1, M2, e2, M3, e3, h⟩ := h
  have no : ∀ {M4 M5 M6 M7 : pMem} {u : Unit}, M4 = aPut M3 188 25 (kI 0) → M5 = aPut M4 188 38 (kI 0) → M6 = aPut M5 188 39 (kI 0) → D_65 M6 u M7 → L_81_9 p1 p2 (kI 0) (kI (-1)) M7 v N → v = kI (-1) ∧ N 188 44 = kI 0 ∧ N 188 45 = kI (-1) := by
    intro M4 M5 M6 M7 u e4 e5 e6 h65 h
    have f7 := F_65 h65
    obtain ⟨Ma, ea, hs⟩ := L_81_w h
    have hs := tIf_p (show kI 0 = 0 from rfl) hs
    have hs := tIf_n (show ¬ ¬ kI (-1) = kI (-1) from nn rfl) hs
    obtain ⟨hv, hN⟩ := hs
    refine ⟨hv, ?_, ?_⟩
    · rw [hN, ea, aPut_at (by decide), f7 188 44 (by decide) rfl rfl, e6, aPut_at (by decide), e5, aPut_at (by decide), e4, aPut_at (by decide), e3, aPut_at (by decide), e2, aPut_same]
    · rw [hN, ea, aPut_at (by decide), f7 188 45 (by decide) rfl rfl, e6, aPut_at (by decide), e5, aPut_at (by decide), e4, aPut_at (by decide), e3, aPut_same]
  rcases h with ⟨g, M4, e4, M5, e5, M6, e6, u, M7, h65, h⟩ | ⟨g, h⟩
  · exact no e4 e5 e6 h65 h
  · rcases h with ⟨g2, M4, e4, M5, e5, M6, e6, u, M7, h65, h⟩ | ⟨g2, h⟩
    · exact no e4 e5 e6 h65 h
    · have g := f_42_iff.mp g
      have g2 := f_42_iff.mp g2
      rw [i_le, i_le, kI_toInt (by decide) (by decide), kI_toInt (by decide) (by decide)] at g g2
      refine absurd ⟨?_, by omega, by omega⟩ c
      by_cases e : p1.toInt = 0
      · exact Or.inl (kI_inj e)
      · exact Or.inr (kI_inj (by omega))
/-- what fault tells, on both sides -/
def rFt (M : pMem) : Prop := M 6 4 = M 188 44 ∧ M 6 5 = M 188 45
def kFt (L : List (Nat × Nat)) : Bool := (pOut L 6 4 && pOut L 6 5) && (pOut L 188 44 && pOut L 188 45)
theorem rFt_fr {M N : pMem} {L : List (Nat × Nat)} (f : pFr L M N) (k : kFt L = true) (h : rFt M) : rFt N := by
  unfold kFt at k
  simp only [Bool.and_eq_true] at k
  obtain ⟨⟨k1, k2⟩, k3, k4⟩ := k
  unfold rFt
  rw [f 6 4 (by decide) rfl k1, f 6 5 (by decide) rfl k2, f 188 44 (by decide) rfl k3, f 188 45 (by decide) rfl k4]
  exact h
theorem op_text_v {p1 p2 v u : Int32} {M M1 M2 : pMem} (h : rA M) (h1 : D_7 p1 p2 M v M1) (h2 : D_81 p1 p2 M1 u M2) : v = u ∧ rFt M2 := by
  obtain ⟨ht, _⟩ := h
  obtain ⟨t1, t2, t3, t4, t5, t6⟩ := ht
  have f1 := F_7 h1
  have f2 := F_81 h2
  have o2 : ∀ j, M2 6 j = M1 6 j := fun j => f2 6 j (by decide) rfl (by simp only [l_81, pOut_cons, pOut_nil, true_or, and_true]; omega)
  obtain ⟨n, hnn⟩ : ∃ n : Nat, (M 1 0).toInt = n := ⟨(M 1 0).toInt.toNat, by omega⟩
  have n5 : n ≤ 500 := by omega
  unfold rFt
  rw [o2 4, o2 5]
  by_cases c : (p1 = kI 0 ∨ p1 = kI 1) ∧ 0 ≤ p2.toInt ∧ p2.toInt < 4
  · obtain ⟨c1, c2, c3⟩ := c
    obtain ⟨k, hkk⟩ : ∃ k : Nat, p2.toInt = k := ⟨p2.toInt.toNat, by omega⟩
    have hk4 : k < 4 := by omega
    have o1 : ∀ a j, a < 230 → pScr a j = false → 74 ≤ a → M1 a j = M a j := fun a j q1 q2 q3 => f1 a j q1 q2 (by
      simp only [l_7, pOut_cons, pOut_nil, true_or, and_true]
      rw [ix_of hkk]
      omega)
    have pre : xPre M1 (M 202) n := ⟨by rw [o1 188 24 (by decide) rfl (by omega), ← t1]; exact hnn, funext fun i => o1 202 i (by decide) rfl (by omega), fun j hj => by rw [o1 203 j (by decide) rfl (by omega)]; exact t6 j hj⟩
    have cg : ∀ i, i < n → M 2 i = M 202 i := fun i hi => t2 i (by omega)
    rcases c1 with c1 | c1
    · obtain ⟨r, w1, w2, w3⟩ := D_7_law n5 hnn c1 hkk hk4 h1
      obtain ⟨r', r1, r2, r3⟩ := D_81_law n5 pre (fun i hi => t5 i (by omega)) c1 hkk hk4 h2
      rw [yT_cg cg, yV_cg cg] at w1
      obtain rfl := laR_det w1 r1
      by_cases e0 : r.1 = 0
      · obtain ⟨a1, a2, a3, _⟩ := w2 e0
        obtain ⟨b1, b2, b3⟩ := r2 e0
        exact ⟨by rw [i_eq, a1, b1], by rw [a2, b2], by rw [a3, b3]⟩
      · obtain ⟨a1, a2, a3⟩ := w3 e0
        obtain ⟨b1, b2, b3⟩ := r3 e0
        exact ⟨by rw [a1, b1], by rw [a2, b2], by rw [a3, b3, xSt_cg cg]⟩
    · obtain ⟨w1, w2, w3⟩ := D_7_plan n5 hnn c1 hkk hk4 h1
      obtain ⟨r1, r2, r3⟩ := D_81_plan n5 pre (fun i hi => t5 i (by omega)) c1 hkk hk4 h2
      rw [yT_cg cg, yV_cg cg] at w1 w2
      by_cases e0 : (plL (yT (M 202) n) (yV (M 202) n) 24 0).1 = 0
      · obtain ⟨a1, a2, a3, _⟩ := w1 e0
        obtain ⟨b1, b2, b3, _⟩ := r1 e0
        exact ⟨by rw [i_eq, a1, b1], by rw [a2, b2], by rw [a3, b3]⟩
      · obtain ⟨a1, a2, a3, _⟩ := w2 e0
        obtain ⟨b1, b2, b3, _⟩ := r2 e0
        exact ⟨by rw [a1, b1], by rw [a2, b2], by rw [a3, b3, xSt_cg cg]⟩
  · obtain ⟨a1, a2, a3⟩ := D_7_no n5 hnn c h1
    obtain ⟨b1, b2, b3⟩ := D_81_no c h2
    exact ⟨by rw [a1, b1], by rw [a2, b2], by rw [a3, b3]⟩
theorem op_fault_v {p1 v u : Int32} {M M1 M2 : pMem} (h : rFt M) (h1 : D_8 p1 M v M1) (h2 : D_82 p1 M1 u M2) : v = u := by
  have m : M1 = M := by
    rcases h1 with ⟨_, h1⟩ | ⟨_, _, hM⟩
    · rcases h1 with ⟨_, _, hM⟩ | ⟨_, _, hM⟩
      · exact hM
      · exact hM
    · exact hM
  rw [m] at h2
  obtain ⟨Ma, ea, h2⟩ := h2
  obtain ⟨q1, q2⟩ := h
  have a44 : Ma 188 44 = M 188 44 := by rw [ea, aPut_at (by decide)]
  have a45 : Ma 188 45 = M 188 45 := by rw [ea, aPut_at (by decide)]
  by_cases c0 : p1 = 0
  · rw [(tIf_n (nn c0) h1).1, (tIf_n (nn c0) h2).1, a44]
    exact q1
  · have h1 := tIf_p c0 h1
    have h2 := tIf_p c0 h2
    by_cases c1 : p1 = kI 1
    · rw [(tIf_n (nn c1) h1).1, (tIf_n (nn c1) h2).1, a45]
      exact q2
    · rw [(tIf_p c1 h1).1, (tIf_p c1 h2).1]
