/-! text: a plan, both sides -/
theorem D_170_w {M : pMem} {n : Nat} (hn : n ≤ 500) (hM : (M 1 0).toInt = n) {v : Unit} {N : pMem} (h : D_170 M v N) : ∃ c, rdR N (M 2) n c 0 ∧ N 6 4 = kI 0 ∧ N 6 5 = kI (-1) := by
  obtain ⟨_, M1, h195, M2, e2, M3, e3, M4, e4, _, hN⟩ := h
  have f1 := F_195 h195
  obtain ⟨c, c1, c2, c3⟩ := D_195_w hn hM h195
  subst hN
  have r : ∀ a j, a ≠ 6 → N a j = M1 a j := fun a j h => by rw [e4, aPut_cell h, e3, aPut_cell h, e2, aPut_cell h]
  refine ⟨c, ⟨⟨by rw [r 1 1 (by decide)]; exact c3.1, fun k hk => ?_⟩, c2, c1, hn, ?_, by rw [r 1 0 (by decide), f1 1 0 (by decide) rfl rfl]; exact hM⟩, ?_, ?_⟩
  · rw [r 3 k (by decide), r 4 k (by decide), r 5 k (by decide)]
    exact c3.2 k hk
  · rw [e4, aPut_at (by decide), e3, aPut_at (by decide), e2, aPut_same]
    rfl
  · rw [e4, aPut_at (by decide), e3, aPut_same]
  · rw [e4, aPut_same]
/-- the tape of both sides -/
def rTape (M : pMem) : Prop := M 1 0 = M 188 24 ∧ (∀ i, i < 500 → M 2 i = M 202 i) ∧ 0 ≤ (M 1 0).toInt ∧ (M 1 0).toInt ≤ 500 ∧ (∀ i, i < 500 → 0 ≤ (M 202 i).toInt) ∧ xWs (M 203)
/-- a plan of both sides: rows of the reference W, A from b on, so many -/
def rPlan (M : pMem) (pl : Nat) (m : Int32) (W A : Nat → Int32) (b : Nat) : Prop := ∃ l : List (Int32 × Int32), l.length ≤ 24 ∧ m.toInt = l.length ∧ rlOk W A b l ∧ pdOk M pl (l.foldl plDay ([], kI (-1))).1
theorem plL_len {T V : Nat → Int32} : ∀ (m k : Nat), (plL T V m k).2.2.length ≤ m := by
  intro m
  induction m with
  | zero =>
    intro k
    unfold plL
    split
    · exact Nat.le_refl _
    · split
      · exact Nat.le_refl _
      · exact Nat.le_refl _
  | succ m ih =>
    intro k
    unfold plL
    split
    · exact Nat.zero_le _
    · split
      · exact Nat.zero_le _
      · split
        · show (plL T V m _).2.2.length + 1 ≤ m + 1
          have := ih (plOne T V k).2.1
          omega
        · exact Nat.zero_le _
theorem f_33_iff {x : Int32} : ¬ f_33 x = 0 ↔ 0 ≤ x.toInt ∧ x.toInt < 4 := by
  unfold f_33
  simp only [i_le, i_lt, kI_toInt (n := 4) (by decide) (by decide), i_0]
  by_cases h1 : x.toInt < 0
  · rw [if_pos h1]
    exact ⟨fun h => absurd rfl h, fun h => by omega⟩
  · by_cases h2 : 4 ≤ x.toInt
    · rw [if_neg h1, if_pos h2]
      exact ⟨fun h => absurd rfl h, fun h => by omega⟩
    · rw [if_neg h1, if_neg h2]
      exact ⟨fun _ => by omega, fun _ => by decide⟩
/-- the class's text of a plan -/
theorem D_7_plan {M : pMem} {n k : Nat} {p1 p2 : Int32} (hn : n ≤ 500) (hM : (M 1 0).toInt = n) (h1 : p1 = kI 1) (hk : p2.toInt = k) (hk4 : k < 4) {v : Int32} {N : pMem} (h : D_7 p1 p2 M v N) :
    ((plL (yT (M 2) n) (yV (M 2) n) 24 0).1 = 0 → v.toInt = ((plL (yT (M 2) n) (yV (M 2) n) 24 0).2.2.length : Nat) ∧ N 6 4 = kI 0 ∧ N 6 5 = kI (-1) ∧ pdOk N (37 + 11 * k) ((plL (yT (M 2) n) (yV (M 2) n) 24 0).2.2.foldl plDay ([], kI (-1))).1) ∧
    (¬ (plL (yT (M 2) n) (yV (M 2) n) 24 0).1 = 0 → v = kI (-1) ∧ N 6 4 = kI (plL (yT (M 2) n) (yV (M 2) n) 24 0).1 ∧ N 6 5 = kI (xSt (M 2) n (plL (yT (M 2) n) (yV (M 2) n) 24 0).2.1) ∧ ∀ a, (37 + 11 * k ≤ a ∧ a ≤ 40 + 11 * k) → N a 0 = M a 0 ∧ (¬ a = 37 + 11 * k → N a = M a)) ∧ N 1 0 = kI 0 := by
  obtain ⟨_, M1, h170, h⟩ := h
  obtain ⟨c, z1, z2, z3⟩ := D_170_w hn hM h170
  have f1 := F_170 h170
  have h := tIf_p (by rw [h1]; decide) h
  have h := tIf_n (nn h1) h
  have h := tIf_n (f_33_iff.mpr (by omega)) h
  obtain ⟨_, v2, M2, h181, M3, e3, hv, hN⟩ := h
  rw [ix_of hk] at h181
  have hpl : 37 + 11 * k = 37 ∨ 37 + 11 * k = 48 ∨ 37 + 11 * k = 59 ∨ 37 + 11 * k = 70 := by omega
  obtain ⟨w1, w2⟩ := D_181_w hpl z1 h181
  rw [hv, hN]
  refine ⟨fun e => ?_, fun e => ?_, ?_⟩
  · obtain ⟨a1, a2, a3, a4⟩ := w1 e
    refine ⟨by rw [a1, Nat.zero_add], by rw [e3, aPut_cell (by decide), a2, z2], by rw [e3, aPut_cell (by decide), a3, z3], ?_⟩
    rw [e3]
    exact pdOk_eq a4 (aPut_cell (by omega)) (fun i => ⟨aPut_cell (by omega), aPut_cell (by omega), aPut_cell (by omega)⟩)
  · obtain ⟨a1, a2, a3, a4, a5⟩ := w2 e
    have r : ∀ a j, (37 + 11 * k ≤ a ∧ a ≤ 40 + 11 * k) → M1 a j = M a j := fun a j ha => by
      obtain ⟨o, ho, rfl⟩ : ∃ o, o < 4 ∧ a = 37 + 11 * k + o := ⟨a - (37 + 11 * k), by omega, by omega⟩
      exact f1 _ j (by omega) (pl_scr hk4 ho) (by simp only [l_170, pOut_cons, pOut_nil, true_or, and_true]; omega)
    refine ⟨a1, by rw [e3, aPut_cell (by decide), a2], by rw [e3, aPut_cell (by decide), a3], fun a ha => ?_⟩
    have hc : ∀ j, M3 a j = M2 a j := fun j => by rw [e3, aPut_cell (by omega)]
    have h3 : a = 37 + 11 * k ∨ a = 37 + 11 * k + 1 ∨ a = 37 + 11 * k + 2 ∨ a = 37 + 11 * k + 3 := by omega
    refine ⟨?_, fun q => ?_⟩
    · rw [hc, ← r a 0 ha]
      rcases h3 with rfl | rfl | rfl | rfl
      · exact a4
      · exact (a5 0).1
      · exact (a5 0).2.1
      · exact (a5 0).2.2
    · funext j
      rw [hc, ← r a j ha]
      rcases h3 with rfl | rfl | rfl | rfl
      · exact absurd rfl q
      · exact (a5 j).1
      · exact (a5 j).2.1
      · exact (a5 j).2.2
  · rw [e3, aPut_same]
/-- takesPlan -/
theorem D_80_w {M0 : pMem} {k n : Nat} {p1 p2 : Int32} (hk : p1.toInt = k) (hk4 : k < 4) (hn : p2.toInt = n) (hn24 : n ≤ 24) {v : Unit} {N : pMem} (h : D_80 p1 p2 M0 v N) :
    (N 213 k).toInt = n ∧ ∀ i, (i < n → N 214 (24 * k + i) = M0 214 (96 + i) ∧ N 215 (24 * k + i) = M0 215 (96 + i)) ∧ ((i < 24 * k ∨ 24 * k + 24 ≤ i) → N 214 i = M0 214 i ∧ N 215 i = M0 215 i) := by
  have g := (h (fun x3 M v N => ∀ i : Nat, x3.toInt = i → i ≤ n → (∀ j, ¬ (24 * k + i ≤ j ∧ j < 24 * k + 24) → N 214 j = M 214 j ∧ N 215 j = M 215 j) ∧ (N 213 k).toInt = n ∧ ∀ j, i ≤ j → j < n → N 214 (24 * k + j) = M 214 (96 + j) ∧ N 215 (24 * k + j) = M 215 (96 + j)) ?_) 0 rfl (Nat.zero_le _)
  · obtain ⟨g1, g2, g3⟩ := g
    refine ⟨g2, fun i => ⟨fun hi => g3 i (Nat.zero_le _) hi, fun hi => g1 i (by omega)⟩⟩
  · intro x3 M v N hs i hx hi
    rcases hs with ⟨g, _, M1, e1, _, hN⟩ | ⟨g, _, _, M1, e1, _, _, M2, e2, hs⟩
    · rw [i_le, hn, hx] at g
      subst hN
      refine ⟨fun j _ => by rw [e1]; exact ⟨aPut_cell (by decide), aPut_cell (by decide)⟩, ?_, fun j h1 h2 => by omega⟩
      rw [e1, ix_of hk, aPut_same]
      exact hn
    · rw [i_le, hn, hx] at g
      have e24 : (kI 24 * p1).toInt = ((24 * k : Nat) : Int) := by rw [i_mul (by rw [hk, kI_toInt (by decide) (by decide)]; omega) (by rw [hk, kI_toInt (by decide) (by decide)]; omega), hk, kI_toInt (by decide) (by decide)]; omega
      have ea : ix (kI 24 * p1 + x3) = 24 * k + i := ix_of (by rw [i_add (by omega) (by omega), e24, hx]; omega)
      have eb : ix (kI 96 + x3) = 96 + i := ix_of (by rw [i_add (by rw [kI_toInt (by decide) (by decide)]; omega) (by rw [kI_toInt (by decide) (by decide)]; omega), kI_toInt (by decide) (by decide), hx]; omega)
      rw [ea, eb] at e1 e2
      have hs := hs (i + 1) (by rw [i_add1 (by omega)]; omega) (by omega)
      have a214 : ∀ j, M2 214 j = if j = 24 * k + i then M 214 (96 + i) else M 214 j := fun j => by rw [e2, aPut_cell (by decide), e1, aPut_row]
      have a215 : ∀ j, M2 215 j = if j = 24 * k + i then M 215 (96 + i) else M 215 j := fun j => by rw [e2, aPut_row, e1, aPut_cell (by decide), aPut_cell (by decide)]
      obtain ⟨h1, h2, h3⟩ := hs
      refine ⟨fun j hj => ?_, h2, fun j hj1 hj2 => ?_⟩
      · rw [(h1 j (by omega)).1, (h1 j (by omega)).2, a214, a215, if_neg (by omega), if_neg (by omega)]
        exact ⟨rfl, rfl⟩
      · by_cases c : j = i
        · subst c
          rw [(h1 (24 * k + j) (by omega)).1, (h1 (24 * k + j) (by omega)).2, a214, a215, if_pos rfl, if_pos rfl]
          exact ⟨rfl, rfl⟩
        · obtain ⟨q1, q2⟩ := h3 j (by omega) hj2
          rw [q1, q2, a214, a215, if_neg (by omega), if_neg (by omega)]
          exact ⟨rfl, rfl⟩
/-- the reference's text of a plan -/
theorem D_81_plan {M : pMem} {B : Nat → Int32} {n k : Nat} {p1 p2 : Int32} (hn : n ≤ 500) (hp : xPre M B n) (hB : ∀ i, i < n → 0 ≤ (B i).toInt) (h1 : p1 = kI 1) (hk : p2.toInt = k) (hk4 : k < 4) {v : Int32} {N : pMem} (h : D_81 p1 p2 M v N) :
    ((plL (yT B n) (yV B n) 24 0).1 = 0 → v.toInt = ((plL (yT B n) (yV B n) 24 0).2.2.length : Nat) ∧ N 188 44 = kI 0 ∧ N 188 45 = kI (-1) ∧ (N 213 k).toInt = ((plL (yT B n) (yV B n) 24 0).2.2.length : Nat) ∧ rlOk (N 214) (N 215) (24 * k) (plL (yT B n) (yV B n) 24 0).2.2 ∧
      (∀ i, i < 96 → (i < 24 * k ∨ 24 * k + 24 ≤ i) → N 214 i = M 214 i ∧ N 215 i = M 215 i) ∧ ∀ i, ¬ i = k → N 213 i = M 213 i) ∧
    (¬ (plL (yT B n) (yV B n) 24 0).1 = 0 → v = kI (-1) ∧ N 188 44 = kI (plL (yT B n) (yV B n) 24 0).1 ∧ N 188 45 = kI (xSt B n (plL (yT B n) (yV B n) 24 0).2.1) ∧ N 213 = M 213 ∧ ∀ i, i < 96 → N 214 i = M 214 i ∧ N 215 i = M 215 i) ∧ N 188 24 = kI 0 := by
  obtain ⟨M1, e1, M2, e2, M3, e3, h⟩ := h
  have h := tIf_n (f_42_iff.mpr (by rw [h1]; decide)) h
  have h := tIf_n (f_42_iff.mpr (by rw [i_le, i_le, hk, kI_toInt (by decide) (by decide), kI_toInt (by decide) (by decide)]; omega)) h
  obtain ⟨M4, e4, M5, e5, M6, e6, _, M7, h65, h⟩ := h
  have h := tIf_p (show ¬ p1 = 0 by rw [h1]; decide) h
  obtain ⟨v2, M8, h79, h⟩ := h
  have p6 : xPre M6 B n := by
    rw [e6, e5, e4, e3, e2, e1]
    exact xPre_put (xPre_put (xPre_put (xPre_put (xPre_put (xPre_put hp (by decide)) (by decide)) (by decide)) (by decide)) (by decide)) (by decide)
  have f7 := F_65 h65
  have r7 : rR M7 B n 0 := by
    have q := D_65_w hn hB h65 p6 0 (by rw [e6, aPut_at (by decide), e5, aPut_at (by decide), e4, aPut_same]; rfl) (Nat.zero_le _)
    refine ⟨?_, hn, hB, q⟩
    obtain ⟨q1, q2, q3⟩ := p6
    refine ⟨by rw [f7 188 24 (by decide) rfl rfl]; exact q1, ?_, fun j hj => ?_⟩
    · rw [← q2]
      funext i
      exact f7 202 i (by decide) rfl rfl
    · rw [f7 203 j (by decide) rfl rfl]
      exact q3 j hj
  have row : ∀ a j, a ≠ 188 → a < 230 → pScr a j = false → M7 a j = M a j := fun a j h1 h2 h3 => by
    rw [f7 a j h2 h3 (by
      show (!(Nat.beq 188 a && _) && (!(Nat.beq 188 a && _) && (!(Nat.beq 188 a && _) && (!(Nat.beq 188 a && _) && true)))) = true
      rw [show Nat.beq 188 a = false from Bool.eq_false_iff.mpr fun q => h1 (Nat.eq_of_beq_eq_true q).symm]
      rfl), e6, aPut_cell h1, e5, aPut_cell h1, e4, aPut_cell h1, e3, aPut_cell h1, e2, aPut_cell h1, e1, aPut_cell h1]
  obtain ⟨w1, w2, w3⟩ := D_79_w r7 h79
  have f8 := F_79 h79
  have k44 : M8 188 44 = kI 0 := by
    rw [f8 188 44 (by decide) rfl rfl, f7 188 44 (by decide) rfl rfl, e6, aPut_at (by decide), e5, aPut_at (by decide), e4, aPut_at (by decide), e3, aPut_at (by decide), e2, aPut_same]
  have k45 : M8 188 45 = kI (-1) := by
    rw [f8 188 45 (by decide) rfl rfl, f7 188 45 (by decide) rfl rfl, e6, aPut_at (by decide), e5, aPut_at (by decide), e4, aPut_at (by decide), e3, aPut_same]
  have k213 : M8 213 = M 213 := by
    funext i
    rw [f8 213 i (by decide) rfl rfl]
    exact row 213 i (by decide) (by decide) rfl
  have k214 : ∀ i, i < 96 → M8 214 i = M 214 i ∧ M8 215 i = M 215 i := fun i hi => ⟨(w3 i hi).1.trans (row 214 i (by decide) (by decide) rfl), (w3 i hi).2.trans (row 215 i (by decide) (by decide) rfl)⟩
  -- the rest of text
  refine h (fun x3 s0 M' v N => x3 = kI 1 → s0 = v2 → M' = M8 → ((plL (yT B n) (yV B n) 24 0).1 = 0 → v.toInt = ((plL (yT B n) (yV B n) 24 0).2.2.length : Nat) ∧ N 188 44 = kI 0 ∧ N 188 45 = kI (-1) ∧ (N 213 k).toInt = ((plL (yT B n) (yV B n) 24 0).2.2.length : Nat) ∧ rlOk (N 214) (N 215) (24 * k) (plL (yT B n) (yV B n) 24 0).2.2 ∧
      (∀ i, i < 96 → (i < 24 * k ∨ 24 * k + 24 ≤ i) → N 214 i = M 214 i ∧ N 215 i = M 215 i) ∧ ∀ i, ¬ i = k → N 213 i = M 213 i) ∧
    (¬ (plL (yT B n) (yV B n) 24 0).1 = 0 → v = kI (-1) ∧ N 188 44 = kI (plL (yT B n) (yV B n) 24 0).1 ∧ N 188 45 = kI (xSt B n (plL (yT B n) (yV B n) 24 0).2.1) ∧ N 213 = M 213 ∧ ∀ i, i < 96 → N 214 i = M 214 i ∧ N 215 i = M 215 i) ∧ N 188 24 = kI 0) ?_ rfl rfl rfl
  intro x3 s0 M' v N hs hx hs0 hM'
  subst hM'
  obtain ⟨Ma, ea, hs⟩ := hs
  have hs := tIf_n (show ¬ x3 = 0 by rw [hx]; decide) hs
  have len24 := plL_len (T := yT B n) (V := yV B n) 24 0
  by_cases c : (plL (yT B n) (yV B n) 24 0).1 = 0
  · obtain ⟨a1, a2⟩ := w1 c
    rw [Nat.zero_add] at a1
    have hne : ¬ s0 = kI (-1) := by
      rw [hs0, yk (by decide) (by decide), a1]
      omega
    have hs := tIf_p hne hs
    have hs := tIf_p hne hs
    have hs := tIf_p (show ¬ p1 = 0 by rw [h1]; decide) hs
    obtain ⟨_, Mb, h80, hv, hN⟩ := hs
    rw [hs0] at h80
    obtain ⟨b1, b2⟩ := D_80_w hk hk4 a1 len24 h80
    have f80 := F_80 h80
    subst hN
    refine ⟨fun _ => ⟨by rw [hv, hs0]; exact a1, ?_, ?_, b1, fun i w hw => ?_, fun i hi hr => ?_, fun i hi => ?_⟩, fun e => absurd c e, ?_⟩
    · rw [f80 188 44 (by decide) rfl rfl, ea, aPut_at (by decide)]
      exact k44
    · rw [f80 188 45 (by decide) rfl rfl, ea, aPut_at (by decide)]
      exact k45
    · have hi := (List.getElem?_eq_some_iff.mp hw).1
      rw [((b2 i).1 hi).1, ((b2 i).1 hi).2, ea, aPut_cell (by decide), aPut_cell (by decide)]
      have := a2 i w (by rw [List.nil_append]; exact hw)
      exact this
    · rw [((b2 i).2 hr).1, ((b2 i).2 hr).2, ea, aPut_cell (by decide), aPut_cell (by decide)]
      exact k214 i hi
    · -- other plans' numbers of lines
      have g := (h80 (fun x3 M v N => ∀ i, ¬ i = k → N 213 i = M 213 i) (fun x3 M v N hs i hi => by
        rcases hs with ⟨_, _, M1, e1, _, hN⟩ | ⟨_, _, _, M1, e1, _, _, M2, e2, hs⟩
        · rw [hN, e1, ix_of hk, aPut_at hi]
        · rw [hs i hi, e2, aPut_cell (by decide), e1, aPut_cell (by decide)])) i hi
      rw [g, ea, aPut_cell (by decide), k213]
    · rw [f80 188 24 (by decide) rfl rfl, ea, aPut_same]
  · obtain ⟨a1, a2, a3⟩ := w2 c
    have he : s0 = kI (-1) := by rw [hs0, a1]
    have hs := tIf_n (nn he) hs
    obtain ⟨Mb, eb, Mc, ec, hs⟩ := hs
    have hs := tIf_n (nn he) hs
    obtain ⟨hv, hN⟩ := hs
    subst hN
    have rr : ∀ a j, a ≠ 188 → N a j = M' a j := fun a j h => by rw [ec, aPut_cell h, eb, aPut_cell h, ea, aPut_cell h]
    refine ⟨fun e => absurd e c, fun _ => ⟨hv, ?_, ?_, ?_, fun i hi => ?_⟩, ?_⟩
    · rw [ec, aPut_at (by decide), eb, aPut_same, ea, aPut_at (by decide)]
      exact a2
    · rw [ec, aPut_same, eb, aPut_at (by decide), ea, aPut_at (by decide)]
      exact a3
    · funext i
      rw [rr 213 i (by decide), k213]
    · rw [rr 214 i (by decide), rr 215 i (by decide)]
      exact k214 i hi
    · rw [ec, aPut_at (by decide), eb, aPut_at (by decide), ea, aPut_same]
