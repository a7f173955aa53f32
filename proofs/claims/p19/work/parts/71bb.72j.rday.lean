/-! likes, on the reference's side -/
theorem i64_t {x : Int32} : (Int32.toInt64 x).toInt = x.toInt := Int32.toInt_toInt64 x
/-- what is put: as it is held -/
theorem adL_3 {x y : Int32} : ((lg_cmp (Int32.toInt64 x + Int32.toInt64 y) (Int64.ofInt 50) ≤ 0 ∧ 0 ≤ lg_cmp (Int32.toInt64 x + Int32.toInt64 y) (Int64.ofInt (-50))) → Int64.toInt32 (Int32.toInt64 x + Int32.toInt64 y) = adL x y) ∧
    (lg_cmp (Int32.toInt64 x + Int32.toInt64 y) (Int64.ofInt 50) ≤ 0 → ¬ 0 ≤ lg_cmp (Int32.toInt64 x + Int32.toInt64 y) (Int64.ofInt (-50)) → kI (-50) = adL x y) ∧
    (¬ lg_cmp (Int32.toInt64 x + Int32.toInt64 y) (Int64.ofInt 50) ≤ 0 → kI 50 = adL x y) := by
  unfold adL f_39
  generalize Int32.toInt64 x + Int32.toInt64 y = z
  have a50 : (Int64.ofInt 50).toInt = 50 := by decide
  have m50 : (Int64.ofInt (-50)).toInt = -50 := by decide
  have b50 : Int32.toInt64 (kI 50) = Int64.ofInt 50 := by decide
  have c50 : Int32.toInt64 (kI (-50)) = Int64.ofInt (-50) := by decide
  have d1 : Int64.toInt32 (Int64.ofInt 50) = kI 50 := by decide
  have d2 : Int64.toInt32 (Int64.ofInt (-50)) = kI (-50) := by decide
  have le0 : lg_cmp z (Int64.ofInt 50) ≤ 0 ↔ z.toInt ≤ 50 := by
    have q := lg_1 (a := z) (b := Int64.ofInt 50)
    rw [a50, i_lt, i_0] at q
    rw [i_le, i_0]
    omega
  have ge0 : 0 ≤ lg_cmp z (Int64.ofInt (-50)) ↔ -50 ≤ z.toInt := by
    have q := lg_0 (a := z) (b := Int64.ofInt (-50))
    rw [m50] at q
    exact q
  rw [b50, c50, le0, ge0]
  have l1 : z < Int64.ofInt 50 ↔ z.toInt < 50 := by rw [Int64.lt_iff_toInt_lt, a50]
  have l2 : z < Int64.ofInt (-50) ↔ z.toInt < -50 := by rw [Int64.lt_iff_toInt_lt, m50]
  unfold pMxL pMnL
  by_cases g : z < Int64.ofInt 50
  · rw [if_pos g]
    by_cases g2 : z < Int64.ofInt (-50)
    · rw [if_pos g2, d2]
      have h2 := l2.mp g2
      exact ⟨fun q => absurd q.2 (by omega), fun _ _ => rfl, fun q => absurd q (by omega)⟩
    · rw [if_neg g2]
      have h1 := l1.mp g
      have h2 : ¬ z.toInt < -50 := fun q => g2 (l2.mpr q)
      exact ⟨fun _ => rfl, fun _ q => absurd q (by omega), fun q => absurd q (by omega)⟩
  · rw [if_neg g, if_neg (show ¬ Int64.ofInt 50 < Int64.ofInt (-50) by decide), d1]
    have h1 : ¬ z.toInt < 50 := fun q => g (l1.mpr q)
    refine ⟨fun q => ?_, fun _ q => absurd q (by omega), fun _ => rfl⟩
    have e : z = Int64.ofInt 50 := Int64.toInt_inj.mp (by rw [a50]; omega)
    rw [e, d1]
/-- the first couples, row by row -/
def fsB (i j a b : Nat) : Bool := decide (a < i) || (decide (a = i) && decide (b < j))
theorem fsB_iff {i j a b : Nat} : fsB i j a b = true ↔ (a < i ∨ (a = i ∧ b < j)) := by
  unfold fsB
  simp only [Bool.or_eq_true, Bool.and_eq_true, decide_eq_true_iff]
def pbV (V U : pMem) (i j : Nat) : pMem := aRow V 194 fun k => if k < 576 ∧ fsB i j (k / 24) (k % 24) = true then U 194 k else V 194 k
theorem pbV_c {V U : pMem} {i j b : Nat} (h : b ≠ 194) : pbV V U i j b = V b := aRow_cell h
theorem pbV_v {V U : pMem} {i j k : Nat} : pbV V U i j 194 k = if k < 576 ∧ fsB i j (k / 24) (k % 24) = true then U 194 k else V 194 k := by
  unfold pbV
  rw [aRow_same']
/-- from one place to the next -/
theorem pb_next {V U : pMem} {i j i' j' : Nat} (h : ∀ a b, a < 24 → b < 24 → U 194 (24 * a + b) = V 194 (24 * a + b) ∨ ((a < i ∨ (a = i ∧ b < j)) ↔ (a < i' ∨ (a = i' ∧ b < j')))) : pbV V U i j = pbV V U i' j' := by
  unfold pbV
  congr 1
  funext k
  by_cases hk : k < 576
  · have e : 24 * (k / 24) + k % 24 = k := by omega
    rcases h (k / 24) (k % 24) (by omega) (by omega) with q | q
    · rw [e] at q
      rw [q, ite_self, ite_self]
    · by_cases r : k / 24 < i ∨ (k / 24 = i ∧ k % 24 < j)
      · rw [if_pos ⟨hk, fsB_iff.mpr r⟩, if_pos ⟨hk, fsB_iff.mpr (q.mp r)⟩]
      · rw [if_neg (fun s => r (fsB_iff.mp s.2)), if_neg (fun s => r (q.mpr (fsB_iff.mp s.2)))]
  · rw [if_neg (fun s => hk s.1), if_neg (fun s => hk s.1)]
theorem likV_k {o : List Cd} {L : List Ln} {V : pMem} {k : Nat} (h : ¬ k < 576) : likV o L V 194 k = V 194 k := by
  unfold likV
  rw [aRow_same', if_neg (fun s => h s.1)]
theorem sc_194 {V N : pMem} (h : ∀ a j, a < 230 → pScr a j = false → a ≠ 194 → N a j = V a j) (h2 : ∀ j, N 194 j = V 194 j) : sc V N := fun a j h1 hs => by
  by_cases e : a = 194
  · subst e
    exact h2 j
  · exact h a j h1 hs e
/-- what is told of the couples so far -/
def tA92 (V : pMem) (o : List Cd) (L : List Ln) (n i j : Nat) (M : pMem) : Prop := ∀ a b, a < n → b < n → (a < i ∨ (a = i ∧ b < j)) → cpl V a b = true → M 218 (24 * a + b) = tl (FcV V a b) o (kI 14) L
theorem D_92_v {k : Nat} {o : List Cd} {L : List Ln} {M V : pMem} (hs0 : sc V M) (hV : rV V) (hc : rLk V k o L) {v N} (h : D_92 M v N) : sc (likV o L V) N := by
  obtain ⟨⟨n, hn⟩, hb, hk, hl⟩ := id hV
  obtain ⟨n24, hn2, hn3⟩ := id hn
  have same : ∀ {a b : Nat}, a < 24 → b < 24 → cpl V a b = false → likV o L V 194 (24 * a + b) = V 194 (24 * a + b) := fun {a b} ha hb e => by
    rw [likV_v ha hb, e]
    rfl
  have outn : ∀ {a b : Nat}, a < 24 → b < 24 → (n ≤ a ∨ n ≤ b) → cpl V a b = false := fun {a b} ha hb q => by
    unfold cpl
    rcases q with q | q
    · rw [thV_0 hn q ha, Bool.false_and, Bool.and_false]
    · rw [thV_0 hn q hb, Bool.and_false, Bool.and_false]
  have q := h (fun x1 M' v N => ∀ i : Nat, x1.toInt = i → i ≤ n → sc V M' → tA92 V o L n i 0 M' → sc (likV o L V) N,
    fun x1 x2 M' v N => ∀ i j : Nat, x1.toInt = i → x2.toInt = j → i < n → j ≤ n → sc V M' → tA92 V o L n i j M' → sc (likV o L V) N,
    fun x1 M' v N => ∀ i : Nat, x1.toInt = i → i ≤ n → sc (pbV V (likV o L V) i 0) M' → tA92 V o L n n 0 M' → sc (likV o L V) N,
    fun x1 x2 M' v N => ∀ i j : Nat, x1.toInt = i → x2.toInt = j → i < n → j ≤ n → sc (pbV V (likV o L V) i j) M' → tA92 V o L n n 0 M' → sc (likV o L V) N) ⟨?_, ?_, ?_, ?_⟩
  · exact q 0 rfl (Nat.zero_le _) hs0 (fun a b _ _ r => by omega)
  · intro x1 M' v N hs i hi hin hM hA
    have m2 : M' 188 2 = V 188 2 := (sc_rows hM).2.2.2.2.2 2 (by decide) (by decide)
    rcases hs with ⟨g, hs⟩ | ⟨g, hs⟩
    · rw [m2, i_le, hi, hn2] at g
      have e : i = n := by omega
      subst e
      have z : pbV V (likV o L V) 0 0 = V := by
        funext a j
        by_cases ea : a = 194
        · subst ea
          rw [pbV_v, if_neg]
          rintro ⟨_, r⟩
          rw [fsB_iff] at r
          omega
        · rw [pbV_c ea]
      exact hs 0 rfl (Nat.zero_le _) (by rw [z]; exact hM) hA
    · rw [m2, i_le, hi, hn2] at g
      exact hs i 0 hi rfl (by omega) (Nat.zero_le _) hM hA
  · intro x1 x2 M' v N hs i j hi hj hin hjn hM hA
    obtain ⟨r1, r2, r3, r4, r5, r8⟩ := sc_rows hM
    have m2 : M' 188 2 = V 188 2 := r8 2 (by decide) (by decide)
    rcases hs with ⟨g, hs⟩ | ⟨g, hs⟩
    · rw [m2, i_le, hj, hn2] at g
      exact hs (i + 1) (n_add1 hi (by omega)) (by omega) hM (fun a b ha hb r => hA a b ha hb (by omega))
    · rw [m2, i_le, hj, hn2] at g
      have no : cpl V i j = false → tA92 V o L n i (j + 1) M' := fun e a b ha hb r hy => by
        by_cases q : a = i ∧ b = j
        · rw [q.1, q.2, e] at hy
          cases hy
        · exact hA a b ha hb (by omega) hy
      rcases hs with ⟨g2, hs⟩ | ⟨g2, _, hs⟩
      · refine hs i (j + 1) hi (n_add1 hj (by omega)) hin (by omega) hM (no ?_)
        have e : i = j := by rw [i_eq, hi, hj] at g2; omega
        unfold cpl
        rw [decide_eq_true e]
        rfl
      · have ne : ¬ i = j := fun e => g2 (by rw [i_eq, hi, hj, e])
        rw [r3, ix_of hi] at hs
        have th0 : ∀ {a : Nat}, a < 24 → ¬ V 191 a = kI 1 → thV V a = false := fun {a} ha q => by
          rw [thV_y hV ha, decide_eq_false q]
        rcases hs with ⟨g3, hs⟩ | ⟨g3, _, hs⟩
        · refine hs i (j + 1) hi (n_add1 hj (by omega)) hin (by omega) hM (no ?_)
          unfold cpl
          rw [th0 (by omega) g3, Bool.false_and, Bool.and_false]
        · rw [ix_of hj] at hs
          rcases hs with ⟨g4, hs⟩ | ⟨g4, v1, M1, h87, _, M2, e2, hs⟩
          · refine hs i (j + 1) hi (n_add1 hj (by omega)) hin (by omega) hM (no ?_)
            unfold cpl
            rw [th0 (by omega) g4, Bool.and_false, Bool.and_false]
          · obtain ⟨_, _, a1, _, a2⟩ := D_87_v (w := 14) (by decide) (by decide) (rLk_sc hM hc) hi hj h87
            rw [FcV_sc hM] at a1
            have s1 := sc_t hM (sc_87 a2)
            rw [(ix24 hi hj (by omega) (by omega)).2] at e2
            have s2 : sc V M2 := by
              rw [e2]
              exact sc_s s1 (by rfl)
            refine hs i (j + 1) hi (n_add1 hj (by omega)) hin (by omega) s2 (fun a b ha hb r hy => ?_)
            rw [e2, aPut_row]
            by_cases q : a = i ∧ b = j
            · rw [q.1, q.2, if_pos rfl, a1]
              rfl
            · rw [if_neg (by omega), a2.1 218 (by decide) (by decide) (by decide)]
              exact hA a b ha hb (by omega) hy
  · intro x1 M' v N hs i hi hin hM hA
    have m2 : M' 188 2 = V 188 2 := (sc_rows hM).2.2.2.2.2 2 (by decide) (by decide)
    rcases hs with ⟨g, _, hN⟩ | ⟨g, hs⟩
    · rw [m2, i_le, hi, hn2] at g
      have e : i = n := by omega
      subst e
      have z : pbV V (likV o L V) i 0 = likV o L V := by
        funext a k
        by_cases ea : a = 194
        · subst ea
          rw [pbV_v]
          by_cases hk : k < 576
          · by_cases q : fsB i 0 (k / 24) (k % 24) = true
            · rw [if_pos ⟨hk, q⟩]
            · rw [if_neg (fun s => q s.2)]
              have r : ¬ (k / 24 < i ∨ (k / 24 = i ∧ k % 24 < 0)) := fun r => q (fsB_iff.mpr r)
              have := same (a := k / 24) (b := k % 24) (by omega) (by omega) (outn (by omega) (by omega) (Or.inl (by omega)))
              rw [show 24 * (k / 24) + k % 24 = k by omega] at this
              exact this.symm
          · rw [if_neg (fun s => hk s.1), likV_k hk]
        · rw [pbV_c ea, likV_c ea]
      rw [z] at hM
      rw [hN]
      exact hM
    · rw [m2, i_le, hi, hn2] at g
      exact hs i 0 hi rfl (by omega) (Nat.zero_le _) hM hA
  · intro x1 x2 M' v N hs i j hi hj hin hjn hM hA
    obtain ⟨r1, r2, r3, r4, r5, r8⟩ := sc_rows hM
    rw [pbV_c (by decide)] at r1 r3
    have m2 : M' 188 2 = V 188 2 := by rw [r8 2 (by decide) (by decide), pbV_c (by decide)]
    have r4 := congrFun r4
    rcases hs with ⟨g, hs⟩ | ⟨g, hs⟩
    · rw [m2, i_le, hj, hn2] at g
      refine hs (i + 1) (n_add1 hi (by omega)) (by omega) ?_ hA
      rw [pb_next (i' := i) (j' := j)]
      · exact hM
      · intro a b ha hb
        by_cases q : a = i ∧ n ≤ b
        · exact Or.inl (same ha hb (outn ha hb (Or.inr q.2)))
        · right
          omega
    · rw [m2, i_le, hj, hn2] at g
      have no : cpl V i j = false → sc (pbV V (likV o L V) i (j + 1)) M' := fun e => by
        rw [pb_next (i' := i) (j' := j)]
        · exact hM
        · intro a b ha hb
          by_cases q : a = i ∧ b = j
          · left
            rw [q.1, q.2]
            exact same (by omega) (by omega) e
          · right
            omega
      rcases hs with ⟨g2, hs⟩ | ⟨g2, _, hs⟩
      · refine hs i (j + 1) hi (n_add1 hj (by omega)) hin (by omega) (no ?_) hA
        have e : i = j := by rw [i_eq, hi, hj] at g2; omega
        unfold cpl
        rw [decide_eq_true e]
        rfl
      · have ne : ¬ i = j := fun e => g2 (by rw [i_eq, hi, hj, e])
        rw [r3, ix_of hi] at hs
        rcases hs with ⟨g3, hs⟩ | ⟨g3, _, hs⟩
        · refine hs i (j + 1) hi (n_add1 hj (by omega)) hin (by omega) (no ?_) hA
          unfold cpl thV
          rw [decide_eq_true g3]
          rw [Bool.not_true, Bool.false_and, Bool.and_false]
        · rw [ix_of hj] at hs
          rcases hs with ⟨g4, _, _, hs⟩ | ⟨g4, hs⟩
          · have cy : cpl V i j = true := by
              unfold cpl thV
              rw [decide_eq_false ne, decide_eq_false g3, decide_eq_false g4]
              rfl
            rw [(ix24 hi hj (by omega) (by omega)).2, hA i j hin (by omega) (Or.inl hin) cy, r4, pbV_v, if_neg (by
              rintro ⟨_, r⟩
              rw [fsB_iff, (k24 (a := i) (show j < 24 by omega)).1, (k24 (a := i) (show j < 24 by omega)).2] at r
              omega)] at hs
            obtain ⟨t1, t2, t3⟩ := adL_3 (x := V 194 (24 * i + j)) (y := tl (FcV V i j) o (kI 14) L)
            have put : ∀ {M1 : pMem} {z : Int32}, z = adL (V 194 (24 * i + j)) (tl (FcV V i j) o (kI 14) L) → M1 = aPut M' 194 (24 * i + j) z → sc (pbV V (likV o L V) i (j + 1)) M1 ∧ tA92 V o L n n 0 M1 := by
              intro M1 z ez e1
              refine ⟨sc_194 (fun a k h1 h2 h3 => ?_) (fun k => ?_), fun a b ha hb r hy => ?_⟩
              · rw [e1, aPut_cell h3, pbV_c h3, hM a k h1 h2, pbV_c h3]
              · rw [e1, aPut_row, pbV_v]
                by_cases ek : k = 24 * i + j
                · rw [if_pos ek, ek, (k24 (a := i) (show j < 24 by omega)).1, (k24 (a := i) (show j < 24 by omega)).2, if_pos ⟨by omega, fsB_iff.mpr (Or.inr ⟨rfl, by omega⟩)⟩, likV_v (by omega) (by omega), if_pos cy, ez]
                · rw [if_neg ek, r4 k, pbV_v]
                  by_cases hk : k < 576
                  · by_cases q : k / 24 < i ∨ (k / 24 = i ∧ k % 24 < j)
                    · rw [if_pos ⟨hk, fsB_iff.mpr q⟩, if_pos ⟨hk, fsB_iff.mpr (by omega)⟩]
                    · rw [if_neg (fun s => q (fsB_iff.mp s.2)), if_neg (fun s => by have := fsB_iff.mp s.2; omega)]
                  · rw [if_neg (fun s => hk s.1), if_neg (fun s => hk s.1)]
              · rw [e1, aPut_cell (by decide)]
                exact hA a b ha hb r hy
            rcases hs with ⟨g5, hs⟩ | ⟨g5, _, M1, e1, hs⟩
            · rcases hs with ⟨g6, _, M1, e1, hs⟩ | ⟨g6, _, M1, e1, hs⟩
              · obtain ⟨p1, p2⟩ := put (t1 ⟨g5, g6⟩) e1
                exact hs i (j + 1) hi (n_add1 hj (by omega)) hin (by omega) p1 p2
              · obtain ⟨p1, p2⟩ := put (t2 g5 g6) e1
                exact hs i (j + 1) hi (n_add1 hj (by omega)) hin (by omega) p1 p2
            · obtain ⟨p1, p2⟩ := put (t3 g5) e1
              exact hs i (j + 1) hi (n_add1 hj (by omega)) hin (by omega) p1 p2
          · refine hs i (j + 1) hi (n_add1 hj (by omega)) hin (by omega) (no ?_) hA
            unfold cpl thV
            rw [decide_eq_true (Classical.not_not.mp g4), Bool.not_true, Bool.and_false, Bool.and_false]
