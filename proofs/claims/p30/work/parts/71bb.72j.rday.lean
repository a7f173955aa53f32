/-! likes, on the reference's side -/
theorem i64_t {x : Int32} : (Int32.toInt64 x).toInt = x.toInt := Int32.toInt_toInt64 x
/-- what is put: as it is held -/
theorem adL_3 {x y : Int32} : ((lg_cmp (Int32.toInt64 x + Int32.toInt64 y) (Int64.ofInt 50) ≤ 0 ∧ 0 ≤ lg_cmp (Int32.toInt64 x + Int32.toInt64 y) (Int64.ofInt (-50))) → Int64.toInt32 (Int32.toInt64 x + Int32.toInt64 y) = adL x y) ∧
    (lg_cmp (Int32.toInt64 x + Int32.toInt64 y) (Int64.ofInt 50) ≤ 0 → ¬ 0 ≤ lg_cmp (Int32.toInt64 x + Int32.toInt64 y) (Int64.ofInt (-50)) → kI (-50) = adL x y) ∧
    (¬ lg_cmp (Int32.toInt64 x + Int32.toInt64 y) (Int64.ofInt 50) ≤ 0 → kI 50 = adL x y) := by
  unfold adL f_39
  generalize Int32.toInt64 x + Int32.toInt64 y = z
  have a50 : (Int64.ofInt 50).toInt = 50 := by decide
  have m50 : (Int64.ofInt (-50)).toInt = -50 := by decide
  have b50 : Int32.toInt64 (kI 50) = Int64.ofInt 50 := by decide
  have c50 : Int32.toInt64 (kI (-50)) = Int64.ofInt (-50) := by decide
  have d1 : Int64.toInt32 (Int64.ofInt 50) = kI 50 := by decide
  have d2 : Int64.toInt32 (Int64.ofInt (-50)) = kI (-50) := by decide
  have le0 : lg_cmp z (Int64.ofInt 50) ≤ 0 ↔ z.toInt ≤ 50 := by
    have q := lg_1 (a := z) (b := Int64.ofInt 50)
    rw [a50, i_lt, i_0] at q
    rw [i_le, i_0]
    omega
  have ge0 : 0 ≤ lg_cmp z (Int64.ofInt (-50)) ↔ -50 ≤ z.toInt := by
    have q := lg_0 (a := z) (b := Int64.ofInt (-50))
    rw [m50] at q
    exact q
  rw [b50, c50, le0, ge0]
  have l1 : z < Int64.ofInt 50 ↔ z.toInt < 50 := by rw [Int64.lt_iff_toInt_lt, a50]
  have l2 : z < Int64.ofInt (-50) ↔ z.toInt < -50 := by rw [Int64.lt_iff_toInt_lt, m50]
  unfold pMxL pMnL
  by_cases g : z < Int64.ofInt 50
  · rw [if_pos g]
    by_cases g2 : z < Int64.ofInt (-50)
    · rw [if_pos g2, d2]
      have h2 := l2.mp g2
      exact ⟨fun q => absurd q.2 (by omega), fun _ _ => rfl, fun q => absurd q (by omega)⟩
    · rw [if_neg g2]
      have h1 := l1.mp g
      have h2 : ¬ z.toInt < -50 := fun q => g2 (l2.mpr q)
      exact ⟨fun _ => rfl, fun _ q => absurd q (by omega), fun q => absurd q (by omega)⟩
  · rw [if_neg g, if_neg (show ¬ Int64.ofInt 50 < Int64.ofInt (-50) by decide), d1]
    have h1 : ¬ z.toInt < 50 := fun q => g (l1.mpr q)
    refine ⟨fun q => ?_, fun _ q => absurd q (by omega), fun _ => rfl⟩
    have e : z = Int64.ofInt 50 := Int64.toInt_inj.mp (by rw [a50]; omega)
    rw [e, d1]
/-- the first couples, row by row -/
def fsB (i j a b : Nat) : Bool := decide (a < i) || (decide (a = i) && decide (b < j))
theorem fsB_iff {i j a b : Nat} : fsB i j a b = true ↔ (a < i ∨ (a = i ∧ b < j)) := by
  unfold fsB
  simp only [Bool.or_eq_true, Bool.and_eq_true, decide_eq_true_iff]
def pbV (V U : pMem) (i j : Nat) : pMem := aRow V 194 fun k => if k < 576 ∧ fsB i j (k / 24) (k % 24) = true then U 194 k else V 194 k
theorem pbV_c {V U : pMem} {i j b : Nat} (h : b ≠ 194) : pbV V U i j b = V b := aRow_cell h
theorem pbV_v {V U : pMem} {i j k : Nat} : pbV V U i j 194 k = if k < 576 ∧ fsB i j (k / 24) (k % 24) = true then U 194 k else V 194 k := by
  unfold pbV
  rw [aRow_same']
/-- from one place to the next -/
theorem pb_next {V U : pMem} {i j i' j' : Nat} (h : ∀ a b, a < 24 → b < 24 → U 194 (24 * a + b) = V 194 (24 * a + b) ∨ ((a < i ∨ (a = i ∧ b < j)) ↔ (a < i' ∨ (a = i' ∧ b < j')))) : pbV V U i j = pbV V U i' j' := by
  unfold pbV
  congr 1
  funext k
  by_cases hk : k < 576
  · have e : 24 * (k / 24) + k % 24 = k := by omega
    rcases h (k / 24) (k % 24) (by omega) (by omega) with q | q
    · rw [e] at q
      rw [q, ite_self, ite_self]
    · by_cases r : k / 24 < i ∨ (k / 24 = i ∧ k % 24 < j)
      · rw [if_pos ⟨hk, fsB_iff.mpr r⟩, if_pos ⟨hk, fsB_iff.mpr (q.mp r)⟩]
      · rw [if_neg (fun s => r (fsB_iff.mp s.2)), if_neg (fun s => r (q.mpr (fsB_iff.mp s.2)))]
  · rw [if_neg (fun s => hk s.1), if_neg (fun s => hk s.1)]
theorem likV_k {o : List Cd} {L : List Ln} {V : pMem} {k : Nat} (h : ¬ k < 576) : likV o L V 194 k = V 194 k := by
  unfold likV
  rw [aRow_same', if_neg (fun s => h s.1)]
theorem sc_194 {V N : pMem} (h : ∀ a j, a < 230 → pScr a j = false → a ≠ 194 → N a j = V a j) (h2 : ∀ j, N 194 j = V 194 j) : sc V N := fun a j h1 hs => by
  by_cases e : a = 194
  · subst e
    exact h2 j
  · exact h a j h1 hs e
/-- what is told of the couples so far -/
def tA92 (V : pMem) (o : List Cd) (L : List Ln) (n i j : Nat) (M : pMem) : Prop := ∀ a b, a < n → b < n → (a < i ∨ (a = i ∧ b < j)) → cpl V a b = true → M 218 (24 * a + b) = tl (FcV V a b) o (kI 14) L
theorem D_92_v {k : Nat} {o : List Cd} {L : List Ln} {M V : pMem} (hs0 : sc V M) (hV : rV V) (hc : rLk V k o L) {v N} (h : D_92 M v N) : sc (likV o L V) N := by
  obtain ⟨⟨n, hn⟩, hb, hk, hl⟩ := id hV
  obtain ⟨n24, hn2, hn3⟩ := id hn
  have same : ∀ {a b : Nat}, a < 24 → b < 24 → cpl V a b = false → likV o L V 194 (24 * a + b) = V 194 (24 * a + b) := fun {a b} ha hb e => by
    rw [likV_v ha hb, e]
    rfl
  have outn : ∀ {a b : Nat}, a < 24 → b < 24 → (n ≤ a ∨ n ≤ b) → cpl V a b = false := fun {a b} ha hb q => by
    unfold cpl
    rcases q with q | q
    · rw [thV_0 hn q ha, Bool.false_and, Bool.and_false]
    · rw [thV_0 hn q hb, Bool.and_false, Bool.and_false]
  have q := h (fun x1 M' v N => ∀ i : Nat, x1.toInt = i → i ≤ n → sc V M' → tA92 V o L n i 0 M' → sc (likV o L V) N,
    fun x1 x2 M' v N => ∀ i j : Nat, x1.toInt = i → x2.toInt = j → i < n → j ≤ n → sc V M' → tA92 V o L n i j M' → sc (likV o L V) N,
    fun x1 M' v N => ∀ i : Nat, x1.toInt = i → i ≤ n → sc (pbV V (likV o L V) i 0) M' → tA92 V o L n n 0 M' → sc (likV o L V) N,
    fun x1 x2 M' v N => ∀ i j : Nat, x1.toInt = i → x2.toInt = j → i < n → j ≤ n → sc (pbV V (likV o L V) i j) M' → tA92 V o L n n 0 M' → sc (likV o L V) N) ⟨?_, ?_, ?_, ?_⟩
  · exact q 0 rfl (Nat.zero_le _) hs0 (fun a b _ _ r => by omega)
  · intro x1 M' v N hs i hi hin hM hA
    have m2 : M' 188 2 = V 188 2 := (sc_rows hM).2.2.2.2.2 2 (by decide) (by decide)
    rcases hs with ⟨g, hs⟩ | ⟨g, hs⟩
    · rw [m2, i_le, hi, hn2] at g
      have e : i = n := by omega
      subst e
      have z : pbV V (likV o L V) 0 0 = V := by
        funext a j
        by_cases ea : a = 194
        · subst ea
          rw [pbV_v, if_neg]
          rintro ⟨_, r⟩
          rw [fsB_iff] at r
          omega
        · rw [pbV_c ea]
      exact hs 0 rfl (Nat.zero_le _) (by rw [z]; exact hM) hA
    · rw [m2, i_le, hi, hn2] at g
      exact hs i 0 hi rfl (by omega) (Nat.zero_le _) hM hA
  · intro x1 x2 M' v N hs i j hi hj hin hjn hM hA
    obtain ⟨r1, r2, r3, r4, r5, r8⟩ := sc_rows hM
    have m2 : M' 188 2 = V 188 2 := r8 2 (by decide) (by decide)
    rcases hs with ⟨g, hs⟩ | ⟨g, hs⟩
    · rw [m2, i_le, hj, hn2] at g
      exact hs (i + 1) (n_add1 hi (by omega)) (by omega) hM (fun a b ha hb r => hA a b ha hb (by omega))
    · rw [m2, i_le, hj, hn2] at g
      have no : cpl V i j = false → tA92 V o L n i (j + 1) M' := fun e a b ha hb r hy => by
        by_cases q : a = i ∧ b = j
        · rw [q.1, q.2, e] at hy
          cases hy
        · exact hA a b ha hb (by omega) hy
      rcases hs with ⟨g2, hs⟩ | ⟨g2, _, hs⟩
      · refine hs i (j + 1) hi (n_add1 hj (by omega)) hin (by omega) hM (no ?_)
        have e : i = j := by rw [i_eq, hi, hj] at g2; omega
        unfold cpl
        rw [decide_eq_true e]
        rfl
      · have ne : ¬ i = j := fun e => g2 (by rw [i_eq, hi, hj, e])
        rw [r3, ix_of hi] at hs
        have th0 : ∀ {a : Nat}, a < 24 → ¬ V 191 a = kI 1 → thV V a = false := fun {a} ha q => by
          rw [thV_y hV ha, decide_eq_false q]
        rcases hs with ⟨g3, hs⟩ | ⟨g3, _, hs⟩
        · refine hs i (j + 1) hi (n_add1 hj (by omega)) hin (by omega) hM (no ?_)
          unfold cpl
          rw [th0 (by omega) g3, Bool.false_and, Bool.and_false]
        · rw [ix_of hj] at hs
          rcases hs with ⟨g4, hs⟩ | ⟨g4, v1, M1, h87, _, M2, e2, hs⟩
          · refine hs i (j + 1) hi (n_add1 hj (by omega)) hin (by omega) hM (no ?_)
            unfold cpl
            rw [th0 (by omega) g4, Bool.and_false, Bool.and_false]
          · obtain ⟨_, _, a1, _, a2⟩ := D_87_v (w := 14) (by decide) (by decide) (rLk_sc hM hc) hi hj h87
            rw [FcV_sc hM] at a1
            have s1 := sc_t hM (sc_87 a2)
            rw [(ix24 hi hj (by omega) (by omega)).2] at e2
            have s2 : sc V M2 := by
              rw [e2]
              exact sc_s s1 (by rfl)
            refine hs i (j + 1) hi (n_add1 hj (by omega)) hin (by omega) s2 (fun a b ha hb r hy => ?_)
            rw [e2, aPut_row]
            by_cases q : a = i ∧ b = j
            · rw [q.1, q.2, if_pos rfl, a1]
              rfl
            · rw [if_neg (by omega), a2.1 218 (by decide) (by decide) (by decide)]
              exact hA a b ha hb (by omega) hy
  · intro x1 M' v N hs i hi hin hM hA
    have m2 : M' 188 2 = V 188 2 := (sc_rows hM).2.2.2.2.2 2 (by decide) (by decide)
    rcases hs with ⟨g, _, hN⟩ | ⟨g, hs⟩
    · rw [m2, i_le, hi, hn2] at g
      have e : i = n := by omega
      subst e
      have z : pbV V (likV o L V) i 0 = likV o L V := by
        funext a k
        by_cases ea : a = 194
        · subst ea
          rw [pbV_v]
          by_cases hk : k < 576
          · by_cases q : fsB i 0 (k / 24) (k % 24) = true
            · rw [if_pos ⟨hk, q⟩]
            · rw [if_neg (fun s => q s.2)]
              have r : ¬ (k / 24 < i ∨ (k / 24 = i ∧ k % 24 < 0)) := fun r => q (fsB_iff.mpr r)
              have := same (a := k / 24) (b := k % 24) (by omega) (by omega) (outn (by omega) (by omega) (Or.inl (by omega)))
              rw [show 24 * (k / 24) + k % 24 = k by omega] at this
              exact this.symm
          · rw [if_neg (fun s => hk s.1), likV_k hk]
        · rw [pbV_c ea, likV_c ea]
      rw [z] at hM
      rw [hN]
      exact hM
    · rw [m2, i_le, hi, hn2] at g
      exact hs i 0 hi rfl (by omega) (Nat.zero_le _) hM hA
  · intro x1 x2 M' v N hs i j hi hj hin hjn hM hA
    obtain ⟨r1, r2, r3, r4, r5, r8⟩ := sc_rows hM
    rw [pbV_c (by decide)] at r1 r3
    have m2 : M' 188 2 = V 188 2 := by rw [r8 2 (by decide) (by decide), pbV_c (by decide)]
    have r4 := congrFun r4
    rcases hs with ⟨g, hs⟩ | ⟨g, hs⟩
    · rw [m2, i_le, hj, hn2] at g
      refine hs (i + 1) (n_add1 hi (by omega)) (by omega) ?_ hA
      rw [pb_next (i' := i) (j' := j)]
      · exact hM
      · intro a b ha hb
        by_cases q : a = i ∧ n ≤ b
        · exact Or.inl (same ha hb (outn ha hb (Or.inr q.2)))
        · right
          omega
    · rw [m2, i_le, hj, hn2] at g
      have no : cpl V i j = false → sc (pbV V (likV o L V) i (j + 1)) M' := fun e => by
        rw [pb_next (i' := i) (j' := j)]
        · exact hM
        · intro a b ha hb
          by_cases q : a = i ∧ b = j
          · left
            rw [q.1, q.2]
            exact same (by omega) (by omega) e
          · right
            omega
      rcases hs with ⟨g2, hs⟩ | ⟨g2, _, hs⟩
      · refine hs i (j + 1) hi (n_add1 hj (by omega)) hin (by omega) (no ?_) hA
        have e : i = j := by rw [i_eq, hi, hj] at g2; omega
        unfold cpl
        rw [decide_eq_true e]
        rfl
      · have ne : ¬ i = j := fun e => g2 (by rw [i_eq, hi, hj, e])
        rw [r3, ix_of hi] at hs
        rcases hs with ⟨g3, hs⟩ | ⟨g3, _, hs⟩
        · refine hs i (j + 1) hi (n_add1 hj (by omega)) hin (by omega) (no ?_) hA
          unfold cpl thV
          rw [decide_eq_true g3]
          rw [Bool.not_true, Bool.false_and, Bool.and_false]
        · rw [ix_of hj] at hs
          rcases hs with ⟨g4, _, _, hs⟩ | ⟨g4, hs⟩
          · have cy : cpl V i j = true := by
              unfold cpl thV
              rw [decide_eq_false ne, decide_eq_false g3, decide_eq_false g4]
              rfl
            rw [(ix24 hi hj (by omega) (by omega)).2, hA i j hin (by omega) (Or.inl hin) cy, r4, pbV_v, if_neg (by
              rintro ⟨_, r⟩
              rw [fsB_iff, (k24 (a := i) (show j < 24 by omega)).1, (k24 (a := i) (show j < 24 by omega)).2] at r
              omega)] at hs
            obtain ⟨t1, t2, t3⟩ := adL_3 (x := V 194 (24 * i + j)) (y := tl (FcV V i j) o (kI 14) L)
            have put : ∀ {M1 : pMem} {z : Int32}, z = adL (V 194 (24 * i + j)) (tl (FcV V i j) o (kI 14) L) → M1 = aPut M' 194 (24 * i + j) z → sc (pbV V (likV o L V) i (j + 1)) M1 ∧ tA92 V o L n n 0 M1 := by
              intro M1 z ez e1
              refine ⟨sc_194 (fun a k h1 h2 h3 => ?_) (fun k => ?_), fun a b ha hb r hy => ?_⟩
              · rw [e1, aPut_cell h3, pbV_c h3, hM a k h1 h2, pbV_c h3]
              · rw [e1, aPut_row, pbV_v]
                by_cases ek : k = 24 * i + j
                · rw [if_pos ek, ek, (k24 (a := i) (show j < 24 by omega)).1, (k24 (a := i) (show j < 24 by omega)).2, if_pos ⟨by omega, fsB_iff.mpr (Or.inr ⟨rfl, by omega⟩)⟩, likV_v (by omega) (by omega), if_pos cy, ez]
                · rw [if_neg ek, r4 k, pbV_v]
                  by_cases hk : k < 576
                  · by_cases q : k / 24 < i ∨ (k / 24 = i ∧ k % 24 < j)
                    · rw [if_pos ⟨hk, fsB_iff.mpr q⟩, if_pos ⟨hk, fsB_iff.mpr (by omega)⟩]
                    · rw [if_neg (fun s => q (fsB_iff.mp s.2)), if_neg (fun s => by have := fsB_iff.mp s.2; omega)]
                  · rw [if_neg (fun s => hk s.1), if_neg (fun s => hk s.1)]
              · rw [e1, aPut_cell (by decide)]
                exact hA a b ha hb r hy
            rcases hs with ⟨g5, hs⟩ | ⟨g5, _, M1, e1, hs⟩
            · rcases hs with ⟨g6, _, M1, e1, hs⟩ | ⟨g6, _, M1, e1, hs⟩
              · obtain ⟨p1, p2⟩ := put (t1 ⟨g5, g6⟩) e1
                exact hs i (j + 1) hi (n_add1 hj (by omega)) hin (by omega) p1 p2
              · obtain ⟨p1, p2⟩ := put (t2 g5 g6) e1
                exact hs i (j + 1) hi (n_add1 hj (by omega)) hin (by omega) p1 p2
            · obtain ⟨p1, p2⟩ := put (t3 g5) e1
              exact hs i (j + 1) hi (n_add1 hj (by omega)) hin (by omega) p1 p2
          · refine hs i (j + 1) hi (n_add1 hj (by omega)) hin (by omega) (no ?_) hA
            unfold cpl thV
            rw [decide_eq_true (Classical.not_not.mp g4), Bool.not_true, Bool.and_false, Bool.and_false]
/-! fights, home, names, against: the reference -/
theorem rLk_v {V U : pMem} {k : Nat} {o : List Cd} {L : List Ln} (h : rLk V k o L) (f : ∀ b, 204 ≤ b → b ≤ 211 → U b = V b) (f4 : U 188 4 = V 188 4) : rLk U k o L := rLk_c h f f4
theorem rLk_fg {V : pMem} {k : Nat} {o : List Cd} {L : List Ln} {l : Nat} (h : rLk V k o L) : rLk (fgV o L l V) k o L := rLk_v h (fun b h1 _ => fgV_v.1 b (by omega) (by omega) (by omega)) (fgV_v.2.1 4 (by decide) (by decide))
theorem rLk_fg0 {V : pMem} {k : Nat} {o : List Cd} {L : List Ln} (h : rLk V k o L) : rLk (fg0 V) k o L := by
  unfold fg0
  exact rLk_v h (fun b h1 _ => by funext j; rw [aPut_cell (by omega), aPut_cell (by omega)]) (by rw [aPut_at (by decide), aPut_at (by decide)])
theorem rLk_lik {V : pMem} {k : Nat} {o : List Cd} {L : List Ln} (h : rLk V k o L) : rLk (likV o L V) k o L := rLk_v h (fun b h1 _ => likV_c (by omega)) (by rw [likV_c (by decide)])
theorem rLk_ho {V : pMem} {k : Nat} {o : List Cd} {L : List Ln} (h : rLk V k o L) : rLk (hoV o L V) k o L := rLk_v h (fun b h1 _ => hoV_v.1 b (by omega) (by omega)) (hoV_v.2.1 4 (by decide))
theorem rLk_na {V : pMem} {k : Nat} {o : List Cd} {L : List Ln} {l : Nat} (h : rLk V k o L) : rLk (naV o L l V) k o L := rLk_v h (fun b h1 _ => naV_v.1 b (by omega) (by omega)) (naV_v.2.1 4 (by decide))
theorem rLk_na0 {V : pMem} {k : Nat} {o : List Cd} {L : List Ln} (h : rLk V k o L) : rLk (na0 V) k o L := by
  unfold na0
  exact rLk_v h (fun b h1 _ => by funext j; rw [aPut_cell (by omega)]) (by rw [aPut_at (by decide)])
theorem rLk_bg {V : pMem} {k : Nat} {o : List Cd} {L : List Ln} {a b c : Int32} (h : rLk V k o L) : rLk (bgV a b c V) k o L := rLk_v h (fun b h1 _ => bgV_v.1 b (by omega) (by omega)) (by rw [bgV_v.2.1, bg0_v.2]; rfl)
theorem rLk_pl {V : pMem} {k : Nat} {o : List Cd} {L : List Ln} (h : rLk V k o L) : rLk (plV V) k o L := rLk_v h (fun b h1 _ => plV_v.1 b (by omega) (by omega)) (by rw [plV_v.2.1]; rfl)
def fgN (o : List Cd) (L : List Ln) : Nat → pMem → pMem
  | 0, V => V
  | n + 1, V => fgV o L n (fgN o L n V)
theorem fgN_ok {o : List Cd} {L : List Ln} {k : Nat} {V : pMem} (hV : rV V) (hc : rLk V k o L) : ∀ {n : Nat}, rV (fgN o L n V) ∧ rLk (fgN o L n V) k o L
  | 0 => ⟨hV, hc⟩
  | n + 1 => ⟨rV_fg (fgN_ok hV hc).1, rLk_fg (fgN_ok hV hc).2⟩
theorem sc_r8 {V N : pMem} (h : sc V N) {j : Nat} (h0 : j ≠ 0) (h1 : j ≠ 51) : N 188 j = V 188 j := (sc_rows h).2.2.2.2.2 j h0 h1
theorem D_93_v {k : Nat} {o : List Cd} {L : List Ln} {M V : pMem} (hs0 : sc V M) (hV : rV V) (hc : rLk V k o L) {v N} (h : D_93 M v N) : sc (fgV o L 1 (fgV o L 0 (fg0 V))) N := by
  obtain ⟨M1, e1, M2, e2, h⟩ := h
  have s2 : sc (fg0 V) M2 := by
    rw [e2, e1]
    exact sc_p (sc_p hs0 rfl) rfl
  have q := h (fun x1 M' v N => ∀ i : Nat, x1.toInt = i → i ≤ 2 → sc (fgN o L i (fg0 V)) M' → sc (fgN o L 2 (fg0 V)) N) ?_
  · exact q 0 rfl (Nat.zero_le _) s2
  · intro x1 M' v N hs i hi hi2 hM
    obtain ⟨iV, iL⟩ := fgN_ok (o := o) (L := L) (n := i) (rV_fg0 hV) (rLk_fg0 hc)
    rcases hs with ⟨g, _, hN⟩ | ⟨g, v1, M1, h88, hs⟩
    · rw [i_le, hi, kI_toInt (by decide) (by decide)] at g
      have e : i = 2 := by omega
      rw [e] at hM
      rw [hN]
      exact hM
    · rw [i_le, hi, kI_toInt (by decide) (by decide)] at g
      obtain ⟨a1, a2⟩ := D_88_v (w := 15) (by decide) (by decide) (rLk_sc hM iL) (rV_sc hM iV) h88
      have s1 := sc_t hM (sc_87 a2)
      have ex : x1 = kI (i : Nat) := kI_inj hi
      rw [FlV_sc hM, ex] at a1
      have tv : v1 = tl (FlV (fgN o L i (fg0 V)) (kI (i : Nat))) o (kI 15) L := a1
      have r7 : M1 197 = fgN o L i (fg0 V) 197 := sc_row s1 (by decide) rfl (by decide)
      have r8 : M1 198 = fgN o L i (fg0 V) 198 := sc_row s1 (by decide) rfl (by decide)
      rw [ix_of hi] at hs
      -- what is counted
      have go : ∀ {z : Int32} {M2 M3 M4 M5 : pMem}, 0 < tl (FlV (fgN o L i (fg0 V)) (kI (i : Nat))) o (kI 15) L → z = h999 v1 → M2 = aPut M1 188 54 (M1 188 54 ||| kI 1 <<< (x1 &&& 31)) → M3 = aPut M2 197 i (M2 197 i + kI 1) → M4 = aPut M3 198 i (M3 198 i + z) → M5 = aPut M4 188 55 (M4 188 55 + z) → sc (fgN o L (i + 1) (fg0 V)) M5 := by
        intro z M2 M3 M4 M5 pg ez e2 e3 e4 e5
        show sc (fgV o L i (fgN o L i (fg0 V))) M5
        unfold fgV
        rw [if_pos pg, ← tv, ← ez]
        have q54 : M1 188 54 = fgN o L i (fg0 V) 188 54 := sc_r8 s1 (by decide) (by decide)
        have q55 : M4 188 55 = fgN o L i (fg0 V) 188 55 := by
          rw [e4, aPut_cell (by decide), e3, aPut_cell (by decide), e2, aPut_at (by decide)]
          exact sc_r8 s1 (by decide) (by decide)
        have q7 : M2 197 i = fgN o L i (fg0 V) 197 i := by rw [e2, aPut_cell (by decide), r7]
        have q8 : M3 198 i = fgN o L i (fg0 V) 198 i := by rw [e3, aPut_cell (by decide), e2, aPut_cell (by decide), r8]
        rw [e5, q55, e4, q8, e3, q7, e2, q54, ex]
        exact sc_p (sc_p (sc_p (sc_p s1 rfl) rfl) rfl) rfl
      rcases hs with ⟨g2, hs⟩ | ⟨g2, hs⟩
      · have pg : 0 < tl (FlV (fgN o L i (fg0 V)) (kI (i : Nat))) o (kI 15) L := by rw [← tv]; exact g2
        rcases hs with ⟨g3, M2, e2, _, _, M3, e3, _, _, M4, e4, M5, e5, hs⟩ | ⟨g3, M2, e2, _, _, M3, e3, _, _, M4, e4, M5, e5, hs⟩
        · exact hs (i + 1) (n_add1 hi (by omega)) (by omega) (go (z := v1) pg (by unfold h999; rw [if_pos g3]) e2 e3 e4 e5)
        · exact hs (i + 1) (n_add1 hi (by omega)) (by omega) (go (z := kI 999) pg (by unfold h999; rw [if_neg g3]) e2 e3 e4 e5)
      · refine hs (i + 1) (n_add1 hi (by omega)) (by omega) ?_
        show sc (fgV o L i (fgN o L i (fg0 V))) M1
        unfold fgV
        rw [if_neg (by rw [← tv]; exact g2)]
        exact s1
/-! home -/
def hoN (o : List Cd) (L : List Ln) (V : pMem) (i : Nat) : pMem := aPut (aRow V 191 fun a => if a < i ∧ goV o L V a = true then kI 0 else V 191 a) 188 57 (kI (cN (goV o L V) i : Nat))
theorem hoN_24 {o : List Cd} {L : List Ln} {V : pMem} {n : Nat} (hn : rNb V n) : hoN o L V n = hoV o L V := by
  have g : ∀ a, n ≤ a → a < 24 → goV o L V a = false := fun a h1 h2 => by
    unfold goV
    rw [thV_0 hn h1 h2]
    rfl
  unfold hoN hoV
  rw [cN_ext hn.1 g]
  congr 2
  funext a
  by_cases h : a < n
  · by_cases q : goV o L V a = true
    · rw [if_pos ⟨h, q⟩, if_pos ⟨by have := hn.1; omega, q⟩]
    · rw [if_neg (fun s => q s.2), if_neg (fun s => q s.2)]
  · rw [if_neg (fun s => h s.1), if_neg]
    rintro ⟨s1, s2⟩
    rw [g a (by omega) s1] at s2
    cases s2
theorem D_94_v {k : Nat} {o : List Cd} {L : List Ln} {M V : pMem} (hs0 : sc V M) (hV : rV V) (hc : rLk V k o L) {v N} (h : D_94 M v N) : sc (hoV o L V) N := by
  obtain ⟨⟨n, hn⟩, hb, hk, hl⟩ := id hV
  obtain ⟨n24, hn2, hn3⟩ := id hn
  obtain ⟨M1, e1, h⟩ := h
  have z : hoN o L V 0 = aPut V 188 57 (kI 0) := by
    have : (aRow V 191 fun a => if a < 0 ∧ goV o L V a = true then kI 0 else V 191 a) = V := by
      funext a j
      by_cases ea : a = 191
      · subst ea
        rw [aRow_same', if_neg (fun s => by omega)]
      · rw [aRow_cell ea]
    unfold hoN
    rw [this]
    rfl
  have s1 : sc (aPut V 188 57 (kI 0)) M1 := by rw [e1]; exact sc_p hs0 rfl
  have V0 : rV (aPut V 188 57 (kI 0)) := rV_188 hV (fun b h1 _ => by funext j; exact aPut_cell (by omega)) (aPut_at (by decide))
  have L0 : rLk (aPut V 188 57 (kI 0)) k o L := rLk_v hc (fun b h1 _ => by funext j; exact aPut_cell (by omega)) (aPut_at (by decide))
  have N0 : rNb (aPut V 188 57 (kI 0)) n := ⟨n24, by rw [aPut_at (by decide)]; exact hn2, fun i h1 h2 => by rw [aPut_cell (by decide)]; exact hn3 i h1 h2⟩
  have F0 : FbV (aPut V 188 57 (kI 0)) = FbV V := by
    have c : ∀ b, b ≠ 188 → aPut V 188 57 (kI 0) b = V b := fun b hb => by funext j; exact aPut_cell hb
    have d : ∀ j, j ≠ 57 → aPut V 188 57 (kI 0) 188 j = V 188 j := fun j hj => aPut_at hj
    have fd : FdV (aPut V 188 57 (kI 0)) = FdV V := by
      funext lot k
      unfold FdV
      rw [d 17 (by decide), d 18 (by decide), d 19 (by decide), d 20 (by decide), d 21 (by decide)]
    have il : inL (aPut V 188 57 (kI 0)) = inL V := funext fun _ => inL_c (c 191 (by decide)) (c 189 (by decide))
    funext b k
    unfold FbV
    rw [il, lkV_c (c 194 (by decide)), fd, c 189 (by decide), c 190 (by decide)]
  have q := h (fun x1 M' v N => ∀ i : Nat, x1.toInt = i → i ≤ n → sc (aPut V 188 57 (kI 0)) M' → (∀ a, a < i → M' 219 a = if goV o L V a = true then kI 1 else kI 0) → sc (hoV o L V) N,
    fun x1 M' v N => ∀ i : Nat, x1.toInt = i → i ≤ n → sc (hoN o L V i) M' → (∀ a, a < n → M' 219 a = if goV o L V a = true then kI 1 else kI 0) → sc (hoV o L V) N) ⟨?_, ?_⟩
  · exact q 0 rfl (Nat.zero_le _) s1 (fun a ha => absurd ha (Nat.not_lt_zero a))
  · intro x1 M' v N hs i hi hin hM hA
    have m2 : M' 188 2 = V 188 2 := by rw [sc_r8 hM (by decide) (by decide), aPut_at (by decide)]
    rcases hs with ⟨g, hs⟩ | ⟨g, _, hs⟩
    · rw [m2, i_le, hi, hn2] at g
      have e : i = n := by omega
      subst e
      exact hs 0 rfl (Nat.zero_le _) (by rw [z]; exact hM) hA
    · rw [m2, i_le, hi, hn2] at g
      have r191 : M' 191 i = V 191 i := by rw [(sc_rows hM).2.2.1, aPut_cell (by decide)]
      rw [ix_of hi, r191] at hs
      have put : ∀ {M1 M2 : pMem} {y : Int32}, sc (aPut V 188 57 (kI 0)) M1 → (∀ a, M1 219 a = M' 219 a) → M2 = aPut M1 219 i y → y = (if goV o L V i = true then kI 1 else kI 0) → sc (aPut V 188 57 (kI 0)) M2 ∧ ∀ a, a < i + 1 → M2 219 a = if goV o L V a = true then kI 1 else kI 0 := by
        intro M1 M2 y s h19 e ey
        refine ⟨by rw [e]; exact sc_s s (by rfl), fun a ha => ?_⟩
        rw [e, aPut_row]
        by_cases q : a = i
        · rw [if_pos q, ey, q]
        · rw [if_neg q, h19]
          exact hA a (by omega)
      rcases hs with ⟨g2, _, M1, e1, hs⟩ | ⟨g2, v1, M1, h89, hs⟩
      · obtain ⟨p1, p2⟩ := put hM (fun _ => rfl) e1 (by
          have e : goV o L V i = false := by
            unfold goV
            rw [thV_y hV (by omega), decide_eq_false g2]
            rfl
          rw [e]
          rfl)
        exact hs (i + 1) (n_add1 hi (by omega)) (by omega) p1 p2
      · obtain ⟨a1, a2⟩ := D_89_v (n := n) (rLk_sc hM L0) (rV_sc hM V0) (rNb_sc hM N0) hi (by omega) h89
        rw [FbV_sc hM, F0] at a1
        have s2 := sc_t hM (sc_87 a2)
        have h19 : ∀ a, M1 219 a = M' 219 a := fun a => by rw [a2.1 219 (by decide) (by decide) (by decide)]
        have th : thV V i = true := by rw [thV_y hV (by omega), decide_eq_true (Classical.not_not.mp g2)]
        rcases hs with ⟨g3, _, M2, e2, hs⟩ | ⟨g3, _, M2, e2, hs⟩
        · obtain ⟨p1, p2⟩ := put s2 h19 e2 (by
            have e : goV o L V i = false := by
              unfold goV
              rw [decide_eq_false, Bool.and_false]
              rw [← a1, i_lt, i_0]
              rw [i_le, i_0] at g3
              omega
            rw [e]
            rfl)
          exact hs (i + 1) (n_add1 hi (by omega)) (by omega) p1 p2
        · obtain ⟨p1, p2⟩ := put s2 h19 e2 (by
            have e : goV o L V i = true := by
              unfold goV
              rw [th, decide_eq_true]
              · rfl
              · rw [← a1, i_lt, i_0]
                rw [i_le, i_0] at g3
                omega
            rw [e, if_pos rfl])
          exact hs (i + 1) (n_add1 hi (by omega)) (by omega) p1 p2
  · intro x1 M' v N hs i hi hin hM hA
    have m2 : M' 188 2 = V 188 2 := by
      rw [sc_r8 hM (by decide) (by decide)]
      unfold hoN
      rw [aPut_at (by decide), aRow_cell (by decide)]
    rcases hs with ⟨g, _, hN⟩ | ⟨g, _, hs⟩
    · rw [m2, i_le, hi, hn2] at g
      have e : i = n := by omega
      rw [e, hoN_24 hn] at hM
      rw [hN]
      exact hM
    · rw [m2, i_le, hi, hn2] at g
      rw [ix_of hi, hA i (by omega)] at hs
      have cs : cN (goV o L V) (i + 1) = cN (goV o L V) i + (if goV o L V i = true then 1 else 0) := rfl
      rcases hs with ⟨g2, _, M1, e1, M2, e2, hs⟩ | ⟨g2, hs⟩
      · have e : goV o L V i = true := Classical.byContradiction fun q => g2 (by rw [if_neg q]; rfl)
        refine hs (i + 1) (n_add1 hi (by omega)) (by omega) ?_ (fun a ha => by rw [e2, aPut_cell (by decide), e1, aPut_cell (by decide)]; exact hA a ha)
        have q57 : M1 188 57 = kI (cN (goV o L V) i : Nat) := by
          rw [e1, aPut_cell (by decide), sc_r8 hM (by decide) (by decide)]
          unfold hoN
          rw [aPut_same]
        have en : hoN o L V (i + 1) = aPut (aPut (hoN o L V i) 191 i (kI 0)) 188 57 (M1 188 57 + kI 1) := by
          funext a j
          unfold hoN
          by_cases a8 : a = 188
          · subst a8
            by_cases j7 : j = 57
            · subst j7
              rw [aPut_same, aPut_same, q57, cs, if_pos e, kI_n1]
              rfl
            · rw [aPut_at j7, aPut_at j7, aPut_cell (by decide), aPut_at j7, aRow_cell (by decide), aRow_cell (by decide)]
          · rw [aPut_cell a8, aPut_cell a8]
            by_cases a1 : a = 191
            · subst a1
              rw [aRow_same', aPut_row, aPut_cell (by decide), aRow_same']
              by_cases q : j = i
              · rw [if_pos q, if_pos ⟨by omega, by rw [q]; exact e⟩]
              · rw [if_neg q]
                by_cases r : j < i ∧ goV o L V j = true
                · rw [if_pos r, if_pos ⟨by omega, r.2⟩]
                · rw [if_neg r, if_neg (fun s => r ⟨by omega, s.2⟩)]
            · rw [aRow_cell a1, aPut_cell a1, aPut_cell a8, aRow_cell a1]
        rw [en, e2]
        refine sc_p ?_ rfl
        rw [e1]
        exact sc_p hM rfl
      · have e : goV o L V i = false := by
          cases q : goV o L V i with
          | false => rfl
          | true =>
            rw [q, if_pos rfl] at g2
            exact absurd (Classical.not_not.mp g2) (by decide)
        refine hs (i + 1) (n_add1 hi (by omega)) (by omega) ?_ hA
        have en : hoN o L V (i + 1) = hoN o L V i := by
          unfold hoN
          rw [cs, e]
          congr 2
          funext a
          by_cases q : a = i
          · rw [q, e, if_neg (fun s => by cases s.2), if_neg (fun s => by cases s.2)]
          · by_cases r : a < i ∧ goV o L V a = true
            · rw [if_pos r, if_pos ⟨by omega, r.2⟩]
            · rw [if_neg r, if_neg (fun s => r ⟨by omega, s.2⟩)]
        rw [en]
        exact hM
/-! names -/
def naN (o : List Cd) (L : List Ln) : Nat → pMem → pMem
  | 0, V => V
  | n + 1, V => naV o L n (naN o L n V)
theorem naN_ok {o : List Cd} {L : List Ln} {k : Nat} {V : pMem} (hV : rV V) (hd : 0 ≤ (V 188 3).toInt ∧ (V 188 3).toInt ≤ 100000) (hc : rLk V k o L) : ∀ {n : Nat}, rV (naN o L n V) ∧ rLk (naN o L n V) k o L ∧ naN o L n V 188 3 = V 188 3
  | 0 => ⟨hV, hc, rfl⟩
  | n + 1 => by
    obtain ⟨a, b, c⟩ := naN_ok (n := n) hV hd hc
    exact ⟨rV_na a (by rw [c]; exact hd), rLk_na b, (naV_v.2.1 3 (by decide)).trans c⟩
theorem D_95_v {k : Nat} {o : List Cd} {L : List Ln} {M V : pMem} (hs0 : sc V M) (hV : rV V) (hd : 0 ≤ (V 188 3).toInt ∧ (V 188 3).toInt ≤ 100000) (hc : rLk V k o L) {v N} (h : D_95 M v N) : sc (naV o L 1 (naV o L 0 (na0 V))) N := by
  obtain ⟨M1, e1, h⟩ := h
  have s1 : sc (na0 V) M1 := by rw [e1]; exact sc_p hs0 rfl
  have V0 := rV_cg hV (aV_na0 (V := V))
  have d0 : na0 V 188 3 = V 188 3 := by unfold na0; rw [aPut_at (by decide)]
  have q := h (fun x1 M' v N => ∀ i : Nat, x1.toInt = i → i ≤ 2 → sc (naN o L i (na0 V)) M' → sc (naN o L 2 (na0 V)) N) ?_
  · exact q 0 rfl (Nat.zero_le _) s1
  · intro x1 M' v N hs i hi hi2 hM
    obtain ⟨iV, iL, id3⟩ := naN_ok (o := o) (L := L) (n := i) V0 (by rw [d0]; exact hd) (rLk_na0 hc)
    rcases hs with ⟨g, _, hN⟩ | ⟨g, _, hs⟩
    · rw [i_le, hi, kI_toInt (by decide) (by decide)] at g
      have e : i = 2 := by omega
      rw [e] at hM
      rw [hN]
      exact hM
    · rw [i_le, hi, kI_toInt (by decide) (by decide)] at g
      have ex : x1 = kI (i : Nat) := kI_inj hi
      have r6 : M' 196 = naN o L i (na0 V) 196 := sc_row hM (by decide) rfl (by decide)
      rw [ix_of hi, r6] at hs
      have stay : ∀ {M1 : pMem}, sc (naN o L i (na0 V)) M1 → ¬ (naN o L i (na0 V) 196 i = 0 ∧ 0 < tl (FlV (naN o L i (na0 V)) (kI (i : Nat))) o (kI 17) L) → sc (naN o L (i + 1) (na0 V)) M1 := fun s hn => by
        show sc (naV o L i (naN o L i (na0 V))) _
        unfold naV
        rw [if_neg hn]
        exact s
      rcases hs with ⟨g2, hs⟩ | ⟨g2, v1, M1, h88, hs⟩
      · exact hs (i + 1) (n_add1 hi (by omega)) (by omega) (stay hM fun q => g2 q.1)
      · obtain ⟨a1, a2⟩ := D_88_v (w := 17) (by decide) (by decide) (rLk_sc hM iL) (rV_sc hM iV) h88
        have s1 := sc_t hM (sc_87 a2)
        rw [FlV_sc hM, ex] at a1
        have tv : v1 = tl (FlV (naN o L i (na0 V)) (kI (i : Nat))) o (kI 17) L := a1
        rcases hs with ⟨g3, _, M2, e2, M3, e3, hs⟩ | ⟨g3, hs⟩
        · refine hs (i + 1) (n_add1 hi (by omega)) (by omega) ?_
          show sc (naV o L i (naN o L i (na0 V))) M3
          unfold naV
          rw [if_pos ⟨Classical.not_not.mp g2, by rw [← tv]; exact g3⟩]
          have q3 : M1 188 3 = naN o L i (na0 V) 188 3 := sc_r8 s1 (by decide) (by decide)
          have q56 : M2 188 56 = naN o L i (na0 V) 188 56 := by rw [e2, aPut_cell (by decide)]; exact sc_r8 s1 (by decide) (by decide)
          rw [e3, q56, e2, q3]
          exact sc_p (sc_p s1 rfl) rfl
        · exact hs (i + 1) (n_add1 hi (by omega)) (by omega) (stay s1 fun q => g3 (by rw [tv]; exact q.2))
/-! against -/
theorem scoV_sc {V N : pMem} (h : sc V N) : scoV N = scoV V := by
  funext p
  unfold scoV
  rw [inL_sc h, lkV_sc h, sc_r8 h (by decide) (by decide), (sc_rows h).2.1]
theorem D_91_v {M V : pMem} (hs0 : sc V M) (hV : rV V) {v N} (h : D_91 M v N) : sc (plV V) N := by
  obtain ⟨⟨n, hn⟩, hb, hk, hl⟩ := id hV
  obtain ⟨v1, M1, ha, v2, M2, hbb, h⟩ := h
  obtain ⟨a1, a2⟩ := D_90_v (rNb_sc hs0 hn) (fun i hi => by rw [(sc_rows hs0).2.2.1]; exact (hb i hi).2) ha
  have sa : v1 = scoV V (kI 0) := by rw [a1, ← scoV_sc hs0]; rfl
  have s1 : sc (drwV V) M1 := by
    rw [a2, sc_r8 hs0 (by decide) (by decide)]
    exact sc_p hs0 rfl
  have V1 := rV_drw hV
  obtain ⟨⟨n1, hn1⟩, hb1, _⟩ := id V1
  obtain ⟨b1, b2⟩ := D_90_v (rNb_sc s1 hn1) (fun i hi => by rw [(sc_rows s1).2.2.1]; exact (hb1 i hi).2) hbb
  have sb : v2 = scoV (drwV V) (kI 1) := by rw [b1, ← scoV_sc s1]; rfl
  have s2 : sc (drwV (drwV V)) M2 := by
    rw [b2, sc_r8 s1 (by decide) (by decide)]
    exact sc_p s1 rfl
  -- who won
  have end_ : ∀ {x : Int32} {M3 : pMem}, x = wonV V → M3 = aPut M2 188 20 x → (tIf ((M3 188 20) = (kI (-1))) (tRet () M3) (tGd (pIn (M3 188 20) 2) <| tGd (pIn (M3 188 20) 2) <| tPut (aPut M3 199 (ix (M3 188 20)) ((M3 199 (ix (M3 188 20))) + (kI 1))) fun M4 => tRet () M4)) v N → sc (plV V) N := by
    intro x M3 ex e3 h
    have q20 : M3 188 20 = wonV V := by rw [e3, aPut_same]; exact ex
    have s3 : sc (plV0 V) M3 := by
      rw [e3]
      exact sc_p s2 ex.symm
    rw [q20] at h
    unfold plV
    rcases h with ⟨g, _, hN⟩ | ⟨g, _, _, M4, e4, _, hN⟩
    · rw [if_pos g, hN]
      exact s3
    · rw [if_neg g, hN, e4]
      refine sc_p s3 ?_
      have r9 : M3 199 = plV0 V 199 := sc_row s3 (by decide) rfl (by decide)
      rw [r9]
      unfold plV0
      rw [aPut_cell (by decide), drwV_v.1 199 (by decide), drwV_v.1 199 (by decide)]
  have le : v1 ≤ v2 ↔ scoV V (kI 0) ≤ scoV (drwV V) (kI 1) := by rw [sa, sb]
  have eq : v1 = v2 ↔ scoV V (kI 0) = scoV (drwV V) (kI 1) := by rw [sa, sb]
  rcases h with ⟨g, h⟩ | ⟨g, M3, e3, h⟩
  · rcases h with ⟨g2, M3, e3, h⟩ | ⟨g2, M3, e3, h⟩
    · refine end_ ?_ e3 h
      unfold wonV
      rw [if_pos]
      rw [← eq, i_eq]
      rw [i_le] at g g2
      omega
    · refine end_ ?_ e3 h
      unfold wonV
      rw [if_neg, if_pos (le.mp g)]
      rw [← eq, i_eq]
      rw [i_le] at g2
      omega
  · refine end_ ?_ e3 h
    unfold wonV
    rw [if_neg, if_neg (fun q => g (le.mpr q))]
    rw [← eq, i_eq]
    rw [i_le] at g
    omega
/-! the whole day -/
/-- but for loyalty and what is kept -/
def sx (V N : pMem) : Prop := ∀ a j, a < 230 → pScr a j = false → a ≠ 192 → a ≠ 201 → N a j = V a j
theorem sx_row {V N : pMem} (h : sx V N) {a : Nat} (ha : a < 230) (hs : pScrA a = false) (h8 : a ≠ 188) (h2 : a ≠ 192) (h3 : a ≠ 201) : N a = V a := funext fun j => h a j ha (pScr_of hs h8 j) h2 h3
theorem sx_8 {V N : pMem} (h : sx V N) {j : Nat} (h0 : j ≠ 0) (h5 : j ≠ 51) : N 188 j = V 188 j := h 188 j (by decide) (by
    unfold pScr
    rw [show Nat.beq j 0 = false from Bool.eq_false_iff.mpr fun q => h0 (Nat.eq_of_beq_eq_true q), show Nat.beq j 51 = false from Bool.eq_false_iff.mpr fun q => h5 (Nat.eq_of_beq_eq_true q)]
    rfl) (by decide) (by decide)
theorem agV_sx {V N : pMem} (h : sx V N) : agV V N := by
  have r : ∀ a, a = 189 ∨ a = 190 ∨ a = 191 ∨ a = 194 ∨ a = 195 ∨ a = 196 ∨ a = 197 ∨ a = 198 ∨ a = 199 ∨ a = 200 → N a = V a := fun a e => by
    rcases e with rfl | rfl | rfl | rfl | rfl | rfl | rfl | rfl | rfl | rfl <;> exact sx_row h (by decide) rfl (by decide) (by decide) (by decide)
  have e : ∀ j, j ≠ 0 → j ≠ 51 → N 188 j = V 188 j := fun j h0 h5 => sx_8 h h0 h5
  refine ⟨⟨e 1 (by decide) (by decide), e 2 (by decide) (by decide), e 3 (by decide) (by decide), e 17 (by decide) (by decide), e 18 (by decide) (by decide), e 19 (by decide) (by decide), e 20 (by decide) (by decide), e 21 (by decide) (by decide)⟩, fun i _ => ?_, fun k _ => ?_, fun l _ => ?_⟩
  · rw [r 189 (by omega), r 190 (by omega), r 191 (by omega)]
    exact ⟨rfl, rfl, rfl⟩
  · rw [r 194 (by omega), r 195 (by omega)]
    exact ⟨rfl, rfl⟩
  · rw [r 196 (by omega), r 197 (by omega), r 198 (by omega), r 199 (by omega), r 200 (by omega)]
    exact ⟨rfl, rfl, rfl, rfl, rfl⟩
theorem aPut_back {M : pMem} {a j : Nat} {x : Int32} : aPut (aPut M a j x) a j (M a j) = M := by
  funext b i
  by_cases e : b = a
  · by_cases e2 : i = j
    · rw [e, e2, aPut_same]
    · rw [e, aPut_at e2, aPut_at e2]
  · rw [aPut_cell e, aPut_cell e]
theorem D_101_v {k : Nat} {o : List Cd} {L : List Ln} {M V : pMem} (hs0 : sc V M) (hV : rV V) (hd : 0 ≤ (V 188 3).toInt ∧ (V 188 3).toInt ≤ 100000) (hc : rLk V k o L) {p1 p2 p3 : Int32} {v N} (h : D_101 p1 p2 p3 M v N) :
    sx (dyV (stV o L p1 p2 p3 V)) N ∧ ∃ M10 M11 u1 u2, sc (stV o L p1 p2 p3 V) M10 ∧ D_99 M10 u1 M11 ∧ D_100 M11 u2 (aPut N 188 3 (M11 188 3)) := by
  obtain ⟨M1, e1, M2, e2, M3, e3, M4, e4, M5, e5, h⟩ := h
  have s5 : sc (bg0 p1 p2 p3 V) M5 := by
    have q3 : M2 188 3 = V 188 3 := by
      rw [e2, aPut_at (by decide), e1, aPut_at (by decide)]
      exact sc_r8 hs0 (by decide) (by decide)
    rw [e5, e4, e3, q3, e2, e1]
    exact sc_p (sc_p (sc_p (sc_p (sc_p hs0 rfl) rfl) rfl) rfl) rfl
  have bV := rV_bg (k := p1) (p := p2) (wr := p3) hV
  have bL := rLk_bg (a := p1) (b := p2) (c := p3) hc
  have b3 : bgV p1 p2 p3 V 188 3 = V 188 3 := by rw [bgV_v.2.1, bg0_v.2]; rfl
  have tail : ∀ {M6 W : pMem}, sc W M6 → rV W → rLk W k o L → W 188 3 = V 188 3 → (tCall (D_92 M6) fun _ M7 => tCall (D_93 M7) fun _ M8 => tCall (D_94 M8) fun _ M9 => tCall (D_95 M9) fun _ M10 => tCall (D_99 M10) fun _ M11 => tCall (D_100 M11) fun _ M12 => tPut (aPut M12 188 3 ((M12 188 3) + (kI 1))) fun M13 => tRet () M13) v N →
      ∀ U, U = naV o L 1 (naV o L 0 (na0 (hoV o L (fgV o L 1 (fgV o L 0 (fg0 (likV o L W))))))) → sx (dyV U) N ∧ ∃ M10 M11 u1 u2, sc U M10 ∧ D_99 M10 u1 M11 ∧ D_100 M11 u2 (aPut N 188 3 (M11 188 3)) := by
    intro M6 W s6 wV wL w3 h U hU
    obtain ⟨_, M7, h92, _, M8, h93, _, M9, h94, _, M10, h95, u1, M11, h99, u2, M12, h100, M13, e13, _, hN⟩ := h
    have s7 := D_92_v s6 wV wL h92
    have s8 := D_93_v s7 (rV_lik wV) (rLk_lik wL) h93
    have V8 := rV_fg (o := o) (L := L) (l := 1) (rV_fg (o := o) (L := L) (l := 0) (rV_fg0 (rV_lik (o := o) (L := L) wV)))
    have L8 := rLk_fg (l := 1) (rLk_fg (l := 0) (rLk_fg0 (rLk_lik wL)))
    have s9 := D_94_v s8 V8 L8 h94
    have d9 : hoV o L (fgV o L 1 (fgV o L 0 (fg0 (likV o L W)))) 188 3 = V 188 3 := by
      rw [hoV_v.2.1 3 (by decide), fgV_v.2.1 3 (by decide) (by decide), fgV_v.2.1 3 (by decide) (by decide)]
      unfold fg0
      rw [aPut_at (by decide), aPut_at (by decide), likV_c (by decide)]
      exact w3
    have s10 := D_95_v s9 (rV_ho V8) (by rw [d9]; exact hd) (rLk_ho L8) h95
    rw [← hU] at s10
    have f11 := F_99 h99
    have f12 := F_100 h100
    have k3 : M12 188 3 = M11 188 3 := f12 188 3 (by decide) rfl (by simp only [l_100, pOut_cons, pOut_nil, true_or, and_true]; omega)
    refine ⟨fun a j h1 h2 h3 h4 => ?_, M10, M11, u1, u2, s10, h99, ?_⟩
    · have t : M12 a j = U a j := by
        rw [f12 a j h1 h2 (by simp only [l_100, pOut_cons, pOut_nil, true_or, and_true]; omega), f11 a j h1 h2 (by simp only [l_99, pOut_cons, pOut_nil, true_or, and_true]; omega)]
        exact s10 a j h1 h2
      have t3 : M12 188 3 = U 188 3 := by
        rw [k3, f11 188 3 (by decide) rfl (by simp only [l_99, pOut_cons, pOut_nil, true_or, and_true]; omega)]
        exact s10 188 3 (by decide) rfl
      rw [hN, e13, t3]
      unfold dyV aPut
      by_cases e : a = 188
      · rw [if_pos e, if_pos e]
        by_cases e3 : j = 3
        · rw [if_pos e3, if_pos e3]
        · rw [if_neg e3, if_neg e3]
          exact t
      · rw [if_neg e, if_neg e]
        exact t
    · have en : aPut N 188 3 (M11 188 3) = M12 := by
        rw [hN, e13, ← k3]
        exact aPut_back
      rw [en]
      exact h100
  -- against, or not
  have both : ∀ {M6 : pMem}, sc (bgV p1 p2 p3 V) M6 → (tIf (¬ p1 = (kI 1)) (tCall (D_92 M6) fun _ M7 => tCall (D_93 M7) fun _ M8 => tCall (D_94 M8) fun _ M9 => tCall (D_95 M9) fun _ M10 => tCall (D_99 M10) fun _ M11 => tCall (D_100 M11) fun _ M12 => tPut (aPut M12 188 3 ((M12 188 3) + (kI 1))) fun M13 => tRet () M13)
      (tCall (D_91 M6) fun _ M6 => tCall (D_92 M6) fun _ M7 => tCall (D_93 M7) fun _ M8 => tCall (D_94 M8) fun _ M9 => tCall (D_95 M9) fun _ M10 => tCall (D_99 M10) fun _ M11 => tCall (D_100 M11) fun _ M12 => tPut (aPut M12 188 3 ((M12 188 3) + (kI 1))) fun M13 => tRet () M13)) v N →
      sx (dyV (stV o L p1 p2 p3 V)) N ∧ ∃ M10 M11 u1 u2, sc (stV o L p1 p2 p3 V) M10 ∧ D_99 M10 u1 M11 ∧ D_100 M11 u2 (aPut N 188 3 (M11 188 3)) := by
    intro M6 s6 h
    rcases h with ⟨g, h⟩ | ⟨g, _, M7, h91, h⟩
    · exact tail s6 bV bL b3 h _ (by unfold stV; rw [if_neg g])
    · have g := Classical.not_not.mp g
      exact tail (D_91_v s6 bV h91) (rV_pl bV) (rLk_pl bL) (by rw [plV_v.2.1]; exact b3) h _ (by unfold stV; rw [if_pos g])
  rcases h with ⟨g, h⟩ | ⟨g, _, _, M6, e6, h⟩
  · refine both ?_ h
    unfold bgV
    rw [if_pos g]
    exact s5
  · refine both ?_ h
    unfold bgV
    rw [if_neg g, e6]
    refine sc_p s5 ?_
    have r : M5 200 = bg0 p1 p2 p3 V 200 := sc_row s5 (by decide) rfl (by decide)
    rw [r, bg0_v.1 200 (by decide)]
/-! friends: the three best, each of those left the best one, of equals the first -/
def bts (W : Nat → Int32) (j c : Nat) : Prop := (W c).toInt < (W j).toInt ∨ ((W j).toInt = (W c).toInt ∧ j < c)
def frT (C : Nat → Bool) (W : Nat → Int32) (n : Nat) (f : Nat → Int32) : Prop := ∀ k, k < 3 →
  (f k = kI (-1) ∧ ∀ c, c < n → C c = true → ∃ m, m < k ∧ f m = kI (c : Nat)) ∨
  (∃ j, j < n ∧ C j = true ∧ f k = kI (j : Nat) ∧ (∀ m, m < k → f m ≠ kI (j : Nat)) ∧ ∀ c, c < n → C c = true → c ≠ j → (∀ m, m < k → f m ≠ kI (c : Nat)) → bts W j c)
section FR
variable {C D : Nat → Bool} {W X : Nat → Int32} {n m : Nat} {f g : Nat → Int32}
theorem kIn {a b : Nat} (ha : a < 1000) (hb : b < 1000) (h : kI (a : Nat) = kI (b : Nat)) : a = b := by
  have := congrArg Int32.toInt h
  rw [kI_toInt (by omega) (by omega), kI_toInt (by omega) (by omega)] at this
  omega
theorem kIn1 {a : Nat} (ha : a < 1000) : ¬ kI (a : Nat) = kI (-1) := fun h => by
  have := congrArg Int32.toInt h
  rw [kI_toInt (by omega) (by omega), kI_toInt (by decide) (by decide)] at this
  omega
/-- there is but one such row -/
theorem frT_det (hn : n ≤ 100) (hf : frT C W n f) (hg : frT C W n g) : ∀ k, k < 3 → f k = g k := by
  intro k
  induction k using Nat.strongRecOn with
  | _ k ih =>
    intro hk
    have e : ∀ m, m < k → f m = g m := fun m hm => ih m hm (by omega)
    rcases hf k hk with ⟨f1, f2⟩ | ⟨j, j1, j2, j3, j4, j5⟩ <;> rcases hg k hk with ⟨g1, g2⟩ | ⟨i, i1, i2, i3, i4, i5⟩
    · rw [f1, g1]
    · obtain ⟨m, m1, m2⟩ := f2 i i1 i2
      rw [e m m1] at m2
      exact absurd m2 (i4 m m1)
    · obtain ⟨m, m1, m2⟩ := g2 j j1 j2
      rw [← e m m1] at m2
      exact absurd m2 (j4 m m1)
    · by_cases q : j = i
      · rw [j3, i3, q]
      · have b1 := j5 i i1 i2 (fun r => q r.symm) (fun m hm r => i4 m hm (by rw [← e m hm]; exact r))
        have b2 := i5 j j1 j2 q (fun m hm r => j4 m hm (by rw [e m hm]; exact r))
        unfold bts at b1 b2
        omega
theorem frT_cg (hC : ∀ c, c < n → C c = D c) (hW : ∀ c, c < n → C c = true → W c = X c) (h : frT C W n f) : frT D X n f := by
  intro k hk
  rcases h k hk with ⟨f1, f2⟩ | ⟨j, j1, j2, j3, j4, j5⟩
  · exact Or.inl ⟨f1, fun c hc hy => f2 c hc (by rw [hC c hc]; exact hy)⟩
  · refine Or.inr ⟨j, j1, by rw [← hC j j1]; exact j2, j3, j4, fun c hc hy ne h2 => ?_⟩
    have hy' : C c = true := by rw [hC c hc]; exact hy
    have b := j5 c hc hy' ne h2
    unfold bts at b ⊢
    rw [← hW c hc hy', ← hW j j1 j2]
    exact b
/-- beyond n there is nobody -/
theorem frT_ext (hm : n ≤ m) (hC : ∀ c, n ≤ c → c < m → C c = false) (h : frT C W n f) : frT C W m f := by
  intro k hk
  have q : ∀ c, c < m → C c = true → c < n := fun c hc hy => Classical.byContradiction fun r => by
    rw [hC c (by omega) hc] at hy
    cases hy
  rcases h k hk with ⟨f1, f2⟩ | ⟨j, j1, j2, j3, j4, j5⟩
  · exact Or.inl ⟨f1, fun c hc hy => f2 c (q c hc hy) hy⟩
  · exact Or.inr ⟨j, by omega, j2, j3, j4, fun c hc hy => j5 c (q c hc hy) hy⟩
theorem frT_0 (h : ∀ k, k < 3 → f k = kI (-1)) (hC : ∀ c, c < n → C c = false) : frT C W n f := fun k hk =>
  Or.inl ⟨h k hk, fun c hc hy => by rw [hC c hc] at hy; cases hy⟩
theorem frT_f (e : ∀ k, k < 3 → g k = f k) (h : frT C W n f) : frT C W n g := by
  intro k hk
  rcases h k hk with ⟨f1, f2⟩ | ⟨j, j1, j2, j3, j4, j5⟩
  · refine Or.inl ⟨by rw [e k hk]; exact f1, fun c hc hy => ?_⟩
    obtain ⟨m, m1, m2⟩ := f2 c hc hy
    exact ⟨m, m1, by rw [e m (by omega)]; exact m2⟩
  · refine Or.inr ⟨j, j1, j2, by rw [e k hk]; exact j3, fun m hm => by rw [e m (by omega)]; exact j4 m hm, fun c hc hy ne h2 => j5 c hc hy ne (fun m hm => by rw [← e m (by omega)]; exact h2 m hm)⟩
/-- one who can't be a friend changes nothing -/
theorem frT_no (hC : C n = false) (h : frT C W n f) : frT C W (n + 1) f := frT_ext (by omega) (fun c h1 h2 => by rw [show c = n by omega]; exact hC) h
/-- those that come behind are of no more worth -/
theorem frT_mono (h : frT C W n f) {a b : Nat} {i j : Nat} (hab : a < b) (hb : b < 3) (hi : i < 1000) (hj : j < n) (hn : n ≤ 100) (ha : f a = kI (i : Nat)) (hbj : f b = kI (j : Nat)) : bts W i j := by
  rcases h b hb with ⟨f1, _⟩ | ⟨j', p1, p2, p3, p4, _⟩
  · rw [hbj] at f1
    exact absurd f1 (kIn1 (by omega))
  · have e := kIn (by omega) (by omega) (hbj.symm.trans p3)
    subst e
    rcases h a (by omega) with ⟨f1, f2⟩ | ⟨i', q1, q2, q3, q4, q5⟩
    · rw [ha] at f1
      exact absurd f1 (kIn1 hi)
    · have e := kIn (by omega) (by omega) (ha.symm.trans q3)
      subst e
      refine q5 j p1 p2 ?_ (fun m hm => p4 m (by omega))
      intro e
      subst e
      exact p4 a hab ha
/-- behind one that is none there is none -/
theorem frT_none (hn : n ≤ 100) (h : frT C W n f) {a b : Nat} (hab : a ≤ b) (hb : b < 3) (ha : f a = kI (-1)) : f b = kI (-1) := by
  rcases h b hb with ⟨f1, _⟩ | ⟨j, p1, p2, p3, p4, _⟩
  · exact f1
  · rcases h a (by omega) with ⟨_, f2⟩ | ⟨i, q1, q2, q3, _⟩
    · obtain ⟨m, m1, m2⟩ := f2 j p1 p2
      exact absurd m2 (p4 m (by omega))
    · by_cases e : a = b
      · rw [← e]; exact ha
      · rw [ha] at q3
        have := congrArg Int32.toInt q3
        rw [kI_toInt (by decide) (by decide)] at this
        exfalso
        rw [kI_toInt (by omega) (by omega)] at this
        omega
/-- n comes in at place p -/
theorem frT_in (hn : n < 100) (hC : C n = true) (h : frT C W n f) {p : Nat} (hp : p ≤ 3) (hlo : ∀ q, p ≤ q → q < 3 → f q = kI (-1) ∨ ∃ j, j < n ∧ f q = kI (j : Nat) ∧ (W j).toInt < (W n).toInt)
    (hhi : ∀ q, q + 1 = p → ∃ j, j < n ∧ f q = kI (j : Nat) ∧ (W n).toInt ≤ (W j).toInt) (hg : ∀ k, k < 3 → g k = if k < p then f k else if k = p then kI (n : Nat) else f (k - 1)) : frT C W (n + 1) g := by
  -- those ahead of p are of no less worth than n
  have ahead : ∀ q, q < p → q < 3 → ∃ j, j < n ∧ f q = kI (j : Nat) ∧ (W n).toInt ≤ (W j).toInt := by
    intro q hq h3
    obtain ⟨j, j1, j2, j3⟩ := hhi (p - 1) (by omega)
    by_cases e : q = p - 1
    · rw [e]
      exact ⟨j, j1, j2, j3⟩
    · rcases h q h3 with ⟨f1, _⟩ | ⟨i, i1, i2, i3, i4, i5⟩
      · have := frT_none (by omega) h (show q ≤ p - 1 by omega) (by omega) f1
        rw [j2] at this
        exact absurd this (kIn1 (by omega))
      · have b := frT_mono h (show q < p - 1 by omega) (by omega) (by omega) j1 (by omega) i3 j2
        refine ⟨i, i1, i3, ?_⟩
        unfold bts at b
        omega
  have fn : ∀ q, q < 3 → f q ≠ kI (n : Nat) := fun q h3 e => by
    rcases h q h3 with ⟨f1, _⟩ | ⟨i, i1, _, i3, _⟩
    · rw [e] at f1
      exact absurd f1 (kIn1 (by omega))
    · have := kIn (by omega) (by omega) (e.symm.trans i3)
      omega
  intro k hk
  rw [hg k hk]
  by_cases c1 : k < p
  · -- ahead: as it was, and n is no better
    rw [if_pos c1]
    obtain ⟨j, j1, j2, j3⟩ := ahead k c1 hk
    have gm : ∀ m, m < k → g m = f m := fun m hm => by rw [hg m (by omega), if_pos (by omega)]
    rcases h k hk with ⟨f1, _⟩ | ⟨i, i1, i2, i3, i4, i5⟩
    · rw [j2] at f1
      exact absurd f1 (kIn1 (by omega))
    · have e := kIn (by omega) (by omega) (j2.symm.trans i3)
      subst e
      refine Or.inr ⟨j, by omega, i2, i3, fun m hm => by rw [gm m hm]; exact i4 m hm, fun c hc hy ne h2 => ?_⟩
      by_cases cn : c = n
      · subst cn
        unfold bts
        omega
      · exact i5 c (by omega) hy ne (fun m hm => by rw [← gm m hm]; exact h2 m hm)
  · rw [if_neg c1]
    by_cases c2 : k = p
    · -- n itself
      rw [if_pos c2]
      have gm : ∀ m, m < k → g m = f m := fun m hm => by rw [hg m (by omega), if_pos (by omega)]
      refine Or.inr ⟨n, by omega, hC, rfl, fun m hm => by rw [gm m hm]; exact fn m (by omega), fun c hc hy ne h2 => ?_⟩
      have hc' : c < n := by omega
      have h2' : ∀ m, m < k → f m ≠ kI (c : Nat) := fun m hm => by rw [← gm m hm]; exact h2 m hm
      rcases h k hk with ⟨f1, f2⟩ | ⟨i, i1, i2, i3, i4, i5⟩
      · obtain ⟨m, m1, m2⟩ := f2 c hc' hy
        exact absurd m2 (h2' m m1)
      · rcases hlo k (by omega) hk with q | ⟨j, j1, j2, j3⟩
        · rw [i3] at q
          exact absurd q (kIn1 (by omega))
        · have e := kIn (by omega) (by omega) (j2.symm.trans i3)
          subst e
          by_cases cj : c = j
          · subst cj
            exact Or.inl j3
          · have b := i5 c hc' hy cj h2'
            unfold bts at b ⊢
            omega
    · -- behind: one place further
      rw [if_neg c2]
      have k1 : k - 1 < 3 := by omega
      have gp : g p = kI (n : Nat) := by rw [hg p (by omega), if_neg (by omega), if_pos rfl]
      -- who is among the first k of g is n, or among the first k - 1 of f
      have gin : ∀ c, (∃ m, m < k - 1 ∧ f m = kI (c : Nat)) → ∃ m, m < k ∧ g m = kI (c : Nat) := by
        rintro c ⟨m, m1, m2⟩
        by_cases q : m < p
        · exact ⟨m, by omega, by rw [hg m (by omega), if_pos q]; exact m2⟩
        · refine ⟨m + 1, by omega, ?_⟩
          rw [hg (m + 1) (by omega), if_neg (by omega), if_neg (by omega)]
          exact m2
      have gout : ∀ c, c < n → (∀ m, m < k - 1 → f m ≠ kI (c : Nat)) → ∀ m, m < k → g m ≠ kI (c : Nat) := by
        intro c hc h2 m hm e
        rw [hg m (by omega)] at e
        by_cases q : m < p
        · rw [if_pos q] at e
          exact h2 m (by omega) e
        · rw [if_neg q] at e
          by_cases r : m = p
          · rw [if_pos r] at e
            have := kIn (by omega) (by omega) e
            omega
          · rw [if_neg r] at e
            exact h2 (m - 1) (by omega) e
      rcases h (k - 1) k1 with ⟨f1, f2⟩ | ⟨i, i1, i2, i3, i4, i5⟩
      · refine Or.inl ⟨f1, fun c hc hy => ?_⟩
        by_cases cn : c = n
        · exact ⟨p, by omega, by rw [gp, cn]⟩
        · exact gin c (f2 c (by omega) hy)
      · refine Or.inr ⟨i, by omega, i2, i3, gout i i1 i4, fun c hc hy ne h2 => ?_⟩
        have cn : c ≠ n := fun e => h2 p (by omega) (by rw [gp, e])
        refine i5 c (by omega) hy ne (fun m hm e => ?_)
        obtain ⟨m', q1, q2⟩ := gin c ⟨m, hm, e⟩
        exact h2 m' q1 q2
end FR
/-! whom a boy may write, and their worth -/
def cnF (V : pMem) (b j : Nat) : Bool := thV V b && (thV V j && !decide (j = b))
def wtF (o : List Cd) (L : List Ln) (V : pMem) (b j : Nat) : Int32 := (teL (FcV V b j) o (kI 19) L).getD (lkV V b j)
/-- the row of friends -/
noncomputable def frs (o : List Cd) (L : List Ln) (V : pMem) (b : Nat) : Nat → Int32 := Classical.epsilon fun f => frT (cnF V b) (wtF o L V b) 24 f
theorem frs_of {o : List Cd} {L : List Ln} {V : pMem} {b : Nat} {f : Nat → Int32} (h : frT (cnF V b) (wtF o L V b) 24 f) : ∀ k, k < 3 → f k = frs o L V b k := by
  have e : frT (cnF V b) (wtF o L V b) 24 (frs o L V b) := Classical.epsilon_spec (p := fun f => frT (cnF V b) (wtF o L V b) 24 f) ⟨f, h⟩
  exact frT_det (by decide) h e
theorem frs_ok {o : List Cd} {L : List Ln} {V : pMem} {b : Nat} {f : Nat → Int32} (h : frT (cnF V b) (wtF o L V b) 24 f) : frT (cnF V b) (wtF o L V b) 24 (frs o L V b) := frT_f (fun k hk => (frs_of h k hk).symm) h
/-! the class: one is put in -/
/-- is this place ahead of one of worth v -/
def ltP (M : pMem) (v : Int32) (q : Nat) : Prop := M 136 q = kI (-1) ∨ M 137 q < v
theorem D_186_v {p1 p2 : Int32} {M v N} (h : D_186 p1 p2 M v N) : ∃ p, p ≤ 3 ∧ (∀ q, p ≤ q → q < 3 → ltP M p2 q) ∧ (∀ q, q + 1 = p → ¬ ltP M p2 q) ∧
    (∀ k, k < 3 → N 136 k = (if k < p then M 136 k else if k = p then p1 else M 136 (k - 1)) ∧ N 137 k = (if k < p then M 137 k else if k = p then p2 else M 137 (k - 1))) ∧ ∀ b, b ≠ 136 → b ≠ 137 → N b = M b := by
  have q := h (fun x3 M' v N => ∀ i : Nat, x3.toInt = i → i ≤ 3 → M' = M → (∀ q, i ≤ q → q < 3 → ltP M p2 q) → ∃ p, p ≤ 3 ∧ (∀ q, p ≤ q → q < 3 → ltP M p2 q) ∧ (∀ q, q + 1 = p → ¬ ltP M p2 q) ∧
    (∀ k, k < 3 → N 136 k = (if k < p then M 136 k else if k = p then p1 else M 136 (k - 1)) ∧ N 137 k = (if k < p then M 137 k else if k = p then p2 else M 137 (k - 1))) ∧ ∀ b, b ≠ 136 → b ≠ 137 → N b = M b,
    fun x3 x4 M' v N => ∀ p j : Nat, x3.toInt = p → x4.toInt = j → p ≤ 3 → (p < 3 → p ≤ j) → j < 3 → (p = 3 → j = 2) → (∀ k, k < 3 → M' 136 k = (if j < k ∧ p < k then M 136 (k - 1) else M 136 k) ∧ M' 137 k = (if j < k ∧ p < k then M 137 (k - 1) else M 137 k)) → (∀ b, b ≠ 136 → b ≠ 137 → M' b = M b) →
    (∀ k, k < 3 → N 136 k = (if k < p then M 136 k else if k = p then p1 else M 136 (k - 1)) ∧ N 137 k = (if k < p then M 137 k else if k = p then p2 else M 137 (k - 1))) ∧ ∀ b, b ≠ 136 → b ≠ 137 → N b = M b) ⟨?_, ?_⟩
  · exact q 3 rfl (Nat.le_refl _) rfl (fun q h1 h2 => by omega)
  · intro x3 M' v N hs i hi hi3 hM hq
    rw [hM] at hs
    have row : ∀ (p : Nat), (p = 3 → True) → ∀ k, k < 3 → M 136 k = (if 2 < k ∧ p < k then M 136 (k - 1) else M 136 k) ∧ M 137 k = (if 2 < k ∧ p < k then M 137 (k - 1) else M 137 k) := fun p _ k hk => by
      rw [if_neg (by omega), if_neg (by omega)]
      exact ⟨rfl, rfl⟩
    rcases hs with ⟨g, hs⟩ | ⟨g, _, hs⟩
    · rw [i_le, hi, i_0] at g
      have e : i = 0 := by omega
      subst e
      obtain ⟨a1, a2⟩ := hs 0 2 hi (kI_toInt (by decide) (by decide)) (by omega) (by omega) (by omega) (by omega) (row 0 (fun _ => trivial)) (fun _ _ _ => rfl)
      exact ⟨0, by omega, hq, fun q hq => by omega, a1, a2⟩
    · rw [i_le, hi, i_0] at g
      have i1 : x3.toInt = ((i - 1 + 1 : Nat) : Int) := by rw [hi]; omega
      rw [ix_of (dn2 i1)] at hs
      have down : ltP M p2 (i - 1) → ∀ q, i - 1 ≤ q → q < 3 → ltP M p2 q := fun h0 q h1 h2 => by
        by_cases r : q = i - 1
        · rw [r]; exact h0
        · exact hq q (by omega) h2
      rcases hs with ⟨g2, hs⟩ | ⟨g2, _, hs⟩
      · exact hs (i - 1) (dn1 i1) (by omega) rfl (down (Or.inl g2))
      · rcases hs with ⟨g3, hs⟩ | ⟨g3, hs⟩
        · obtain ⟨a1, a2⟩ := hs i 2 hi (kI_toInt (by decide) (by decide)) hi3 (by omega) (by omega) (by omega) (row i (fun _ => trivial)) (fun _ _ _ => rfl)
          refine ⟨i, hi3, hq, fun q hq2 hl => ?_, a1, a2⟩
          have eq : q = i - 1 := by omega
          rw [eq] at hl
          rcases hl with hl | hl
          · exact g2 hl
          · rw [i_lt] at hl
            rw [i_le] at g3
            omega
        · refine hs (i - 1) (dn1 i1) (by omega) rfl (down (Or.inr ?_))
          rw [i_lt]
          rw [i_le] at g3
          omega
  · intro x3 x4 M' v N hs p j hp hj hp3 hpj hj3 hpe hr hb
    rcases hs with ⟨g, hs⟩ | ⟨g, _, _, M1, e1, _, _, M2, e2, hs⟩
    · rw [i_le, hj, hp] at g
      rcases hs with ⟨g2, _, hN⟩ | ⟨g2, _, M1, e1, _, M2, e2, _, hN⟩
      · rw [i_le, hp, kI_toInt (by decide) (by decide)] at g2
        rw [hN]
        refine ⟨fun k hk => ?_, hb⟩
        obtain ⟨r1, r2⟩ := hr k hk
        rw [r1, r2, if_neg (show ¬ (j < k ∧ p < k) by omega), if_neg (show ¬ (j < k ∧ p < k) by omega), if_pos (show k < p by omega), if_pos (show k < p by omega)]
        exact ⟨rfl, rfl⟩
      · rw [i_le, hp, kI_toInt (by decide) (by decide)] at g2
        rw [ix_of hp] at e1 e2
        have ej : j = p := by have := hpj (by omega); omega
        rw [hN]
        refine ⟨fun k hk => ?_, fun b h1 h2 => ?_⟩
        · obtain ⟨r1, r2⟩ := hr k hk
          rw [e2, aPut_cell (by decide), e1, aPut_row, aPut_row, aPut_cell (by decide), r1, r2]
          by_cases c : k = p
          · rw [if_pos c, if_pos c, if_pos c, if_pos c, if_neg (show ¬ k < p by omega), if_neg (show ¬ k < p by omega)]
            exact ⟨rfl, rfl⟩
          · rw [if_neg c, if_neg c, if_neg c, if_neg c]
            by_cases d : k < p
            · rw [if_pos d, if_pos d, if_neg (show ¬ (j < k ∧ p < k) by omega), if_neg (show ¬ (j < k ∧ p < k) by omega)]
              exact ⟨rfl, rfl⟩
            · rw [if_neg d, if_neg d, if_pos (show j < k ∧ p < k by omega), if_pos (show j < k ∧ p < k by omega)]
              exact ⟨rfl, rfl⟩
        · rw [← hb b h1 h2, e2, e1]
          funext k
          rw [aPut_cell h2, aPut_cell h1]
    · rw [i_le, hj, hp] at g
      have j1 : x4.toInt = ((j - 1 + 1 : Nat) : Int) := by rw [hj]; omega
      rw [ix_of hj, ix_of (dn2 j1)] at e1 e2
      refine hs p (j - 1) hp (dn1 j1) hp3 (fun _ => by omega) (by omega) (fun e => by omega) (fun k hk => ?_) (fun b h1 h2 => ?_)
      · obtain ⟨r1, r2⟩ := hr k hk
        obtain ⟨s1, s2⟩ := hr (j - 1) (by omega)
        rw [if_neg (by omega)] at s1 s2
        rw [e2, aPut_cell (by decide), e1, aPut_row, aPut_row, aPut_cell (by decide), aPut_cell (by decide), r1, r2, s1, s2]
        by_cases c : k = j
        · rw [if_pos c, if_pos c, if_pos (by omega), if_pos (by omega), c]
          exact ⟨rfl, rfl⟩
        · rw [if_neg c, if_neg c]
          by_cases d : j < k ∧ p < k
          · rw [if_pos d, if_pos d, if_pos (by omega), if_pos (by omega)]
            exact ⟨rfl, rfl⟩
          · rw [if_neg d, if_neg d, if_neg (by omega), if_neg (by omega)]
            exact ⟨rfl, rfl⟩
      · rw [← hb b h1 h2, e2, e1]
        funext k
        rw [aPut_cell h2, aPut_cell h1]
/-! friends: both sides -/
theorem ne1 {j : Nat} (h : j < 24) : ¬ kI (j : Nat) = kI (-1) := kIn1 (by omega)
/-- the class finds the friends of a boy -/
def q185 (w : Nat) (M V : pMem) (o : List Cd) (L : List Ln) (b j : Nat) (M' : pMem) : Prop := frT (cnF V b) (wtF o L V b) j (M' 136) ∧ (∀ k, k < 3 → ∀ i, i < j → M' 136 k = kI (i : Nat) → M' 137 k = wtF o L V b i) ∧ ∀ a, (a < 132 ∨ 137 < a) → M' a = M a
/-- what of the class stays, but for the stack of a law -/
def q185a (w l : Nat) (M V : pMem) (o : List Cd) (L : List Ln) (b j : Nat) (M' : pMem) : Prop := frT (cnF V b) (wtF o L V b) j (M' 136) ∧ (∀ k, k < 3 → ∀ i, i < j → M' 136 k = kI (i : Nat) → M' 137 k = wtF o L V b i) ∧ ∀ a, (a < 132 ∨ 137 < a) → a ≠ l + 6 → M' a = M a
theorem fil136 {p1 : Int32} {M v N} (h : D_240_136 p1 M v N) : (∀ k, k < 3 → N 136 k = p1) ∧ ∀ b, b ≠ 136 → N b = M b := by
  have q := h (fun x2 x3 M' v N => ∀ i : Nat, x2.toInt = i → i ≤ 3 → x3 = Int32.ofNat 3 → (∀ k, k < i → M' 136 k = p1) → (∀ b, b ≠ 136 → M' b = M b) → (∀ k, k < 3 → N 136 k = p1) ∧ ∀ b, b ≠ 136 → N b = M b) ?_
  · exact q 0 rfl (Nat.zero_le _) rfl (fun k hk => absurd hk (Nat.not_lt_zero k)) (fun _ _ => rfl)
  · intro x2 x3 M' v N hs i hi hi3 h3 hk hb
    have k3 : (Int32.ofNat 3).toInt = 3 := rfl
    rcases hs with ⟨g, _, hN⟩ | ⟨g, _, M1, e1, hs⟩
    · rw [h3, i_le, hi, k3] at g
      rw [hN]
      exact ⟨fun k hk2 => hk k (by omega), hb⟩
    · rw [h3, i_le, hi, k3] at g
      rw [ix_of hi] at e1
      refine hs (i + 1) (n_add1 hi (by omega)) (by omega) h3 (fun k hk2 => ?_) (fun b hb2 => ?_)
      · rw [e1, aPut_row]
        by_cases e : k = i
        · rw [if_pos e]
        · rw [if_neg e]
          exact hk k (by omega)
      · rw [← hb b hb2, e1]
        funext j
        exact aPut_cell hb2
theorem wCell2 {w : Nat} (h : pK 10 w = true) : ∀ j, j < 5 → (w + j < 132 ∨ 137 < w + j) := fun j hj => by
  have := wCell h j hj
  omega
theorem D_185_v {w l : Nat} (hw : pK 10 w = true) (hl : pK 2 l = true) {M V : pMem} (hV : rV V) (h : rW w M V) {o : List Cd} {L : List Ln} (hc : cLk M l o L) {p3 : Int32} {b : Nat} (hb : p3.toInt = b) (hb24 : b < 24) {v N} (hD : D_185 w l p3 M v N) :
    (∀ k, k < 3 → N 136 k = frs o L V b k) ∧ frT (cnF V b) (wtF o L V b) 24 (N 136) ∧ ∀ a, (a < 132 ∨ 137 < a) → a ≠ l + 6 → N a = M a := by
  obtain ⟨_, M1, hf, hD⟩ := hD
  obtain ⟨f1, f2⟩ := fil136 hf
  have lc := lCell hl
  -- what is asked stands as it stood
  have keep : ∀ {M' : pMem}, (∀ a, (a < 132 ∨ 137 < a) → a ≠ l + 6 → M' a = M a) → rW w M' V ∧ cLk M' l o L := fun hk =>
    ⟨rW_eq h fun j hj => hk _ (wCell2 hw j hj) (fun e => lwCell hl hw 6 (by decide) j hj e.symm), cLk_c hc fun a h1 h2 => hk a (by omega) (by omega)⟩
  have q := hD (fun x4 M' v N => ∀ j : Nat, x4.toInt = j → j ≤ 24 → q185a w l M V o L b j M' → q185a w l M V o L b 24 N) ?_
  · have q := q 0 rfl (Nat.zero_le _) ⟨frT_0 f1 (fun c hc => absurd hc (Nat.not_lt_zero c)), fun k _ i hi => absurd hi (Nat.not_lt_zero i), fun a h1 _ => f2 a (by omega)⟩
    exact ⟨frs_of q.1, q.1, q.2.2⟩
  · intro x4 M' v N hs j hj hj24 hq
    obtain ⟨q1, q2, q3⟩ := hq
    obtain ⟨kW, kL⟩ := keep q3
    -- from here on nobody
    have rest : (∀ c, j ≤ c → c < 24 → cnF V b c = false) → q185a w l M V o L b 24 M' := fun hn =>
      ⟨frT_ext hj24 hn q1, fun k hk i hi e => by
        rcases q1 k hk with ⟨r1, _⟩ | ⟨i', p1, p2, p3, _⟩
        · rw [e] at r1
          exact absurd r1 (ne1 hi)
        · have := kIn (by omega) (by omega) (e.symm.trans p3)
          exact q2 k hk i (by omega) e, q3⟩
    rcases hs with ⟨g, _, hN⟩ | ⟨g, hs⟩
    · have g := (f37_th hV kW hb hb24).1.mp g
      rw [hN]
      refine rest fun c _ _ => ?_
      unfold cnF
      rw [g]
      rfl
    · have g := (f37_th hV kW hb hb24).2.mp g
      rcases hs with ⟨g2, _, hN⟩ | ⟨g2, hs⟩
      · rw [i_le, hj, kI_toInt (by decide) (by decide)] at g2
        rw [hN]
        exact rest fun c h1 h2 => by omega
      · rw [i_le, hj, kI_toInt (by decide) (by decide)] at g2
        have skip : cnF V b j = false → q185a w l M V o L b (j + 1) M' := fun e =>
          ⟨frT_no e q1, fun k hk i hi e2 => by
            by_cases ei : i = j
            · subst ei
              rcases q1 k hk with ⟨r1, _⟩ | ⟨i', p1, p2, p3, _⟩
              · rw [e2] at r1
                exact absurd r1 (ne1 (by omega))
              · have := kIn (by omega) (by omega) (e2.symm.trans p3)
                omega
            · exact q2 k hk i (by omega) e2, q3⟩
        rcases hs with ⟨g3, hs⟩ | ⟨g3, hs⟩
        · refine hs (j + 1) (n_add1 hj (by omega)) (by omega) (skip ?_)
          unfold cnF
          rw [decide_eq_true (show j = b by rw [i_eq, hj, hb] at g3; omega), Bool.not_true, Bool.and_false, Bool.and_false]
        · have ne : ¬ j = b := fun e => g3 (by rw [i_eq, hj, hb, e])
          rcases hs with ⟨g4, hs⟩ | ⟨g4, _, Ma, h166, _, v2, Mb, h157, _, Mc, h186, hs⟩
          · have g4 := (f37_th hV kW hj (by omega)).1.mp g4
            refine hs (j + 1) (n_add1 hj (by omega)) (by omega) (skip ?_)
            unfold cnF
            rw [g4, Bool.false_and, Bool.and_false]
          · have g4 := (f37_th hV kW hj (by omega)).2.mp g4
            have cy : cnF V b j = true := by
              unfold cnF
              rw [g, g4, decide_eq_false ne]
              rfl
            obtain ⟨a1, a2⟩ := D_166s_w hw hV kW hb hj hb24 (by omega) h166
            have aL : cLk Ma l o L := cLk_c kL fun a h1 h2 => a2 a (by omega)
            have d8 : Ma 135 (ix (kI 8)) = lkV V b j := a1 8 (by decide)
            rw [d8] at h157
            obtain ⟨b1, b2⟩ := D_157_v hl (by decide) aL a1 h157
            have wv : v2 = wtF o L V b j := b1
            obtain ⟨p, p3, plo, phi, prow, pfr⟩ := D_186_v h186
            have r136 : Mb 136 = M' 136 := by rw [b2 136 (by omega), a2 136 (by decide)]
            have r137 : Mb 137 = M' 137 := by rw [b2 137 (by omega), a2 137 (by decide)]
            have ej : x4 = kI (j : Nat) := kI_inj hj
            -- what stands at a place
            have at_ : ∀ k, k < 3 → M' 136 k = kI (-1) ∨ ∃ i, i < j ∧ M' 136 k = kI (i : Nat) ∧ M' 137 k = wtF o L V b i := fun k hk => by
              rcases q1 k hk with ⟨r1, _⟩ | ⟨i, p1, p2, p3, _⟩
              · exact Or.inl r1
              · exact Or.inr ⟨i, p1, p3, q2 k hk i p1 p3⟩
            refine hs (j + 1) (n_add1 hj (by omega)) (by omega) ⟨frT_in (f := M' 136) (p := p) (by omega) cy q1 p3 (fun k h1 h2 => ?_) (fun k hk => ?_) (fun k hk => ?_), fun k hk i hi e => ?_, fun a h1 h2 => ?_⟩
            · rcases at_ k h2 with e | ⟨i, i1, i2, i3⟩
              · exact Or.inl e
              · rcases plo k h1 h2 with e | e
                · rw [r136] at e
                  exact Or.inl e
                · rw [r137, i3, wv, i_lt] at e
                  exact Or.inr ⟨i, i1, i2, e⟩
            · have np := phi k hk
              unfold ltP at np
              rw [r136, r137] at np
              rcases at_ k (by omega) with e | ⟨i, i1, i2, i3⟩
              · exact absurd (Or.inl e) np
              · refine ⟨i, i1, i2, ?_⟩
                rw [i3, wv, i_lt] at np
                omega
            · rw [(prow k hk).1, r136, ej]
            · -- the worths
              have e1 := (prow k hk).1
              have e2 := (prow k hk).2
              rw [r136] at e1
              rw [r137] at e2
              have old : ∀ k', k' < 3 → M' 136 k' = kI (i : Nat) → M' 137 k' = wtF o L V b i := fun k' hk' e' => by
                rcases at_ k' hk' with q | ⟨i', i1, i2, i3⟩
                · rw [e'] at q
                  exact absurd q (kIn1 (by omega))
                · have := kIn (by omega) (by omega) (e'.symm.trans i2)
                  rw [this]
                  exact i3
              by_cases c1 : k < p
              · rw [if_pos c1] at e1 e2
                rw [e2]
                exact old k hk (by rw [← e1]; exact e)
              · rw [if_neg c1] at e1 e2
                by_cases c2 : k = p
                · rw [if_pos c2] at e1 e2
                  rw [e1, ej] at e
                  have := kIn (by omega) (by omega) e
                  rw [e2, wv, this]
                · rw [if_neg c2] at e1 e2
                  rw [e2]
                  exact old (k - 1) (by omega) (by rw [← e1]; exact e)
            · rw [pfr a (by omega) (by omega), b2 a h2, a2 a (by omega)]
              exact q3 a h1 h2
/-! how many are of the other lot -/
def acF (V : pMem) (b : Nat) (f : Nat → Int32) (k : Nat) : Bool := !decide (f k = kI (-1)) && !decide (V 189 (ix (f k)) = V 189 b)
noncomputable def acr (o : List Cd) (L : List Ln) (V : pMem) (b : Nat) : Int32 := kI (cN (acF V b (frs o L V b)) 3 : Nat)
theorem acF_cg {V : pMem} {b : Nat} {f g : Nat → Int32} (h : ∀ k, k < 3 → f k = g k) : cN (acF V b f) 3 = cN (acF V b g) 3 := cN_cg fun k hk => by
  unfold acF
  rw [h k hk]
theorem D_187_v {w : Nat} {M V : pMem} (hV : rV V) (h : rW w M V) {C : Nat → Bool} {W : Nat → Int32} (hf : frT C W 24 (M 136)) {p2 : Int32} {b : Nat} (hb : p2.toInt = b) (hb24 : b < 24) {v N} (hD : D_187 w p2 M v N) : v = kI (cN (acF V b (M 136)) 3 : Nat) ∧ N = M := by
  have q := hD (fun x3 x4 M' v N => ∀ i : Nat, x4.toInt = i → i ≤ 3 → M' = M → x3 = kI (cN (acF V b (M 136)) i : Nat) → v = kI (cN (acF V b (M 136)) 3 : Nat) ∧ N = M) ?_
  · exact q 0 rfl (Nat.zero_le _) rfl rfl
  · intro x3 x4 M' v N hs i hi hi3 hM h3
    rw [hM] at hs
    have cs : cN (acF V b (M 136)) (i + 1) = cN (acF V b (M 136)) i + (if acF V b (M 136) i = true then 1 else 0) := rfl
    rcases hs with ⟨g, hv, hN⟩ | ⟨g, _, hs⟩
    · rw [i_le, hi, kI_toInt (by decide) (by decide)] at g
      have e : i = 3 := by omega
      rw [e] at h3
      exact ⟨hv.trans h3, hN⟩
    · rw [i_le, hi, kI_toInt (by decide) (by decide)] at g
      rw [ix_of hi] at hs
      rcases hs with ⟨g2, hs⟩ | ⟨g2, _, hs⟩
      · refine hs (i + 1) (n_add1 hi (by omega)) (by omega) rfl ?_
        have e : acF V b (M 136) i = false := by
          unfold acF
          rw [decide_eq_true g2]
          rfl
        rw [cs, e, h3]
        rfl
      · obtain ⟨j, j1, _, j3, _⟩ := (hf i (by omega)).resolve_left fun r => g2 r.1
        have tj : (M 136 i).toInt = (j : Nat) := by rw [j3, kI_toInt (by omega) (by omega)]
        have xj : ix (M 136 i) = j := ix_of tj
        rw [f225_V hV h tj j1, f225_V hV h hb hb24] at hs
        rcases hs with ⟨g3, hs⟩ | ⟨g3, hs⟩
        · refine hs (i + 1) (n_add1 hi (by omega)) (by omega) rfl ?_
          have e : acF V b (M 136) i = false := by
            unfold acF
            rw [xj, decide_eq_true g3, Bool.not_true, Bool.and_false]
          rw [cs, e, h3]
          rfl
        · refine hs (i + 1) (n_add1 hi (by omega)) (by omega) rfl ?_
          have e : acF V b (M 136) i = true := by
            unfold acF
            rw [xj, decide_eq_false g3, decide_eq_false g2]
            rfl
          rw [cs, if_pos e, h3, kI_n1]
          rfl
/-! the reference -/
/-- so far the best of those that are left -/
def bsT (C : Nat → Bool) (W : Nat → Int32) (f : Nat → Int32) (k j : Nat) (x : Int32) : Prop :=
  (x = kI (-1) ∧ ∀ c, c < j → C c = true → ∃ m, m < k ∧ f m = kI (c : Nat)) ∨
  (∃ i, i < j ∧ C i = true ∧ x = kI (i : Nat) ∧ (∀ m, m < k → f m ≠ kI (i : Nat)) ∧ ∀ c, c < j → C c = true → c ≠ i → (∀ m, m < k → f m ≠ kI (c : Nat)) → bts W i c)
theorem bsT_skip {C : Nat → Bool} {W f : Nat → Int32} {k j : Nat} {x : Int32} (h : bsT C W f k j x) (hj : C j = false ∨ ∃ m, m < k ∧ f m = kI (j : Nat)) : bsT C W f k (j + 1) x := by
  rcases h with ⟨h1, h2⟩ | ⟨i, i1, i2, i3, i4, i5⟩
  · refine Or.inl ⟨h1, fun c hc hy => ?_⟩
    by_cases e : c = j
    · subst e
      rcases hj with q | q
      · rw [q] at hy
        cases hy
      · exact q
    · exact h2 c (by omega) hy
  · refine Or.inr ⟨i, by omega, i2, i3, i4, fun c hc hy ne hn => ?_⟩
    by_cases e : c = j
    · subst e
      rcases hj with q | ⟨m, m1, m2⟩
      · rw [q] at hy
        cases hy
      · exact absurd m2 (hn m m1)
    · exact i5 c (by omega) hy ne hn
theorem bsT_new {C : Nat → Bool} {W f : Nat → Int32} {k j : Nat} {x : Int32} (h : bsT C W f k j x) (hC : C j = true) (hf : ∀ m, m < k → f m ≠ kI (j : Nat)) (hx : x = kI (-1) ∨ ∃ i, i < j ∧ x = kI (i : Nat) ∧ (W i).toInt < (W j).toInt) (hj : j < 24) : bsT C W f k (j + 1) (kI (j : Nat)) := by
  refine Or.inr ⟨j, by omega, hC, rfl, hf, fun c hc hy ne hn => ?_⟩
  rcases h with ⟨h1, h2⟩ | ⟨i, i1, i2, i3, i4, i5⟩
  · obtain ⟨m, m1, m2⟩ := h2 c (by omega) hy
    exact absurd m2 (hn m m1)
  · rcases hx with q | ⟨i', q1, q2, q3⟩
    · rw [q] at i3
      exact absurd i3.symm (kIn1 (by omega))
    · have := kIn (by omega) (by omega) (q2.symm.trans i3)
      subst this
      by_cases e : c = i'
      · subst e
        exact Or.inl q3
      · have b := i5 c (by omega) hy e hn
        unfold bts at b ⊢
        omega
theorem bsT_old {C : Nat → Bool} {W f : Nat → Int32} {k j i : Nat} {x : Int32} (h : bsT C W f k j x) (hx : x = kI (i : Nat)) (hi : i < 24) (hj : j < 24) (hw : (W j).toInt ≤ (W i).toInt) : bsT C W f k (j + 1) x := by
  rcases h with ⟨h1, h2⟩ | ⟨i', i1, i2, i3, i4, i5⟩
  · rw [hx] at h1
    exact absurd h1 (kIn1 (by omega))
  · have := kIn (by omega) (by omega) (hx.symm.trans i3)
    subst this
    refine Or.inr ⟨i, by omega, i2, i3, i4, fun c hc hy ne hn => ?_⟩
    by_cases e : c = j
    · subst e
      unfold bts
      omega
    · exact i5 c (by omega) hy ne hn
/-- the first k are found -/
def frK (C : Nat → Bool) (W : Nat → Int32) (n : Nat) (f : Nat → Int32) (k : Nat) : Prop := ∀ q, q < k → q < 3 →
  (f q = kI (-1) ∧ ∀ c, c < n → C c = true → ∃ m, m < q ∧ f m = kI (c : Nat)) ∨
  (∃ j, j < n ∧ C j = true ∧ f q = kI (j : Nat) ∧ (∀ m, m < q → f m ≠ kI (j : Nat)) ∧ ∀ c, c < n → C c = true → c ≠ j → (∀ m, m < q → f m ≠ kI (c : Nat)) → bts W j c)
theorem frK_put {C : Nat → Bool} {W f g : Nat → Int32} {n k : Nat} {x : Int32} (h : frK C W n f k) (hx : bsT C W f k n x) (hg : ∀ q, g q = if q = k then x else f q) : frK C W n g (k + 1) := by
  intro q hq h3
  have e : ∀ m, m < k → g m = f m := fun m hm => by rw [hg, if_neg (by omega)]
  by_cases c : q = k
  · subst c
    have gq : g q = x := by rw [hg, if_pos rfl]
    rcases hx with ⟨h1, h2⟩ | ⟨i, i1, i2, i3, i4, i5⟩
    · refine Or.inl ⟨gq.trans h1, fun c hc hy => ?_⟩
      obtain ⟨m, m1, m2⟩ := h2 c hc hy
      exact ⟨m, m1, by rw [e m m1]; exact m2⟩
    · exact Or.inr ⟨i, i1, i2, gq.trans i3, fun m hm => by rw [e m hm]; exact i4 m hm, fun c hc hy ne hn => i5 c hc hy ne fun m hm => by rw [← e m hm]; exact hn m hm⟩
  · rcases h q (by omega) h3 with ⟨f1, f2⟩ | ⟨j, j1, j2, j3, j4, j5⟩
    · refine Or.inl ⟨by rw [e q (by omega)]; exact f1, fun c hc hy => ?_⟩
      obtain ⟨m, m1, m2⟩ := f2 c hc hy
      exact ⟨m, m1, by rw [e m (by omega)]; exact m2⟩
    · exact Or.inr ⟨j, j1, j2, by rw [e q (by omega)]; exact j3, fun m hm => by rw [e m (by omega)]; exact j4 m hm, fun c hc hy ne hn => j5 c hc hy ne fun m hm => by rw [← e m (by omega)]; exact hn m hm⟩
/-- worths, friends: what is written over -/
def fr96 (M N : pMem) : Prop := (∀ a, a ≠ 216 → a ≠ 217 → a ≠ 188 → a ≠ 220 → a ≠ 221 → N a = M a) ∧ ∀ j, j ≠ 51 → N 188 j = M 188 j
theorem fr96_t {M N K : pMem} (h : fr96 M N) (g : fr96 N K) : fr96 M K := ⟨fun a h1 h2 h3 h4 h5 => (g.1 a h1 h2 h3 h4 h5).trans (h.1 a h1 h2 h3 h4 h5), fun j hj => (g.2 j hj).trans (h.2 j hj)⟩
theorem fr96_87 {M N : pMem} (h : fr87 M N) : fr96 M N := ⟨fun a h1 h2 h3 _ _ => h.1 a h1 h2 h3, h.2⟩
theorem fr96_p {M : pMem} {a j : Nat} {x : Int32} (h : a = 220 ∨ a = 221) : fr96 M (aPut M a j x) := ⟨fun b _ _ _ h4 h5 => by
  funext i
  exact aPut_cell (by omega), fun i _ => aPut_cell (by omega)⟩
theorem sc_96 {M N : pMem} (h : fr96 M N) : sc M N := fun a j h1 h2 => by
  by_cases e8 : a = 188
  · subst e8
    refine h.2 j fun e => ?_
    subst e
    exact absurd h2 (by decide)
  · have no : ∀ b, pScrA b = true → a ≠ b := fun b hb e => by
      subst e
      unfold pScr at h2
      rw [hb] at h2
      cases h2
    rw [h.1 a (no 216 rfl) (no 217 rfl) e8 (no 220 rfl) (no 221 rfl)]
theorem D_96_v {k : Nat} {o : List Cd} {L : List Ln} {M V : pMem} (hs0 : sc V M) (hV : rV V) (hc : rLk V k o L) {p1 : Int32} {b n : Nat} (hn : rNb V n) (hb : p1.toInt = b) (hbn : b < n) {v N} (h : D_96 p1 M v N) :
    (∀ q, q < 3 → N 221 q = frs o L V b q) ∧ frT (cnF V b) (wtF o L V b) n (N 221) ∧ fr96 M N := by
  obtain ⟨n24, hn2, hn3⟩ := id hn
  have fin : ∀ {N : pMem}, frK (cnF V b) (wtF o L V b) n (N 221) 3 ∧ fr96 M N → (∀ q, q < 3 → N 221 q = frs o L V b q) ∧ frT (cnF V b) (wtF o L V b) n (N 221) ∧ fr96 M N := fun {N} hq => by
    have t : frT (cnF V b) (wtF o L V b) n (N 221) := fun q hq2 => hq.1 q hq2 hq2
    refine ⟨frs_of (frT_ext n24 (fun c h1 h2 => ?_) t), t, hq.2⟩
    unfold cnF
    rw [thV_0 hn h1 h2, Bool.false_and, Bool.and_false]
  have q := h (fun x2 M' v N => ∀ j : Nat, x2.toInt = j → j ≤ n → fr96 M M' → (∀ c, c < j → cnF V b c = true → M' 220 c = wtF o L V b c) → frK (cnF V b) (wtF o L V b) n (N 221) 3 ∧ fr96 M N,
    fun x2 M' v N => ∀ kk : Nat, x2.toInt = kk → kk ≤ 3 → fr96 M M' → (∀ c, c < n → cnF V b c = true → M' 220 c = wtF o L V b c) → frK (cnF V b) (wtF o L V b) n (M' 221) kk → frK (cnF V b) (wtF o L V b) n (N 221) 3 ∧ fr96 M N,
    fun x2 x3 x4 M' v N => ∀ kk j : Nat, x2.toInt = kk → x4.toInt = j → kk < 3 → j ≤ n → fr96 M M' → (∀ c, c < n → cnF V b c = true → M' 220 c = wtF o L V b c) → frK (cnF V b) (wtF o L V b) n (M' 221) kk → bsT (cnF V b) (wtF o L V b) (M' 221) kk j x3 → frK (cnF V b) (wtF o L V b) n (N 221) 3 ∧ fr96 M N) ⟨?_, ?_, ?_⟩
  · exact fin (q 0 rfl (Nat.zero_le _) ⟨fun _ _ _ _ _ _ => rfl, fun _ _ => rfl⟩ (fun c hc => absurd hc (Nat.not_lt_zero c)))
  · intro x2 M' v N hs j hj hjn hf hw
    have hM := sc_t hs0 (sc_96 hf)
    have m2 : M' 188 2 = V 188 2 := sc_r8 hM (by decide) (by decide)
    rcases hs with ⟨g, hs⟩ | ⟨g, hs⟩
    · rw [m2, i_le, hj, hn2] at g
      exact hs 0 rfl (Nat.zero_le _) hf (fun c hc => hw c (by omega)) (fun q hq => absurd hq (Nat.not_lt_zero q))
    · rw [m2, i_le, hj, hn2] at g
      have no : cnF V b j = false → ∀ c, c < j + 1 → cnF V b c = true → M' 220 c = wtF o L V b c := fun e c hc hy => by
        by_cases q : c = j
        · rw [q, e] at hy
          cases hy
        · exact hw c (by omega) hy
      rcases hs with ⟨g2, hs⟩ | ⟨g2, _, hs⟩
      · refine hs (j + 1) (n_add1 hj (by omega)) (by omega) hf (no ?_)
        unfold cnF
        rw [decide_eq_true (show j = b by rw [i_eq, hj, hb] at g2; omega), Bool.not_true, Bool.and_false, Bool.and_false]
      · rw [(sc_rows hM).2.2.1, ix_of hj] at hs
        rcases hs with ⟨g3, v1, M1, h87, hs⟩ | ⟨g3, hs⟩
        · obtain ⟨_, _, a1, a2, a3⟩ := D_87_v (w := 19) (by decide) (by decide) (rLk_sc hM hc) hb hj h87
          rw [FcV_sc hM] at a1 a2
          have s1 := sc_t hM (sc_87 a3)
          have f1 := fr96_t hf (fr96_87 a3)
          have lk : M1 194 (24 * b + j) = lkV V b j := by rw [(sc_rows s1).2.2.2.1]; rfl
          rw [(ix24 hb hj (by omega) (by omega)).2, lk, a2] at hs
          have put : ∀ {M2 : pMem} {y : Int32}, y = wtF o L V b j → M2 = aPut M1 220 j y → fr96 M M2 ∧ ∀ c, c < j + 1 → cnF V b c = true → M2 220 c = wtF o L V b c := by
            intro M2 y ey e
            refine ⟨fr96_t f1 (by rw [e]; exact fr96_p (Or.inl rfl)), fun c hc hy => ?_⟩
            rw [e, aPut_row]
            by_cases q : c = j
            · rw [if_pos q, ey, q]
            · rw [if_neg q, a3.1 220 (by decide) (by decide) (by decide)]
              exact hw c (by omega) hy
          have tn : isT (FcV V b j) o (kI (19 : Nat)) L = 0 ↔ teL (FcV V b j) o (kI 19) L = none := by
            show (if teL (FcV V b j) o (kI 19) L = none then kI 0 else kI 1) = 0 ↔ _
            by_cases q : teL (FcV V b j) o (kI 19) L = none
            · rw [if_pos q]
              exact ⟨fun _ => q, fun _ => rfl⟩
            · rw [if_neg q]
              exact ⟨fun r => absurd r (by decide), fun r => absurd r q⟩
          rcases hs with ⟨g4, _, _, M2, e2, hs⟩ | ⟨g4, _, M2, e2, hs⟩
          · obtain ⟨p1, p2⟩ := put (by unfold wtF; rw [tn.mp g4]; rfl) e2
            exact hs (j + 1) (n_add1 hj (by omega)) (by omega) p1 p2
          · obtain ⟨p1, p2⟩ := put (by
              have ne := fun q => g4 (tn.mpr q)
              rw [a1]
              show (teL (FcV V b j) o (kI 19) L).getD 0 = (teL (FcV V b j) o (kI 19) L).getD (lkV V b j)
              cases e : teL (FcV V b j) o (kI 19) L with
              | none => exact absurd e ne
              | some z => rfl) e2
            exact hs (j + 1) (n_add1 hj (by omega)) (by omega) p1 p2
        · refine hs (j + 1) (n_add1 hj (by omega)) (by omega) hf (no ?_)
          unfold cnF thV
          rw [decide_eq_true (Classical.not_not.mp g3), Bool.not_true, Bool.false_and, Bool.and_false]
  · intro x2 M' v N hs kk hk hk3 hf hw hK
    rcases hs with ⟨g, _, hN⟩ | ⟨g, hs⟩
    · rw [i_le, hk, kI_toInt (by decide) (by decide)] at g
      have e : kk = 3 := by omega
      rw [e] at hK
      rw [hN]
      exact ⟨hK, hf⟩
    · rw [i_le, hk, kI_toInt (by decide) (by decide)] at g
      exact hs kk 0 hk rfl (by omega) (Nat.zero_le _) hf hw hK (Or.inl ⟨rfl, fun c hc => absurd hc (Nat.not_lt_zero c)⟩)
  · intro x2 x3 x4 M' v N hs kk j hk hj hk3 hjn hf hw hK hB
    have hM := sc_t hs0 (sc_96 hf)
    have m2 : M' 188 2 = V 188 2 := sc_r8 hM (by decide) (by decide)
    -- the best is put
    have put : ∀ {M1 : pMem}, bsT (cnF V b) (wtF o L V b) (M' 221) kk n x3 → M1 = aPut M' 221 kk x3 → fr96 M M1 ∧ (∀ c, c < n → cnF V b c = true → M1 220 c = wtF o L V b c) ∧ frK (cnF V b) (wtF o L V b) n (M1 221) (kk + 1) := by
      intro M1 hx e
      refine ⟨fr96_t hf (by rw [e]; exact fr96_p (Or.inr rfl)), fun c hc hy => by rw [e, aPut_cell (by decide)]; exact hw c hc hy, frK_put hK hx (fun q => by rw [e, aPut_row])⟩
    rcases hs with ⟨g, _, M1, e1, hs⟩ | ⟨g, _, hs⟩
    · rw [m2, i_le, hj, hn2] at g
      have ej : j = n := by omega
      rw [ej] at hB
      rw [ix_of hk] at e1
      obtain ⟨p1, p2, p3⟩ := put hB e1
      exact hs (kk + 1) (n_add1 hk (by omega)) (by omega) p1 p2 p3
    · rw [m2, i_le, hj, hn2] at g
      rw [(sc_rows hM).2.2.1, ix_of hb] at hs
      rcases hs with ⟨g2, _, M1, e1, hs⟩ | ⟨g2, hs⟩
      · rw [ix_of hk] at e1
        have none : ∀ c, cnF V b c = false := fun c => by
          unfold cnF
          rw [thV_y hV (show b < 24 by omega), decide_eq_false g2]
          rfl
        have hx : bsT (cnF V b) (wtF o L V b) (M' 221) kk n x3 := by
          rcases hB with ⟨h1, _⟩ | ⟨i, _, i2, _⟩
          · exact Or.inl ⟨h1, fun c _ hy => by rw [none c] at hy; cases hy⟩
          · rw [none i] at i2
            cases i2
        obtain ⟨p1, p2, p3⟩ := put hx e1
        exact hs (kk + 1) (n_add1 hk (by omega)) (by omega) p1 p2 p3
      · have thb : thV V b = true := by rw [thV_y hV (show b < 24 by omega), decide_eq_true (Classical.not_not.mp g2)]
        have next : ∀ {y3 : Int32}, bsT (cnF V b) (wtF o L V b) (M' 221) kk (j + 1) y3 → (∀ kk' j' : Nat, x2.toInt = kk' → (x4 + kI 1).toInt = j' → kk' < 3 → j' ≤ n → fr96 M M' → (∀ c, c < n → cnF V b c = true → M' 220 c = wtF o L V b c) → frK (cnF V b) (wtF o L V b) n (M' 221) kk' → bsT (cnF V b) (wtF o L V b) (M' 221) kk' j' y3 → frK (cnF V b) (wtF o L V b) n (N 221) 3 ∧ fr96 M N) → frK (cnF V b) (wtF o L V b) n (N 221) 3 ∧ fr96 M N := fun hB' hs =>
          hs kk (j + 1) hk (n_add1 hj (by omega)) hk3 (by omega) hf hw hK hB'
        rcases hs with ⟨g3, hs⟩ | ⟨g3, _, hs⟩
        · refine next (bsT_skip hB (Or.inl ?_)) hs
          unfold cnF
          rw [decide_eq_true (show j = b by rw [i_eq, hj, hb] at g3; omega), Bool.not_true, Bool.and_false, Bool.and_false]
        · have ne : ¬ j = b := fun e => g3 (by rw [i_eq, hj, hb, e])
          rw [ix_of hj] at hs
          rcases hs with ⟨g4, hs⟩ | ⟨g4, hs⟩
          · refine next (bsT_skip hB (Or.inl ?_)) hs
            unfold cnF thV
            rw [decide_eq_true g4, Bool.not_true, Bool.false_and, Bool.and_false]
          · have cy : cnF V b j = true := by
              unfold cnF
              rw [thb, decide_eq_false ne]
              unfold thV
              rw [decide_eq_false g4]
              rfl
            have ej : x4 = kI (j : Nat) := kI_inj hj
            have wj := hw j (by omega) cy
            -- compared with the best so far
            have cmp : (∀ m, m < kk → M' 221 m ≠ kI (j : Nat)) → (tIf (x3 = (kI (-1))) (fun v N => ∀ kk' j' : Nat, x2.toInt = kk' → (x4 + kI 1).toInt = j' → kk' < 3 → j' ≤ n → fr96 M M' → (∀ c, c < n → cnF V b c = true → M' 220 c = wtF o L V b c) → frK (cnF V b) (wtF o L V b) n (M' 221) kk' → bsT (cnF V b) (wtF o L V b) (M' 221) kk' j' x4 → frK (cnF V b) (wtF o L V b) n (N 221) 3 ∧ fr96 M N) (tGd (pIn x4 24) <| tGd (pIn x3 24) <| tIf ((M' 220 j) ≤ (M' 220 (ix x3)))
                (fun v N => ∀ kk' j' : Nat, x2.toInt = kk' → (x4 + kI 1).toInt = j' → kk' < 3 → j' ≤ n → fr96 M M' → (∀ c, c < n → cnF V b c = true → M' 220 c = wtF o L V b c) → frK (cnF V b) (wtF o L V b) n (M' 221) kk' → bsT (cnF V b) (wtF o L V b) (M' 221) kk' j' x3 → frK (cnF V b) (wtF o L V b) n (N 221) 3 ∧ fr96 M N)
                (fun v N => ∀ kk' j' : Nat, x2.toInt = kk' → (x4 + kI 1).toInt = j' → kk' < 3 → j' ≤ n → fr96 M M' → (∀ c, c < n → cnF V b c = true → M' 220 c = wtF o L V b c) → frK (cnF V b) (wtF o L V b) n (M' 221) kk' → bsT (cnF V b) (wtF o L V b) (M' 221) kk' j' x4 → frK (cnF V b) (wtF o L V b) n (N 221) 3 ∧ fr96 M N))) v N → frK (cnF V b) (wtF o L V b) n (N 221) 3 ∧ fr96 M N := by
              intro hf2 hs
              rcases hs with ⟨g5, hs⟩ | ⟨g5, _, _, hs⟩
              · exact next (y3 := x4) (by rw [ej]; exact bsT_new hB cy hf2 (Or.inl g5) (by omega)) hs
              · obtain ⟨i, i1, i2, i3, _⟩ := hB.resolve_left fun r => g5 r.1
                have ti : x3.toInt = (i : Nat) := by rw [i3, kI_toInt (by omega) (by omega)]
                rw [ix_of ti, wj, hw i (by omega) i2] at hs
                rcases hs with ⟨g6, hs⟩ | ⟨g6, hs⟩
                · exact next (bsT_old hB i3 (by omega) (by omega) (by rw [i_le] at g6; exact g6)) hs
                · refine next (y3 := x4) ?_ hs
                  rw [ej]
                  exact bsT_new hB cy hf2 (Or.inr ⟨i, i1, i3, by rw [i_le] at g6; omega⟩) (by omega)
            rcases hs with ⟨g5, hs⟩ | ⟨g5, _, hs⟩
            · rw [i_le, hk, i_0] at g5
              have k0 : kk = 0 := by omega
              have hs := tIf_p (show x2 ≤ kI 1 by rw [i_le, hk, kI1]; omega) hs
              exact cmp (fun m hm => by omega) hs
            · rw [i_le, hk, i_0] at g5
              rcases hs with ⟨g6, hs⟩ | ⟨g6, hs⟩
              · exact next (bsT_skip hB (Or.inr ⟨0, by omega, by rw [← ej]; exact g6⟩)) hs
              · rcases hs with ⟨g7, hs⟩ | ⟨g7, _, hs⟩
                · rw [i_le, hk, kI1] at g7
                  refine cmp (fun m hm => ?_) hs
                  have m0 : m = 0 := by omega
                  rw [m0, ← ej]
                  exact g6
                · rw [i_le, hk, kI1] at g7
                  rcases hs with ⟨g8, hs⟩ | ⟨g8, hs⟩
                  · refine cmp (fun m hm => ?_) hs
                    by_cases m0 : m = 0
                    · rw [m0, ← ej]
                      exact g6
                    · have m1 : m = 1 := by omega
                      rw [m1, ← ej]
                      exact g8
                  · exact next (bsT_skip hB (Or.inr ⟨1, by omega, by rw [← ej]; exact Classical.not_not.mp g8⟩)) hs
/-- how many are of the other lot -/
theorem D_97_v {k : Nat} {o : List Cd} {L : List Ln} {M V : pMem} (hs0 : sc V M) (hV : rV V) (hc : rLk V k o L) {p1 : Int32} {b n : Nat} (hn : rNb V n) (hb : p1.toInt = b) (hbn : b < n) {v N} (h : D_97 p1 M v N) : v = acr o L V b ∧ fr96 M N := by
  obtain ⟨_, M1, h96, h⟩ := h
  obtain ⟨a1, a2, a3⟩ := D_96_v hs0 hV hc hn hb hbn h96
  have s1 := sc_t hs0 (sc_96 a3)
  have n24 := hn.1
  have q := h (fun x2 x3 M' v N => ∀ i : Nat, x3.toInt = i → i ≤ 3 → M' = M1 → x2 = kI (cN (acF V b (M1 221)) i : Nat) → v = kI (cN (acF V b (M1 221)) 3 : Nat) ∧ N = M1) ?_
  · obtain ⟨q1, q2⟩ := q 0 rfl (Nat.zero_le _) rfl rfl
    refine ⟨?_, by rw [q2]; exact a3⟩
    rw [q1]
    unfold acr
    rw [acF_cg a1]
  · intro x2 x3 M' v N hs i hi hi3 hM h2
    rw [hM] at hs
    have cs : cN (acF V b (M1 221)) (i + 1) = cN (acF V b (M1 221)) i + (if acF V b (M1 221) i = true then 1 else 0) := rfl
    rcases hs with ⟨g, hv, hN⟩ | ⟨g, _, hs⟩
    · rw [i_le, hi, kI_toInt (by decide) (by decide)] at g
      have e : i = 3 := by omega
      rw [e] at h2
      exact ⟨hv.trans h2, hN⟩
    · rw [i_le, hi, kI_toInt (by decide) (by decide)] at g
      rw [ix_of hi, ix_of hb, (sc_rows s1).1] at hs
      rcases hs with ⟨g2, hs⟩ | ⟨g2, _, _, _, hs⟩
      · refine hs (i + 1) (n_add1 hi (by omega)) (by omega) rfl ?_
        have e : acF V b (M1 221) i = false := by
          unfold acF
          rw [decide_eq_true g2]
          rfl
        rw [cs, e, h2]
        rfl
      · rcases hs with ⟨g3, hs⟩ | ⟨g3, hs⟩
        · refine hs (i + 1) (n_add1 hi (by omega)) (by omega) rfl ?_
          have e : acF V b (M1 221) i = false := by
            unfold acF
            rw [decide_eq_true g3, Bool.not_true, Bool.and_false]
          rw [cs, e, h2]
          rfl
        · refine hs (i + 1) (n_add1 hi (by omega)) (by omega) rfl ?_
          have e : acF V b (M1 221) i = true := by
            unfold acF
            rw [decide_eq_false g3, decide_eq_false g2]
            rfl
          rw [cs, if_pos e, h2, kI_n1]
          rfl
