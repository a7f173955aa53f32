/-! days of a plan: how many, and the state behind them -/
def dyG : List Int32 → Int32 × Int32 → Nat × (Int32 × Int32)
  | [], q => (0, q)
  | k :: r, q => if kI 60 ≤ q.1 then (0, q) else ((dyG r (q.1 + kI 1, if k = kI 1 then xDraw (xDraw q.2) else q.2)).1 + 1, (dyG r (q.1 + kI 1, if k = kI 1 then xDraw (xDraw q.2) else q.2)).2)
theorem dyG_full {l : List Int32} {q : Int32 × Int32} (h : kI 60 ≤ q.1) : dyG l q = (0, q) := by
  cases l with
  | nil => rfl
  | cons k r =>
    unfold dyG
    rw [if_pos h]
theorem dyG_day {k : Int32} {r : List Int32} {q : Int32 × Int32} (h : ¬ kI 60 ≤ q.1) : dyG (k :: r) q = ((dyG r (q.1 + kI 1, if k = kI 1 then xDraw (xDraw q.2) else q.2)).1 + 1, (dyG r (q.1 + kI 1, if k = kI 1 then xDraw (xDraw q.2) else q.2)).2) := by
  conv => lhs; unfold dyG
  rw [if_neg h]
theorem drop_nil {α : Type} {l : List α} {i : Nat} (h : l.length ≤ i) : l.drop i = [] := List.drop_eq_nil_iff.mpr h
theorem drop_at {α : Type} {l : List α} {i : Nat} (h : i < l.length) : l.drop i = l[i] :: l.drop (i + 1) := List.drop_eq_getElem_cons h
/-- the class -/
theorem D_11_w {k : Nat} {p1 : Int32} {M : pMem} {D : List (Int32 × Int32 × Int32)} (hk : p1.toInt = k) (hk4 : k < 4) (hD : pdOk M (37 + 11 * k) D) (hd : (M 19 4).toInt ≤ 60) {v : Int32} {N : pMem} (h : D_11 p1 M v N) :
    v.toInt = ((dyG (D.map (·.1)) (M 19 4, M 19 5)).1 : Nat) ∧ N 19 0 = M 19 0 ∧ (N 19 4, N 19 5) = (dyG (D.map (·.1)) (M 19 4, M 19 5)).2 ∧ (N 19 4).toInt ≤ 60 := by
  have h := tIf_p (f_33_iff.mpr (by omega)) h
  obtain ⟨_, h⟩ := h
  rw [ix_of hk] at h
  refine (h (fun y x3 x4 M v N => y = 37 + 11 * k → ∀ i g : Nat, x4.toInt = i → x3.toInt = g → g ≤ i → i ≤ D.length → pdOk M y D → (M 19 4).toInt ≤ 60 →
    v.toInt = ((g + (dyG ((D.drop i).map (·.1)) (M 19 4, M 19 5)).1 : Nat) : Int) ∧ N 19 0 = M 19 0 ∧ (N 19 4, N 19 5) = (dyG ((D.drop i).map (·.1)) (M 19 4, M 19 5)).2 ∧ (N 19 4).toInt ≤ 60) ?_) rfl 0 0 rfl rfl (Nat.le_refl _) (Nat.zero_le _) hD hd |> fun r => by
      rw [List.drop_zero, Nat.zero_add] at r
      exact r
  intro y x3 x4 M v N hs hy i g hx4 hx3 hgi hi hD hd
  subst hy
  have hl : (M (37 + 11 * k) 0).toInt = D.length := hD.1
  rcases hs with ⟨g1, hv, hN⟩ | ⟨g1, hs⟩
  · rw [i_le, hl, hx4] at g1
    rw [drop_nil (by omega), hN, hv]
    exact ⟨by rw [hx3]; rfl, rfl, rfl, hd⟩
  · rw [i_le, hl, hx4] at g1
    rcases hs with ⟨g2, hv, hN⟩ | ⟨g2, c4, _, _, v1, M1, h30, hs⟩
    · rw [dyG_full g2, hN, hv]
      exact ⟨by rw [hx3]; rfl, rfl, rfl, hd⟩
    · have i24 := ix_in c4
      rw [ix_of hx4] at h30 i24
      have hi2 : i < D.length := by omega
      have e1 := hD.2 i D[i] (List.getElem?_eq_getElem hi2)
      rw [e1.1] at h30
      obtain ⟨w0, w4, w5⟩ := D_30_w h30
      have f := F_30 h30
      have pr : ∀ o j, o < 4 → M1 (37 + 11 * k + o) j = M (37 + 11 * k + o) j := fun o j ho => f _ _ (by omega) (pl_scr hk4 ho) (by simp only [l_30, pOut_cons, pOut_nil, true_or, and_true]; omega)
      have d1 : pdOk M1 (37 + 11 * k) D := pdOk_eq hD (pr 0 0 (by omega)) (fun i => ⟨pr 1 i (by omega), pr 2 i (by omega), pr 3 i (by omega)⟩)
      have l60 : ¬ (60 ≤ (M 19 4).toInt) := fun q => g2 (by rw [i_le, kI_toInt (by decide) (by decide)]; exact q)
      have t4 : (M1 19 4).toInt = (M 19 4).toInt + 1 := by rw [w4, i_add1 (by omega)]
      obtain ⟨r1, r2, r3, r4⟩ := hs rfl (i + 1) (g + 1) (by rw [i_add1 (by omega)]; omega) (by rw [i_add1 (by omega)]; omega) (by omega) (by omega) d1 (by omega)
      rw [drop_at hi2, List.map_cons, dyG_day g2]
      have e5 : (M1 19 4, M1 19 5) = (M 19 4 + kI 1, if D[i].1 = kI 1 then xDraw (xDraw (M 19 5)) else M 19 5) := by rw [w4, w5]
      rw [e5] at r1 r3
      refine ⟨?_, r2.trans w0, r3, r4⟩
      rw [r1]
      have q : ∀ a b : Nat, a = b → ((g + 1 + a : Nat) : Int) = ((g + (b + 1) : Nat) : Int) := fun a b e => by omega
      exact q _ _ rfl
/-- the kinds of the days of lines -/
def ksL (l : List (Int32 × Int32)) : List Int32 := l.filterMap fun w => if w.1 = kI 28 then none else some (w.1 - kI 24)
theorem ksL_days : ∀ {l : List (Int32 × Int32)} {a : List (Int32 × Int32 × Int32)} {s : Int32}, (l.foldl plDay (a, s)).1.map (·.1) = a.map (·.1) ++ ksL l
  | [], a, s => by
    show a.map _ = a.map _ ++ []
    rw [List.append_nil]
  | w :: r, a, s => by
    show ((r.foldl plDay (plDay (a, s) w)).1.map (·.1)) = _
    by_cases e : w.1 = kI 28
    · have e1 : plDay (a, s) w = (a, w.2) := by unfold plDay; rw [if_pos e]
      rw [e1, ksL_days]
      unfold ksL
      rw [List.filterMap_cons_none (by rw [if_pos e])]
    · have e1 : plDay (a, s) w = (a ++ [(w.1 - kI 24, w.2, s)], kI (-1)) := by unfold plDay; rw [if_neg e]
      rw [e1, ksL_days, List.map_append]
      unfold ksL
      rw [List.filterMap_cons_some (by rw [if_neg e]), List.append_assoc]
      rfl
/-- the reference -/
def lQ (b m : Nat) (l : List (Int32 × Int32)) (x4 : Int32) (M N : pMem) : Prop := ∀ i c : Nat, x4.toInt = ((b + i : Nat) : Int) → i ≤ l.length → (M 188 60).toInt = c → c ≤ 24 + i → (M 188 3).toInt ≤ 60 →
    (M 213 m).toInt = l.length → rlOk (M 214) (M 215) b l →
    (N 188 60).toInt = ((c + (dyG (ksL (l.drop i)) (M 188 3, M 188 1)).1 : Nat) : Int) ∧ N 188 2 = M 188 2 ∧ (N 188 3, N 188 1) = (dyG (ksL (l.drop i)) (M 188 3, M 188 1)).2 ∧ (N 188 3).toInt ≤ 60
theorem lQ_eq {b m : Nat} {l : List (Int32 × Int32)} {x : Int32} {M N M' : pMem} (h : lQ b m l x M' N) {i c : Nat} (hx : x.toInt = ((b + i : Nat) : Int)) (hi : i ≤ l.length) (hc : (M' 188 60).toInt = c) (hc2 : c ≤ 24 + i) (h3 : (M' 188 3).toInt ≤ 60) (hm : (M' 213 m).toInt = l.length) (ho : rlOk (M' 214) (M' 215) b l) :
    (N 188 60).toInt = ((c + (dyG (ksL (l.drop i)) (M' 188 3, M' 188 1)).1 : Nat) : Int) ∧ N 188 2 = M' 188 2 ∧ (N 188 3, N 188 1) = (dyG (ksL (l.drop i)) (M' 188 3, M' 188 1)).2 ∧ (N 188 3).toInt ≤ 60 := h i c hx hi hc hc2 h3 hm ho
theorem L_105_w {k : Nat} {p1 p2 x3 x4 : Int32} {M0 : pMem} {l : List (Int32 × Int32)} (hk : p1.toInt = k) (hk4 : k < 4) (hl : l.length ≤ 24) {v : Unit} {N : pMem} (h : L_105_1 p1 p2 x3 x4 M0 v N) : lQ (24 * k) k l x4 M0 N := by
  refine h (fun x3 x4 M v N => lQ (24 * k) k l x4 M N) ?_
  intro x3 x4 M v N hs i c hx hi hc hc2 h3 hm ho
  obtain ⟨_, hs⟩ := hs
  have e24 : (kI 24 * p1 + M 213 (ix p1)).toInt = ((24 * k + l.length : Nat) : Int) := by
    have q : (kI 24 * p1).toInt = 24 * k := by rw [i_mul (by rw [kI_toInt (by decide) (by decide)]; omega) (by rw [kI_toInt (by decide) (by decide)]; omega), kI_toInt (by decide) (by decide), hk]
    rw [ix_of hk, i_add (by rw [q, hm]; omega) (by rw [q, hm]; omega), q, hm]
    omega
  rcases hs with ⟨g, _, hN⟩ | ⟨g, c4, hs⟩
  · rw [i_le, e24, hx] at g
    rw [drop_nil (by omega), hN]
    exact ⟨hc, rfl, rfl, h3⟩
  · rw [i_le, e24, hx] at g
    have hi2 : i < l.length := by omega
    obtain ⟨⟨r, r1, r2, r3, r4⟩, r5⟩ := ho i l[i] (List.getElem?_eq_getElem hi2)
    have ex : ix x4 = 24 * k + i := ix_of hx
    rw [ex] at hs
    rw [r4] at hs
    have nx : (x4 + kI 1).toInt = ((24 * k + (i + 1) : Nat) : Int) := by rw [i_add1 (by omega), hx]; omega
    have k10 : kI r = kI 10 ↔ r = 10 := by
      rw [yk (by decide) (by decide), kI_toInt (by omega) (by omega)]
      omega
    have w28 : l[i].1 = kI 28 ↔ r = 10 := by
      rw [r3, yk (by decide) (by decide), kI_toInt (by omega) (by omega)]
      omega
    rw [drop_at hi2]
    rcases hs with ⟨g2, hs⟩ | ⟨g2, hs⟩
    · -- a day
      have n28 : ¬ l[i].1 = kI 28 := fun q => g2 (k10.mpr (w28.mp q))
      have eks : ksL (l[i] :: l.drop (i + 1)) = (l[i].1 - kI 24) :: ksL (l.drop (i + 1)) := by
        unfold ksL
        rw [List.filterMap_cons_some (by rw [if_neg n28])]
      have ekd : kI r - kI 6 = l[i].1 - kI 24 := by
        rw [r3, i_eq, i_sub (by rw [kI_toInt (by omega) (by omega), kI_toInt (by decide) (by decide)]; omega) (by rw [kI_toInt (by omega) (by omega), kI_toInt (by decide) (by decide)]; omega),
          i_sub (by rw [kI_toInt (by omega) (by omega), kI_toInt (by decide) (by decide)]; omega) (by rw [kI_toInt (by omega) (by omega), kI_toInt (by decide) (by decide)]; omega),
          kI_toInt (n := (r : Int)) (by omega) (by omega), kI_toInt (n := ((r + 18 : Nat) : Int)) (by omega) (by omega), kI_toInt (n := 6) (by decide) (by decide), kI_toInt (n := 24) (by decide) (by decide)]
        omega
      rw [eks]
      rcases hs with ⟨g3, hs⟩ | ⟨g3, _, hN⟩
      · have g60 : ¬ kI 60 ≤ M 188 3 := fun q => g3 (by
          rw [i_le, kI_toInt (by decide) (by decide)] at q
          exact kI_inj (by omega))
        rw [dyG_day g60]
        have l60 : (M 188 3).toInt < 60 := by
          rw [i_le, kI_toInt (by decide) (by decide)] at g60
          omega
        obtain ⟨_, _, _, M1, h101, M2, e2, M3, e3, M4, e4, M5, e5, M6, e6, hs⟩ := hs
        rw [ekd] at h101
        obtain ⟨w2, w3, w1⟩ := D_101_w h101
        have f := F_101 h101
        have m1 : ∀ j, M1 213 j = M 213 j ∧ M1 214 j = M 214 j ∧ M1 215 j = M 215 j := fun j => ⟨f 213 j (by decide) rfl (by simp only [l_101, pOut_cons, pOut_nil, true_or, and_true]; omega), f 214 j (by decide) rfl (by simp only [l_101, pOut_cons, pOut_nil, true_or, and_true]; omega), f 215 j (by decide) rfl (by simp only [l_101, pOut_cons, pOut_nil, true_or, and_true]; omega)⟩
        have c1 : M1 188 60 = M 188 60 := f 188 60 (by decide) rfl (by simp only [l_101, pOut_cons, pOut_nil, true_or, and_true]; omega)
        -- what the recursion is called with
        have q6 : ∀ a j, ¬ (a = 188 ∧ 60 ≤ j) → M6 a j = M1 a j := fun a j q => by
          by_cases ea : a = 188
          · subst ea
            rw [e6, aPut_at (by omega), e5, aPut_at (by omega), e4, aPut_at (by omega), e3, aPut_at (by omega), e2, aPut_at (by omega)]
          · rw [e6, aPut_cell ea, e5, aPut_cell ea, e4, aPut_cell ea, e3, aPut_cell ea, e2, aPut_cell ea]
        have q60 : M6 188 60 = M 188 60 + kI 1 := by rw [e6, aPut_at (by decide), e5, aPut_at (by decide), e4, aPut_at (by decide), e3, aPut_at (by decide), e2, aPut_same, c1]
        have fin : ∀ M' : pMem, (∀ a j, ¬ (a = 188 ∧ 61 ≤ j) → pScr a j = false → a < 230 → M' a j = M6 a j) → lQ (24 * k) k l (x4 + kI 1) M' N →
            (N 188 60).toInt = ((c + ((dyG (ksL (l.drop (i + 1))) (M 188 3 + kI 1, if l[i].1 - kI 24 = kI 1 then xDraw (xDraw (M 188 1)) else M 188 1)).1 + 1) : Nat) : Int) ∧ N 188 2 = M 188 2 ∧ (N 188 3, N 188 1) = (dyG (ksL (l.drop (i + 1))) (M 188 3 + kI 1, if l[i].1 - kI 24 = kI 1 then xDraw (xDraw (M 188 1)) else M 188 1)).2 ∧ (N 188 3).toInt ≤ 60 := by
          intro M' hM' hq
          have b : ∀ j, j ≤ 3 → 1 ≤ j → M' 188 j = M1 188 j := fun j hj hj0 => by
            rw [hM' 188 j (by omega) (by have : j = 1 ∨ j = 2 ∨ j = 3 := by omega
                                         rcases this with rfl | rfl | rfl <;> rfl) (by decide)]
            exact q6 188 j (by omega)
          have r : ∀ a j, (a = 213 ∨ a = 214 ∨ a = 215) → M' a j = M a j := fun a j ha => by
            rw [hM' a j (by omega) (by rcases ha with rfl | rfl | rfl <;> rfl) (by omega), q6 a j (by omega)]
            rcases ha with rfl | rfl | rfl
            · exact (m1 j).1
            · exact (m1 j).2.1
            · exact (m1 j).2.2
          have e60 : (M' 188 60).toInt = ((c + 1 : Nat) : Int) := by
            rw [hM' 188 60 (by omega) rfl (by decide), q60, i_add1 (by omega), hc]
            omega
          have e3' : M' 188 3 = M 188 3 + kI 1 := (b 3 (by omega) (by omega)).trans w3
          have e1' : M' 188 1 = if l[i].1 - kI 24 = kI 1 then xDraw (xDraw (M 188 1)) else M 188 1 := (b 1 (by omega) (by omega)).trans w1
          obtain ⟨s1, s2, s3, s4⟩ := hq (i + 1) (c + 1) nx (by omega) e60 (by omega) (by rw [e3', i_add1 (by omega)]; omega) (by rw [r 213 k (Or.inl rfl)]; exact hm) (by
            rw [show M' 214 = M 214 from funext fun j => r 214 j (by omega), show M' 215 = M 215 from funext fun j => r 215 j (by omega)]
            exact ho)
          rw [e3', e1'] at s1 s3
          refine ⟨?_, s2.trans ((b 2 (by omega) (by omega)).trans w2), s3, s4⟩
          rw [s1]
          omega
        have f55 : ∀ {v2 : Int32} {X Y : pMem}, D_55 X v2 Y → ∀ a j, pScr a j = false → a < 230 → Y a j = X a j := fun hd a j h1 h2 => F_55 hd a j h2 h1 (by simp only [l_55, pOut_nil])
        have put : ∀ (X : pMem) (j0 : Nat) (y : Int32), 61 ≤ j0 → ∀ a j, ¬ (a = 188 ∧ 61 ≤ j) → aPut X 188 j0 y a j = X a j := fun X j0 y h a j q => by
          by_cases ea : a = 188
          · subst ea
            exact aPut_at (by omega)
          · exact aPut_cell ea
        rcases hs with ⟨_, _, hs⟩ | ⟨_, hs⟩
        · rcases hs with ⟨_, hs⟩ | ⟨_, v2, M7, h55, _, M8, e8, hs⟩
          · exact fin M6 (fun _ _ _ _ _ => rfl) hs
          · exact fin M8 (fun a j q1 q2 q3 => by rw [e8, put _ _ _ (by omega) a j q1, f55 h55 a j q2 q3]) hs
        · rcases hs with ⟨_, _, hs⟩ | ⟨_, M7, e7, _, hs⟩
          · rcases hs with ⟨_, hs⟩ | ⟨_, v2, M7, h55, _, M8, e8, hs⟩
            · exact fin M6 (fun _ _ _ _ _ => rfl) hs
            · exact fin M8 (fun a j q1 q2 q3 => by rw [e8, put _ _ _ (by omega) a j q1, f55 h55 a j q2 q3]) hs
          · rcases hs with ⟨_, hs⟩ | ⟨_, v2, M8, h55, _, M9, e9, hs⟩
            · exact fin M7 (fun a j q1 q2 q3 => by rw [e7, put _ _ _ (by omega) a j q1]) hs
            · exact fin M9 (fun a j q1 q2 q3 => by rw [e9, put _ _ _ (by omega) a j q1, f55 h55 a j q2 q3, e7, put _ _ _ (by omega) a j q1]) hs
      · have g3 := Classical.not_not.mp g3
        have g60 : kI 60 ≤ (M 188 3, M 188 1).1 := by
          show kI 60 ≤ M 188 3
          rw [g3, i_le]
          exact Int.le_refl _
        rw [dyG_full g60, hN]
        exact ⟨hc, rfl, rfl, h3⟩
    · -- men on the sly
      have e28 := w28.mpr (k10.mp (Classical.not_not.mp g2))
      have eks : ksL (l[i] :: l.drop (i + 1)) = ksL (l.drop (i + 1)) := by
        unfold ksL
        rw [List.filterMap_cons_none (by rw [if_pos e28])]
      rw [eks]
      rcases hs with ⟨_, hs⟩ | ⟨_, _, hs⟩
      · exact hs (i + 1) c nx (by omega) hc (by omega) h3 hm ho
      · exact hs (i + 1) c nx (by omega) hc (by omega) h3 hm ho
theorem D_105_w {k : Nat} {p1 p2 : Int32} {M : pMem} {l : List (Int32 × Int32)} (hk : p1.toInt = k) (hk4 : k < 4) (hl : l.length ≤ 24) (hm : (M 213 k).toInt = l.length) (ho : rlOk (M 214) (M 215) (24 * k) l) (h3 : (M 188 3).toInt ≤ 60) {v : Unit} {N : pMem} (h : D_105 p1 p2 M v N) :
    (N 188 60).toInt = ((dyG (ksL l) (M 188 3, M 188 1)).1 : Nat) ∧ N 188 2 = M 188 2 ∧ (N 188 3, N 188 1) = (dyG (ksL l) (M 188 3, M 188 1)).2 ∧ (N 188 3).toInt ≤ 60 := by
  obtain ⟨M1, e1, M2, e2, M3, e3, M4, e4, M5, e5, M6, e6, M7, e7, h⟩ := h
  have q7 : ∀ a j, ¬ (a = 188 ∧ 60 ≤ j) → M7 a j = M a j := fun a j q => by
    by_cases ea : a = 188
    · subst ea
      rw [e7, aPut_at (by omega), e6, aPut_at (by omega), e5, aPut_at (by omega), e4, aPut_at (by omega), e3, aPut_at (by omega), e2, aPut_at (by omega), e1, aPut_at (by omega)]
    · rw [e7, aPut_cell ea, e6, aPut_cell ea, e5, aPut_cell ea, e4, aPut_cell ea, e3, aPut_cell ea, e2, aPut_cell ea, e1, aPut_cell ea]
  have q60 : M7 188 60 = kI 0 := by rw [e7, aPut_at (by decide), e6, aPut_at (by decide), e5, aPut_at (by decide), e4, aPut_at (by decide), e3, aPut_at (by decide), e2, aPut_at (by decide), e1, aPut_same]
  have x0 : (kI 24 * p1).toInt = ((24 * k + 0 : Nat) : Int) := by
    rw [i_mul (by rw [kI_toInt (by decide) (by decide)]; omega) (by rw [kI_toInt (by decide) (by decide)]; omega), kI_toInt (by decide) (by decide), hk]
    omega
  have r := L_105_w hk hk4 hl h 0 0 x0 (Nat.zero_le _) (by rw [q60]; rfl) (by omega) (by rw [q7 188 3 (by omega)]; exact h3) (by rw [q7 213 k (by omega)]; exact hm) (by
    rw [show M7 214 = M 214 from funext fun j => q7 214 j (by omega), show M7 215 = M 215 from funext fun j => q7 215 j (by omega)]
    exact ho)
  rw [List.drop_zero, Nat.zero_add, q7 188 3 (by omega), q7 188 1 (by omega), q7 188 2 (by omega)] at r
  exact r
