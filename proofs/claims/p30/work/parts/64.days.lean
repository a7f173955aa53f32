/-! days of a plan: how many, and the state behind them -/
def dyG : List Int32 → Int32 × Int32 → Nat × (Int32 × Int32)
  | [], q => (0, q)
  | k :: r, q => if kI 60 ≤ q.1 then (0, q) else ((dyG r (q.1 + kI 1, if k = kI 1 then xDraw (xDraw q.2) else q.2)).1 + 1, (dyG r (q.1 + kI 1, if k = kI 1 then xDraw (xDraw q.2) else q.2)).2)
theorem dyG_full {l : List Int32} {q : Int32 × Int32} (h : kI 60 ≤ q.1) : dyG l q = (0, q) := by
  cases l with
  | nil => rfl
  | cons k r =>
    unfold dyG
    rw [if_pos h]
theorem dyG_day {k : Int32} {r : List Int32} {q : Int32 × Int32} (h : ¬ kI 60 ≤ q.1) : dyG (k :: r) q = ((dyG r (q.1 + kI 1, if k = kI 1 then xDraw (xDraw q.2) else q.2)).1 + 1, (dyG r (q.1 + kI 1, if k = kI 1 then xDraw (xDraw q.2) else q.2)).2) := by
  conv => lhs; unfold dyG
  rw [if_neg h]
theorem drop_nil {α : Type} {l : List α} {i : Nat} (h : l.length ≤ i) : l.drop i = [] := List.drop_eq_nil_iff.mpr h
theorem drop_at {α : Type} {l : List α} {i : Nat} (h : i < l.length) : l.drop i = l[i] :: l.drop (i + 1) := List.drop_eq_getElem_cons h
/-- the class -/
theorem D_11_w {k : Nat} {p1 : Int32} {M : pMem} {D : List (Int32 × Int32 × Int32)} (hk : p1.toInt = k) (hk4 : k < 4) (hD : pdOk M (37 + 11 * k) D) (hd : (M 19 4).toInt ≤ 60) {v : Int32} {N : pMem} (h : D_11 p1 M v N) :
    v.toInt = ((dyG (D.map (·.1)) (M 19 4, M 19 5)).1 : Nat) ∧ N 19 0 = M 19 0 ∧ (N 19 4, N 19 5) = (dyG (D.map (·.1)) (M 19 4, M 19 5)).2 ∧ (N 19 4).toInt ≤ 60 := by
  have h := tIf_p (f_33_iff.mpr (by omega)) h
  obtain ⟨_, h⟩ := h
  rw [ix_of hk] at h
  refine (h (fun y x3 x4 M v N => y = 37 + 11 * k → ∀ i g : Nat, x4.toInt = i → x3.toInt = g → g ≤ i → i ≤ D.length → pdOk M y D → (M 19 4).toInt ≤ 60 →
    v.toInt = ((g + (dyG ((D.drop i).map (·.1)) (M 19 4, M 19 5)).1 : Nat) : Int) ∧ N 19 0 = M 19 0 ∧ (N 19 4, N 19 5) = (dyG ((D.drop i).map (·.1)) (M 19 4, M 19 5)).2 ∧ (N 19 4).toInt ≤ 60) ?_) rfl 0 0 rfl rfl (Nat.le_refl _) (Nat.zero_le _) hD hd |> fun r => by
      rw [List.drop_zero, Nat.zero_add] at r
      exact r
  intro y x3 x4 M v N hs hy i g hx4 hx3 hgi hi hD hd
  subst hy
  have hl : (M (37 + 11 * k) 0).toInt = D.length := hD.1
  rcases hs with ⟨g1, hv, hN⟩ | ⟨g1, hs⟩
  · rw [i_le, hl, hx4] at g1
    rw [drop_nil (by omega), hN, hv]
    exact ⟨by rw [hx3]; rfl, rfl, rfl, hd⟩
  · rw [i_le, hl, hx4] at g1
    rcases hs with ⟨g2, hv, hN⟩ | ⟨g2, c4, _, _, v1, M1, h30, hs⟩
    · rw [dyG_full g2, hN, hv]
      exact ⟨by rw [hx3]; rfl, rfl, rfl, hd⟩
    · have i24 := ix_in c4
      rw [ix_of hx4] at h30 i24
      have hi2 : i < D.length := by omega
      have e1 := hD.2 i D[i] (List.getElem?_eq_getElem hi2)
      rw [e1.1] at h30
      obtain ⟨w0, w4, w5⟩ := D_30_w h30
      have f := F_30 h30
      have pr : ∀ o j, o < 4 → M1 (37 + 11 * k + o) j = M (37 + 11 * k + o) j := fun o j ho => f _ _ (by omega) (pl_scr hk4 ho) (by simp only [l_30, pOut_cons, pOut_nil, true_or, and_true]; omega)
      have d1 : pdOk M1 (37 + 11 * k) D := pdOk_eq hD (pr 0 0 (by omega)) (fun i => ⟨pr 1 i (by omega), pr 2 i (by omega), pr 3 i (by omega)⟩)
      have l60 : ¬ (60 ≤ (M 19 4).toInt) := fun q => g2 (by rw [i_le, kI_toInt (by decide) (by decide)]; exact q)
      have t4 : (M1 19 4).toInt = (M 19 4).toInt + 1 := by rw [w4, i_add1 (by omega)]
      obtain ⟨r1, r2, r3, r4⟩ := hs rfl (i + 1) (g + 1) (by rw [i_add1 (by omega)]; omega) (by rw [i_add1 (by omega)]; omega) (by omega) (by omega) d1 (by omega)
      rw [drop_at hi2, List.map_cons, dyG_day g2]
      have e5 : (M1 19 4, M1 19 5) = (M 19 4 + kI 1, if D[i].1 = kI 1 then xDraw (xDraw (M 19 5)) else M 19 5) := by rw [w4, w5]
      rw [e5] at r1 r3
      refine ⟨?_, r2.trans w0, r3, r4⟩
      rw [r1]
      have q : ∀ a b : Nat, a = b → ((g + 1 + a : Nat) : Int) = ((g + (b + 1) : Nat) : Int) := fun a b e => by omega
      exact q _ _ rfl
/-- the kinds of the days of lines -/
def ksL (l : List (Int32 × Int32)) : List Int32 := l.filterMap fun w => if w.1 = kI 28 then none else some (w.1 - kI 24)
theorem ksL_days : ∀ {l : List (Int32 × Int32)} {a : List (Int32 × Int32 × Int32)} {s : Int32}, (l.foldl plDay (a, s)).1.map (·.1) = a.map (·.1) ++ ksL l
  | [], a, s => by
    show a.map _ = a.map _ ++ []
    rw [List.append_nil]
  | w :: r, a, s => by
    show ((r.foldl plDay (plDay (a, s) w)).1.map (·.1)) = _
    by_cases e : w.1 = kI 28
    · have e1 : plDay (a, s) w = (a, w.2) := by unfold plDay; rw [if_pos e]
      rw [e1, ksL_days]
      unfold ksL
      rw [List.filterMap_cons_none (by rw [if_pos e])]
    · have e1 : plDay (a, s) w = (a ++ [(w.1 - kI 24, w.2, s)], kI (-1)) := by unfold plDay; rw [if_neg e]
      rw [e1, ksL_days, List.map_append]
      unfold ksL
      rw [List.filterMap_cons_some (by rw [if_neg e]), List.append_assoc]
      rfl
/-- the reference -/
def lQ (b m : Nat) (l : List (Int32 × Int32)) (x4 : Int32) (M N : pMem) : Prop := ∀ i c : Nat, x4.toInt = ((b + i : Nat) : Int) → i ≤ l.length → (M 188 60).toInt = c → c ≤ 24 + i → (M 188 3).toInt ≤ 60 →
    (M 213 m).toInt = l.length → rlOk (M 214) (M 215) b l →
    (N 188 60).toInt = ((c + (dyG (ksL (l.drop i)) (M 188 3, M 188 1)).1 : Nat) : Int) ∧ N 188 2 = M 188 2 ∧ (N 188 3, N 188 1) = (dyG (ksL (l.drop i)) (M 188 3, M 188 1)).2 ∧ (N 188 3).toInt ≤ 60
theorem lQ_eq {b m : Nat} {l : List (Int32 × Int32)} {x : Int32} {M N M' : pMem} (h : lQ b m l x M' N) {i c : Nat} (hx : x.toInt = ((b + i : Nat) : Int)) (hi : i ≤ l.length) (hc : (M' 188 60).toInt = c) (hc2 : c ≤ 24 + i) (h3 : (M' 188 3).toInt ≤ 60) (hm : (M' 213 m).toInt = l.length) (ho : rlOk (M' 214) (M' 215) b l) :
    (N 188 60).toInt = ((c + (dyG (ksL (l.drop i)) (M' 188 3, M' 188 1)).1 : Nat) : Int) ∧ N 188 2 = M' 188 2 ∧ (N 188 3, N 188 1) = (dyG (ksL (l.drop i)) (M' 188 3, M' 188 1)).2 ∧ (N 188 3).toInt ≤ 60 := h i c hx hi hc hc2 h3 hm ho
theorem L_105_w {k : Nat} {p1 p2 x3 x4 : Int32} {M0 : pMem} {l : List (Int32 × Int32)} (hk : p1.toInt = k) (hk4 : k < 4) (hl : l.length ≤ 24) {v : Unit} {N : pMem} (h : L_105_1 p1 p2 x3 x4 M0 v N) : lQ (24 * k) k l x4 M0 N := by
  refine h (fun x3 x4 M v N => lQ (24 * k) k l x4 M N) ?_
  intro x3 x4 M v N hs i c hx hi hc hc2 h3 hm ho
  obtain ⟨_, hs⟩ := hs
  have e24 : (kI 24 * p1 + M 213 (ix p1)).toInt = ((24 * k + l.length : Nat) : Int) := by
    have q : (kI 24 * p1).toInt = 24 * k := by rw [i_mul (by rw [kI_toInt (by decide) (by decide)]; omega) (by rw [kI_toInt (by decide) (by decide)]; omega), kI_toInt (by decide) (by decide), hk]
    rw [ix_of hk, i_add (by rw [q, hm]; omega) (by rw [q, hm]; omega), q, hm]
    omega
  rcases hs with ⟨g, _, hN⟩ | ⟨g, c4, hs⟩
  · rw [i_le, e24, hx] at g
    rw [drop_nil (by omega), hN]
    exact ⟨hc, rfl, rfl, h3⟩
  · rw [i_le, e24, hx] at g
    have hi2 : i < l.length := by omega
    obtain ⟨⟨r, r1, r2, r3, r4⟩, r5⟩ := ho i l[i] (List.getElem?_eq_getElem hi2)
    have ex : ix x4 = 24 * k + i := ix_of hx
    rw [ex] at hs
    rw [r4] at hs
    have nx : (x4 + kI 1).toInt = ((24 * k + (i + 1) : Nat) : Int) := by rw [i_add1 (by omega), hx]; omega
    have k10 : kI r = kI 10 ↔ r = 10 := by
      rw [yk (by decide) (by decide), kI_toInt (by omega) (by omega)]
      omega
    have w28 : l[i].1 = kI 28 ↔ r = 10 := by
      rw [r3, yk (by decide) (by decide), kI_toInt (by omega) (by omega)]
      omega
    rw [drop_at hi2]
    rcases hs with ⟨g2, hs⟩ | ⟨g2, hs⟩
    · -- a day
      have n28 : ¬ l[i].1 = kI 28 := fun q => g2 (k10.mpr (w28.mp q))
      have eks : ksL (l[i] :: l.drop (i + 1)) = (l[i].1 - kI 24) :: ksL (l.drop (i + 1)) := by
        unfold ksL
        rw [List.filterMap_cons_some (by rw [if_neg n28])]
      have ekd : kI r - kI 6 = l[i].1 - kI 24 := by
        rw [r3, i_eq, i_sub (by rw [kI_toInt (by omega) (by omega), kI_toInt (by decide) (by decide)]; omega) (by rw [kI_toInt (by omega) (by omega), kI_toInt (by decide) (by decide)]; omega),
          i_sub (by rw [kI_toInt (by omega) (by omega), kI_toInt (by decide) (by decide)]; omega) (by rw [kI_toInt (by omega) (by omega), kI_toInt (by decide) (by decide)]; omega),
          kI_toInt (n := (r : Int)) (by omega) (by omega), kI_toInt (n := ((r + 18 : Nat) : Int)) (by omega) (by omega), kI_toInt (n := 6) (by decide) (by decide), kI_toInt (n := 24) (by decide) (by decide)]
        omega
      rw [eks]
      rcases hs with ⟨g3, hs⟩ | ⟨g3, _, hN⟩
      · have g60 : ¬ kI 60 ≤ M 188 3 := fun q => g3 (by
          rw [i_le, kI_toInt (by decide) (by decide)] at q
          exact kI_inj (by omega))
        rw [dyG_day g60]
        have l60 : (M 188 3).toInt < 60 := by
          rw [i_le, kI_toInt (by decide) (by decide)] at g60
          omega
        obtain ⟨_, _, _, M1, h101, M2, e2, M3, e3, M4, e4, M5, e5, M6, e6, hs⟩ := hs
        rw [ekd] at h101
        obtain ⟨w2, w3, w1⟩ := D_101_w h101
        have f := F_101 h101
        have m1 : ∀ j, M1 213 j = M 213 j ∧ M1 214 j = M 214 j ∧ M1 215 j = M 215 j := fun j => ⟨f 213 j (by decide) rfl (by simp only [l_101, pOut_cons, pOut_nil, true_or, and_true]; omega), f 214 j (by decide) rfl (by simp only [l_101, pOut_cons, pOut_nil, true_or, and_true]; omega), f 215 j (by decide) rfl (by simp only [l_101, pOut_cons, pOut_nil, true_or, and_true]; omega)⟩
        have c1 : M1 188 60 = M 188 60 := f 188 60 (by decide) rfl (by simp only [l_101, pOut_cons, pOut_nil, true_or, and_true]; omega)
        -- what the recursion is called with
        have q6 : ∀ a j, ¬ (a = 188 ∧ 60 ≤ j) → M6 a j = M1 a j := fun a j q => by
          by_cases ea : a = 188
          · subst ea
            rw [e6, aPut_at (by omega), e5, aPut_at (by omega), e4, aPut_at (by omega), e3, aPut_at (by omega), e2, aPut_at (by omega)]
          · rw [e6, aPut_cell ea, e5, aPut_cell ea, e4, aPut_cell ea, e3, aPut_cell ea, e2, aPut_cell ea]
        have q60 : M6 188 60 = M 188 60 + kI 1 := by rw [e6, aPut_at (by decide), e5, aPut_at (by decide), e4, aPut_at (by decide), e3, aPut_at (by decide), e2, aPut_same, c1]
        have fin : ∀ M' : pMem, (∀ a j, ¬ (a = 188 ∧ 61 ≤ j) → pScr a j = false → a < 230 → M' a j = M6 a j) → lQ (24 * k) k l (x4 + kI 1) M' N →
            (N 188 60).toInt = ((c + ((dyG (ksL (l.drop (i + 1))) (M 188 3 + kI 1, if l[i].1 - kI 24 = kI 1 then xDraw (xDraw (M 188 1)) else M 188 1)).1 + 1) : Nat) : Int) ∧ N 188 2 = M 188 2 ∧ (N 188 3, N 188 1) = (dyG (ksL (l.drop (i + 1))) (M 188 3 + kI 1, if l[i].1 - kI 24 = kI 1 then xDraw (xDraw (M 188 1)) else M 188 1)).2 ∧ (N 188 3).toInt ≤ 60 := by
          intro M' hM' hq
          have b : ∀ j, j ≤ 3 → 1 ≤ j → M' 188 j = M1 188 j := fun j hj hj0 => by
            rw [hM' 188 j (by omega) (by have : j = 1 ∨ j = 2 ∨ j = 3 := by omega
                                         rcases this with rfl | rfl | rfl <;> rfl) (by decide)]
            exact q6 188 j (by omega)
          have r : ∀ a j, (a = 213 ∨ a = 214 ∨ a = 215) → M' a j = M a j := fun a j ha => by
            rw [hM' a j (by omega) (by rcases ha with rfl | rfl | rfl <;> rfl) (by omega), q6 a j (by omega)]
            rcases ha with rfl | rfl | rfl
            · exact (m1 j).1
            · exact (m1 j).2.1
            · exact (m1 j).2.2
          have e60 : (M' 188 60).toInt = ((c + 1 : Nat) : Int) := by
            rw [hM' 188 60 (by omega) rfl (by decide), q60, i_add1 (by omega), hc]
            omega
          have e3' : M' 188 3 = M 188 3 + kI 1 := (b 3 (by omega) (by omega)).trans w3
          have e1' : M' 188 1 = if l[i].1 - kI 24 = kI 1 then xDraw (xDraw (M 188 1)) else M 188 1 := (b 1 (by omega) (by omega)).trans w1
          obtain ⟨s1, s2, s3, s4⟩ := hq (i + 1) (c + 1) nx (by omega) e60 (by omega) (by rw [e3', i_add1 (by omega)]; omega) (by rw [r 213 k (Or.inl rfl)]; exact hm) (by
            rw [show M' 214 = M 214 from funext fun j => r 214 j (by omega), show M' 215 = M 215 from funext fun j => r 215 j (by omega)]
            exact ho)
          rw [e3', e1'] at s1 s3
          refine ⟨?_, s2.trans ((b 2 (by omega) (by omega)).trans w2), s3, s4⟩
          rw [s1]
          omega
        have f55 : ∀ {v2 : Int32} {X Y : pMem}, D_55 X v2 Y → ∀ a j, pScr a j = false → a < 230 → Y a j = X a j := fun hd a j h1 h2 => F_55 hd a j h2 h1 (by simp only [l_55, pOut_nil])
        have put : ∀ (X : pMem) (j0 : Nat) (y : Int32), 61 ≤ j0 → ∀ a j, ¬ (a = 188 ∧ 61 ≤ j) → aPut X 188 j0 y a j = X a j := fun X j0 y h a j q => by
          by_cases ea : a = 188
          · subst ea
            exact aPut_at (by omega)
          · exact aPut_cell ea
        rcases hs with ⟨_, _, hs⟩ | ⟨_, hs⟩
        · rcases hs with ⟨_, hs⟩ | ⟨_, v2, M7, h55, _, M8, e8, hs⟩
          · exact fin M6 (fun _ _ _ _ _ => rfl) hs
          · exact fin M8 (fun a j q1 q2 q3 => by rw [e8, put _ _ _ (by omega) a j q1, f55 h55 a j q2 q3]) hs
        · rcases hs with ⟨_, _, hs⟩ | ⟨_, M7, e7, _, hs⟩
          · rcases hs with ⟨_, hs⟩ | ⟨_, v2, M7, h55, _, M8, e8, hs⟩
            · exact fin M6 (fun _ _ _ _ _ => rfl) hs
            · exact fin M8 (fun a j q1 q2 q3 => by rw [e8, put _ _ _ (by omega) a j q1, f55 h55 a j q2 q3]) hs
          · rcases hs with ⟨_, hs⟩ | ⟨_, v2, M8, h55, _, M9, e9, hs⟩
            · exact fin M7 (fun a j q1 q2 q3 => by rw [e7, put _ _ _ (by omega) a j q1]) hs
            · exact fin M9 (fun a j q1 q2 q3 => by rw [e9, put _ _ _ (by omega) a j q1, f55 h55 a j q2 q3, e7, put _ _ _ (by omega) a j q1]) hs
      · have g3 := Classical.not_not.mp g3
        have g60 : kI 60 ≤ (M 188 3, M 188 1).1 := by
          show kI 60 ≤ M 188 3
          rw [g3, i_le]
          exact Int.le_refl _
        rw [dyG_full g60, hN]
        exact ⟨hc, rfl, rfl, h3⟩
    · -- men on the sly
      have e28 := w28.mpr (k10.mp (Classical.not_not.mp g2))
      have eks : ksL (l[i] :: l.drop (i + 1)) = ksL (l.drop (i + 1)) := by
        unfold ksL
        rw [List.filterMap_cons_none (by rw [if_pos e28])]
      rw [eks]
      rcases hs with ⟨_, hs⟩ | ⟨_, _, hs⟩
      · exact hs (i + 1) c nx (by omega) hc (by omega) h3 hm ho
      · exact hs (i + 1) c nx (by omega) hc (by omega) h3 hm ho
theorem D_105_w {k : Nat} {p1 p2 : Int32} {M : pMem} {l : List (Int32 × Int32)} (hk : p1.toInt = k) (hk4 : k < 4) (hl : l.length ≤ 24) (hm : (M 213 k).toInt = l.length) (ho : rlOk (M 214) (M 215) (24 * k) l) (h3 : (M 188 3).toInt ≤ 60) {v : Unit} {N : pMem} (h : D_105 p1 p2 M v N) :
    (N 188 60).toInt = ((dyG (ksL l) (M 188 3, M 188 1)).1 : Nat) ∧ N 188 2 = M 188 2 ∧ (N 188 3, N 188 1) = (dyG (ksL l) (M 188 3, M 188 1)).2 ∧ (N 188 3).toInt ≤ 60 := by
  obtain ⟨M1, e1, M2, e2, M3, e3, M4, e4, M5, e5, M6, e6, M7, e7, h⟩ := h
  have q7 : ∀ a j, ¬ (a = 188 ∧ 60 ≤ j) → M7 a j = M a j := fun a j q => by
    by_cases ea : a = 188
    · subst ea
      rw [e7, aPut_at (by omega), e6, aPut_at (by omega), e5, aPut_at (by omega), e4, aPut_at (by omega), e3, aPut_at (by omega), e2, aPut_at (by omega), e1, aPut_at (by omega)]
    · rw [e7, aPut_cell ea, e6, aPut_cell ea, e5, aPut_cell ea, e4, aPut_cell ea, e3, aPut_cell ea, e2, aPut_cell ea, e1, aPut_cell ea]
  have q60 : M7 188 60 = kI 0 := by rw [e7, aPut_at (by decide), e6, aPut_at (by decide), e5, aPut_at (by decide), e4, aPut_at (by decide), e3, aPut_at (by decide), e2, aPut_at (by decide), e1, aPut_same]
  have x0 : (kI 24 * p1).toInt = ((24 * k + 0 : Nat) : Int) := by
    rw [i_mul (by rw [kI_toInt (by decide) (by decide)]; omega) (by rw [kI_toInt (by decide) (by decide)]; omega), kI_toInt (by decide) (by decide), hk]
    omega
  have r := L_105_w hk hk4 hl h 0 0 x0 (Nat.zero_le _) (by rw [q60]; rfl) (by omega) (by rw [q7 188 3 (by omega)]; exact h3) (by rw [q7 213 k (by omega)]; exact hm) (by
    rw [show M7 214 = M 214 from funext fun j => q7 214 j (by omega), show M7 215 = M 215 from funext fun j => q7 215 j (by omega)]
    exact ho)
  rw [List.drop_zero, Nat.zero_add, q7 188 3 (by omega), q7 188 1 (by omega), q7 188 2 (by omega)] at r
  exact r
/-! what is led in thought: the reference's things come back -/
def hold (M X : pMem) : Prop := ∀ i, i < 1122 → X 222 i = M (asP i).1 (asP i).2
def rS (M N : pMem) : Prop := ∀ i, i < 1122 → N (asP i).1 (asP i).2 = M (asP i).1 (asP i).2
theorem rS_13 {M N : pMem} (h : rS M N) : N 188 1 = M 188 1 ∧ N 188 3 = M 188 3 := ⟨h 0 (by decide), h 1 (by decide)⟩
theorem hold_put {M N : pMem} {u : Unit} (h : D_108 (kI 1) M u N) : hold M N := fun i hi => (D_108_put h (by decide)).1 i hi
theorem hold_fr {M X Y : pMem} {L : List (Nat × Nat)} (h : hold M X) (f : pFr L X Y) (k : pNo L 222 = true) : hold M Y := fun i hi => by
  rw [f 222 i (by decide) rfl (pNo_out k i)]
  exact h i hi
theorem hold_at {M X : pMem} {j : Nat} {x : Int32} (h : hold M X) : hold M (aPut X 188 j x) := fun i hi => by
  rw [aPut_cell (by decide)]
  exact h i hi
theorem hold_0 {M X : pMem} {x : Int32} (h : rS (aPut M 188 0 x) X) : rS M X := fun i hi => by
  rw [h i hi]
  have q := imN_as hi
  by_cases e : (asP i).1 = 188
  · rw [e]
    exact aPut_at (fun e2 => q.2.2 ⟨e, Or.inl e2⟩)
  · exact aPut_cell e
theorem hold_get {M X N : pMem} {u : Unit} (h : hold M X) (hD : D_108 (kI 0) X u N) : rS M N := fun i hi => by
  rw [(D_108_get hD rfl).1 i hi]
  exact h i hi
theorem rS_rfl {M : pMem} : rS M M := fun _ _ => rfl
theorem D_110_s {p1 p2 p3 p4 v : Int32} {M N : pMem} (h : D_110 p1 p2 p3 p4 M v N) : rS M N := by
  obtain ⟨M1, e1, h⟩ := h
  subst e1
  refine hold_0 (x := kI 0) ?_
  rcases h with ⟨_, _, hN⟩ | ⟨_, h⟩
  · rw [hN]; exact rS_rfl
  · rcases h with ⟨_, _, hN⟩ | ⟨_, h⟩
    · rw [hN]; exact rS_rfl
    · rcases h with ⟨_, h⟩ | ⟨_, _, hN⟩
      · obtain ⟨_, M2, h1, M3, e3, _, M4, h2, v3, M5, h3, _, M6, h4, h⟩ := h
        have r : rS (aPut M 188 0 (kI 0)) M6 := hold_get (hold_fr (hold_fr (by rw [e3]; exact hold_at (hold_put h1)) (F_105 h2) (by decide +kernel)) (F_55 h3) (by decide +kernel)) h4
        have eN : N = M6 := by
          rcases h with ⟨_, h⟩ | ⟨_, _, hN⟩
          · rcases h with ⟨_, h⟩ | ⟨_, _, hN⟩
            · rcases h with ⟨_, h⟩ | ⟨_, _, hN⟩
              · rcases h with ⟨_, h⟩ | ⟨_, _, hN⟩
                · rcases h with ⟨_, h⟩ | ⟨_, _, hN⟩
                  · rcases h with ⟨_, _, hN⟩ | ⟨_, _, hN⟩
                    · exact hN
                    · exact hN
                  · exact hN
                · exact hN
              · exact hN
            · exact hN
          · exact hN
        rw [eN]
        exact r
      · rw [hN]; exact rS_rfl
theorem D_111_s {p1 p2 v : Int32} {M N : pMem} (h : D_111 p1 p2 M v N) : rS M N := by
  obtain ⟨M1, e1, h⟩ := h
  subst e1
  refine hold_0 (x := kI 0) ?_
  rcases h with ⟨_, _, hN⟩ | ⟨_, h⟩
  · rw [hN]; exact rS_rfl
  · rcases h with ⟨_, h⟩ | ⟨_, _, hN⟩
    · obtain ⟨_, M2, h1, M3, e3, h⟩ := h
      refine h (fun x M' v N => hold (aPut M 188 0 (kI 0)) M' → rS (aPut M 188 0 (kI 0)) N, fun x y M' v N => hold (aPut M 188 0 (kI 0)) M' → rS (aPut M 188 0 (kI 0)) N) ⟨?_, ?_⟩ (by rw [e3]; exact hold_at (hold_put h1))
      · intro x M' v N hs hh
        rcases hs with ⟨_, hs⟩ | ⟨_, _, M1, h101, hs⟩
        · exact hs hh
        · exact hs (hold_fr hh (F_101 h101) (by decide +kernel))
      · intro x y M' v N hs hh
        rcases hs with ⟨_, _, M1, h108, _, hN⟩ | ⟨_, hs⟩
        · rw [hN]; exact hold_get hh h108
        · rcases hs with ⟨_, _, M1, h108, _, hN⟩ | ⟨_, _, M1, h101, hs⟩
          · rw [hN]; exact hold_get hh h108
          · have hh1 := hold_fr hh (F_101 h101) (by decide +kernel)
            rcases hs with ⟨_, hs⟩ | ⟨_, hs⟩
            · exact hs hh1
            · exact hs hh1
    · rw [hN]; exact rS_rfl
theorem D_112_s {p1 v : Int32} {M N : pMem} (h : D_112 p1 M v N) : rS M N := by
  obtain ⟨M1, e1, h⟩ := h
  subst e1
  refine hold_0 (x := kI 0) ?_
  rcases h with ⟨_, h⟩ | ⟨_, _, hN⟩
  · obtain ⟨_, M2, h1, M3, e3, h⟩ := h
    refine h (fun x M' v N => hold (aPut M 188 0 (kI 0)) M' → rS (aPut M 188 0 (kI 0)) N) ?_ (by rw [e3]; exact hold_at (hold_put h1))
    intro x M' v N hs hh
    rcases hs with ⟨_, v1, M1, h55, hs⟩ | ⟨_, v1, M1, h55, hs⟩
    · have hh1 := hold_fr hh (F_55 h55) (by decide +kernel)
      rcases hs with ⟨_, _, M2, h108, _, hN⟩ | ⟨_, _, M2, h108, _, hN⟩
      · rw [hN]; exact hold_get hh1 h108
      · rw [hN]; exact hold_get hh1 h108
    · have hh1 := hold_fr hh (F_55 h55) (by decide +kernel)
      rcases hs with ⟨_, v2, M2, h55b, hs⟩ | ⟨_, _, M2, h101, hs⟩
      · have hh2 := hold_fr hh1 (F_55 h55b) (by decide +kernel)
        rcases hs with ⟨_, _, M3, h108, _, hN⟩ | ⟨_, _, M3, h108, _, hN⟩
        · rw [hN]; exact hold_get hh2 h108
        · rw [hN]; exact hold_get hh2 h108
      · exact hs (hold_fr hh1 (F_101 h101) (by decide +kernel))
  · rw [hN]; exact rS_rfl
theorem rS_trans {M X N : pMem} (h : rS M X) (g : rS X N) : rS M N := fun i hi => (g i hi).trans (h i hi)
theorem D_114_s {p1 v : Int32} {M N : pMem} (h : D_114 p1 M v N) : rS M N := by
  obtain ⟨_, M1, h1, M2, e2, h⟩ := h
  refine h (fun x M' v N => hold M M' → rS M N) ?_ (by rw [e2]; exact hold_at (hold_put h1))
  intro x M' v N hs hh
  rcases hs with ⟨_, v1, M1, h55, _, M2, h108, _, hN⟩ | ⟨_, _, _, _, _, hs⟩
  · rw [hN]; exact hold_get (hold_fr hh (F_55 h55) (by decide +kernel)) h108
  · rcases hs with ⟨_, _, M1, h101, hs⟩ | ⟨_, _, M1, h101, hs⟩
    · exact hs (hold_fr hh (F_101 h101) (by decide +kernel))
    · exact hs (hold_fr hh (F_101 h101) (by decide +kernel))
/-- rows of orders are no places of theirs -/
theorem rS_row {M X : pMem} {a j : Nat} {x : Int32} (h : rS M X) (ha : a = 224 ∨ a = 225) : rS M (aPut X a j x) := fun i hi => by
  rw [aPut_cell]
  · exact h i hi
  · intro e
    have ck : (List.range 1122).all (fun i => !Nat.ble 224 (asP i).1) = true := by decide +kernel
    have q := List.all_eq_true.mp ck i (List.mem_range.mpr hi)
    rw [show Nat.ble 224 (asP i).1 = true from Nat.ble_eq.mpr (by omega)] at q
    cases q
theorem D_115_s {v : Int32} {M N : pMem} (h : D_115 M v N) : rS M N := fun i hi => by
  have ck : (List.range 1122).all (fun i => Nat.blt (asP i).1 202 && !pScrA (asP i).1) = true := by decide +kernel
  have q := List.all_eq_true.mp ck i (List.mem_range.mpr hi)
  simp only [Bool.and_eq_true, Bool.not_eq_true'] at q
  have q1 := Nat.blt_eq.mp q.1
  refine F_115 h _ _ (by omega) ?_ (by simp only [l_115, pOut_cons, pOut_nil, true_or, and_true]; omega)
  by_cases e : (asP i).1 = 188
  · have n := imN_as hi
    have ck2 : (List.range 1122).all (fun i => !(Nat.beq (asP i).1 188 && pScr 188 (asP i).2)) = true := by decide +kernel
    have q3 := List.all_eq_true.mp ck2 i (List.mem_range.mpr hi)
    rw [e] at q3 ⊢
    simpa using q3
  · exact pScr_of q.2 e _
theorem D_116_s {p1 p2 p3 v : Int32} {M N : pMem} (h : D_116 p1 p2 p3 M v N) : rS M N := by
  obtain ⟨M1, e1, h⟩ := h
  subst e1
  refine hold_0 (x := kI 0) ?_
  rcases h with ⟨_, _, hN⟩ | ⟨_, h⟩
  · rw [hN]; exact rS_rfl
  · rcases h with ⟨_, _, hN⟩ | ⟨_, h⟩
    · rw [hN]; exact rS_rfl
    · rcases h with ⟨_, h⟩ | ⟨_, _, hN⟩
      · refine h (fun x M' v N => rS (aPut M 188 0 (kI 0)) M' → rS (aPut M 188 0 (kI 0)) N, fun x y M' v N => rS (aPut M 188 0 (kI 0)) M' → rS (aPut M 188 0 (kI 0)) N, fun x y M' v N => rS (aPut M 188 0 (kI 0)) M' → rS (aPut M 188 0 (kI 0)) N) ⟨?_, ?_, ?_⟩ rS_rfl
        · intro x M' v N hs hh
          rcases hs with ⟨_, hs⟩ | ⟨_, _, M1, e1, hs⟩
          · exact hs hh
          · exact hs (by rw [e1]; exact rS_row hh (Or.inl rfl))
        · intro x y M' v N hs hh
          rcases hs with ⟨_, hs⟩ | ⟨_, v1, M1, h1, v2, M2, h2, hs⟩
          · rcases hs with ⟨_, _, _, hN⟩ | ⟨_, _, hN⟩
            · rw [hN]; exact hh
            · rw [hN]; exact hh
          · have hh2 := rS_trans (rS_trans hh (D_114_s h1)) (D_114_s h2)
            rcases hs with ⟨_, v3, M3, h3, hs⟩ | ⟨_, hs⟩
            · exact hs (rS_trans hh2 (D_115_s h3))
            · exact hs hh2
        · intro x y M' v N hs hh
          rcases hs with ⟨_, v3, M3, h3, hs⟩ | ⟨_, _, _, M1, e1, hs⟩
          · exact hs (rS_trans hh (D_115_s h3))
          · exact hs (by rw [e1]; exact rS_row hh (Or.inr rfl))
      · rw [hN]; exact rS_rfl
theorem D_118_s {p1 p2 v : Int32} {M N : pMem} (h : D_118 p1 p2 M v N) : rS M N := by
  obtain ⟨_, M1, h1, M2, e2, _, M3, h3, _, M4, h4, _, hN⟩ := h
  rw [hN]
  exact hold_get (hold_fr (by rw [e2]; exact hold_at (hold_put h1)) (F_105 h3) (by decide +kernel)) h4
theorem D_119_s {p1 p2 v : Int32} {M N : pMem} (h : D_119 p1 p2 M v N) : rS M N := by
  obtain ⟨M1, e1, h⟩ := h
  subst e1
  refine hold_0 (x := kI 0) ?_
  rcases h with ⟨_, _, hN⟩ | ⟨_, h⟩
  · rw [hN]; exact rS_rfl
  · rcases h with ⟨_, _, hN⟩ | ⟨_, v1, M2, h1, _, hN⟩
    · rw [hN]; exact rS_rfl
    · rw [hN]; exact D_118_s h1
theorem D_120_s {p1 v : Int32} {M N : pMem} (h : D_120 p1 M v N) : rS M N := by
  obtain ⟨M1, e1, h⟩ := h
  subst e1
  refine hold_0 (x := kI 0) ?_
  rcases h with ⟨_, v1, M2, h1, h⟩ | ⟨_, _, hN⟩
  · refine h (fun x y z M' v N => rS (aPut M 188 0 (kI 0)) M' → rS (aPut M 188 0 (kI 0)) N) ?_ (D_118_s h1)
    intro x y z M' v N hs hh
    rcases hs with ⟨_, _, hN⟩ | ⟨_, v2, M1, h2, hs⟩
    · rw [hN]; exact hh
    · have hh2 := rS_trans hh (D_118_s h2)
      rcases hs with ⟨_, hs⟩ | ⟨_, hs⟩
      · exact hs hh2
      · exact hs hh2
  · rw [hN]; exact rS_rfl
/-! the class's image: all that was told is copied -/
theorem cpy_at {s d : Nat → Int32} {n i : Nat} (h : i < n) : va_cpy s d (ix (kI 0)) (ix (kI 0)) n i = s i := by
  unfold va_cpy
  rw [show ix (kI 0) = 0 from rfl, if_pos (by omega), show 0 + (i - 0) = i by omega]
/-- fields, one by one -/
def cpF (w w2 n : Nat) (M0 M : pMem) : Prop := (∀ j, j < n → M w j = M0 w2 j) ∧ ∀ a, a ≠ w → M a = M0 a
theorem cpF_0 {w w2 : Nat} {M : pMem} : cpF w w2 0 M M := ⟨fun j h => absurd h (Nat.not_lt_zero j), fun _ _ => rfl⟩
theorem cpF_s {w w2 n : Nat} {M0 M M1 : pMem} (h : cpF w w2 n M0 M) (ne : w2 ≠ w) (e : M1 = aPut M w n (M w2 n)) : cpF w w2 (n + 1) M0 M1 := by
  refine ⟨fun j hj => ?_, fun a ha => ?_⟩
  · rw [e]
    by_cases q : j = n
    · rw [q, aPut_same, h.2 w2 ne]
    · rw [aPut_at q]
      exact h.1 j (by omega)
  · rw [e]
    funext j
    rw [aPut_cell ha, h.2 a ha]
/-- a row -/
theorem cpR {c c2 n : Nat} {k : Int32} {M M1 : pMem} (e : M1 = aRow M c (va_cpy (M c2) (M c) (ix (kI 0)) (ix (kI 0)) (ix k))) (hk : k.toInt = n) : (∀ i, i < n → M1 c i = M c2 i) ∧ ∀ a, a ≠ c → M1 a = M a := by
  refine ⟨fun i hi => ?_, fun a ha => ?_⟩
  · rw [e, aRow_same', ix_of hk]
    exact cpy_at hi
  · rw [e, aRow_cell ha]
theorem D_220_w {w w2 : Nat} (hne : w + 5 ≤ w2 ∨ w2 + 5 ≤ w) {M : pMem} {v : Unit} {N : pMem} (h : D_220 w w2 M v N) :
    (∀ j, j < 12 → N w j = M w2 j) ∧ (∀ i, i < 24 → N (w + 1) i = M (w2 + 1) i ∧ N (w + 2) i = M (w2 + 2) i) ∧ (∀ i, i < 576 → N (w + 3) i = M (w2 + 3) i) ∧ (∀ i, i < 18 → N (w + 4) i = M (w2 + 4) i) ∧ ∀ a, (a < w ∨ w + 5 ≤ a) → N a = M a := by
  obtain ⟨M1, e1, M2, e2, M3, e3, M4, e4, M5, e5, M6, e6, M7, e7, M8, e8, M9, e9, M10, e10, M11, e11, M12, e12, M13, e13, M14, e14, M15, e15, M16, e16, _, hN⟩ := h
  have ne : w2 ≠ w := by omega
  have c := cpF_s (cpF_s (cpF_s (cpF_s (cpF_s (cpF_s (cpF_s (cpF_s (cpF_s (cpF_s (cpF_s (cpF_s (cpF_0 (w := w) (w2 := w2) (M := M)) ne e1) ne e2) ne e3) ne e4) ne e5) ne e6) ne e7) ne e8) ne e9) ne e10) ne e11) ne e12
  obtain ⟨a1, a2⟩ := cpR e13 (n := 24) rfl
  obtain ⟨b1, b2⟩ := cpR e14 (n := 24) rfl
  obtain ⟨c1, c2⟩ := cpR e15 (n := 576) rfl
  obtain ⟨d1, d2⟩ := cpR e16 (n := 18) rfl
  rw [hN]
  refine ⟨fun j hj => ?_, fun i hi => ⟨?_, ?_⟩, fun i hi => ?_, fun i hi => ?_, fun a ha => ?_⟩
  · rw [d2 w (by omega), c2 w (by omega), b2 w (by omega), a2 w (by omega)]
    exact c.1 j hj
  · rw [d2 _ (by omega), c2 _ (by omega), b2 _ (by omega), a1 i hi, c.2 _ (by omega)]
  · rw [d2 _ (by omega), c2 _ (by omega), b1 i hi, a2 _ (by omega), c.2 _ (by omega)]
  · rw [d2 _ (by omega), c1 i hi, b2 _ (by omega), a2 _ (by omega), c.2 _ (by omega)]
  · rw [d1 i hi, c2 _ (by omega), b2 _ (by omega), a2 _ (by omega), c.2 _ (by omega)]
  · rw [d2 _ (by omega), c2 _ (by omega), b2 _ (by omega), a2 _ (by omega), c.2 _ (by omega)]
theorem D_153_w {l l2 : Nat} (hne : l + 7 ≤ l2 ∨ l2 + 7 ≤ l) {M : pMem} {v : Unit} {N : pMem} (h : D_153 l l2 M v N) :
    (∀ j, j < 2 → N l j = M l2 j) ∧ (∀ i, i < 16 → N (l + 1) i = M (l2 + 1) i ∧ N (l + 2) i = M (l2 + 2) i ∧ N (l + 3) i = M (l2 + 3) i ∧ N (l + 4) i = M (l2 + 4) i) ∧ (∀ i, i < 500 → N (l + 5) i = M (l2 + 5) i) ∧ ∀ a, (a < l ∨ l + 6 ≤ a) → N a = M a := by
  obtain ⟨M1, e1, M2, e2, M3, e3, M4, e4, M5, e5, M6, e6, M7, e7, _, hN⟩ := h
  have ne : l2 ≠ l := by omega
  have c := cpF_s (cpF_s (cpF_0 (w := l) (w2 := l2) (M := M)) ne e1) ne e2
  obtain ⟨a1, a2⟩ := cpR e3 (n := 16) rfl
  obtain ⟨b1, b2⟩ := cpR e4 (n := 16) rfl
  obtain ⟨c1, c2⟩ := cpR e5 (n := 16) rfl
  obtain ⟨d1, d2⟩ := cpR e6 (n := 16) rfl
  obtain ⟨f1, f2⟩ := cpR e7 (n := 500) rfl
  rw [hN]
  refine ⟨fun j hj => ?_, fun i hi => ⟨?_, ?_, ?_, ?_⟩, fun i hi => ?_, fun a ha => ?_⟩
  · rw [f2 _ (by omega), d2 _ (by omega), c2 _ (by omega), b2 _ (by omega), a2 _ (by omega)]
    exact c.1 j hj
  · rw [f2 _ (by omega), d2 _ (by omega), c2 _ (by omega), b2 _ (by omega), a1 i hi, c.2 _ (by omega)]
  · rw [f2 _ (by omega), d2 _ (by omega), c2 _ (by omega), b1 i hi, a2 _ (by omega), c.2 _ (by omega)]
  · rw [f2 _ (by omega), d2 _ (by omega), c1 i hi, b2 _ (by omega), a2 _ (by omega), c.2 _ (by omega)]
  · rw [f2 _ (by omega), d1 i hi, c2 _ (by omega), b2 _ (by omega), a2 _ (by omega), c.2 _ (by omega)]
  · rw [f1 i hi, d2 _ (by omega), c2 _ (by omega), b2 _ (by omega), a2 _ (by omega), c.2 _ (by omega)]
  · rw [f2 _ (by omega), d2 _ (by omega), c2 _ (by omega), b2 _ (by omega), a2 _ (by omega), c.2 _ (by omega)]
theorem D_161_c {l l2 : Nat} (hne : l + 4 ≤ l2 ∨ l2 + 4 ≤ l) {M : pMem} {v : Unit} {N : pMem} (h : D_161 l l2 M v N) :
    N l 0 = M l2 0 ∧ (∀ i, i < 24 → N (l + 1) i = M (l2 + 1) i ∧ N (l + 2) i = M (l2 + 2) i ∧ N (l + 3) i = M (l2 + 3) i) ∧ ∀ a, (a < l ∨ l + 4 ≤ a) → N a = M a := by
  obtain ⟨M1, e1, M2, e2, M3, e3, M4, e4, _, hN⟩ := h
  have ne : l2 ≠ l := by omega
  have c := cpF_s (cpF_0 (w := l) (w2 := l2) (M := M)) ne e1
  obtain ⟨a1, a2⟩ := cpR e2 (n := 24) rfl
  obtain ⟨b1, b2⟩ := cpR e3 (n := 24) rfl
  obtain ⟨c1, c2⟩ := cpR e4 (n := 24) rfl
  rw [hN]
  refine ⟨?_, fun i hi => ⟨?_, ?_, ?_⟩, fun a ha => ?_⟩
  · rw [c2 _ (by omega), b2 _ (by omega), a2 _ (by omega)]
    exact c.1 0 (by omega)
  · rw [c2 _ (by omega), b2 _ (by omega), a1 i hi, c.2 _ (by omega)]
  · rw [c2 _ (by omega), b1 i hi, a2 _ (by omega), c.2 _ (by omega)]
  · rw [c1 i hi, b2 _ (by omega), a2 _ (by omega), c.2 _ (by omega)]
  · rw [c2 _ (by omega), b2 _ (by omega), a2 _ (by omega), c.2 _ (by omega)]
/-- all that was told: of the cells at s stands at d what stood there -/
def cpT (d s : Nat) (M N : pMem) : Prop :=
  (∀ j, j < 12 → N (d + 1) j = M (s + 1) j) ∧ (∀ i, i < 24 → N (d + 2) i = M (s + 2) i ∧ N (d + 3) i = M (s + 3) i) ∧ (∀ i, i < 576 → N (d + 4) i = M (s + 4) i) ∧ (∀ i, i < 18 → N (d + 5) i = M (s + 5) i) ∧
  (∀ k, k < 4 → (∀ j, j < 2 → N (d + 12 + 11 * k) j = M (s + 12 + 11 * k) j) ∧ (∀ i, i < 16 → N (d + 13 + 11 * k) i = M (s + 13 + 11 * k) i ∧ N (d + 14 + 11 * k) i = M (s + 14 + 11 * k) i ∧ N (d + 15 + 11 * k) i = M (s + 15 + 11 * k) i ∧ N (d + 16 + 11 * k) i = M (s + 16 + 11 * k) i) ∧ (∀ i, i < 500 → N (d + 17 + 11 * k) i = M (s + 17 + 11 * k) i) ∧
    N (d + 19 + 11 * k) 0 = M (s + 19 + 11 * k) 0 ∧ (∀ i, i < 24 → N (d + 20 + 11 * k) i = M (s + 20 + 11 * k) i ∧ N (d + 21 + 11 * k) i = M (s + 21 + 11 * k) i ∧ N (d + 22 + 11 * k) i = M (s + 22 + 11 * k) i)) ∧
  (∀ i, i < 480 → N (d + 8) i = M (s + 8) i) ∧ (∀ i, i < 5 → N (d + 9) i = M (s + 9) i) ∧ (∀ i, i < 24 → N (d + 10) i = M (s + 10) i ∧ N (d + 11) i = M (s + 11) i) ∧ N d 7 = M s 7 ∧ N d 8 = M s 8 ∧
  ∀ a, (a < d ∨ d + 56 ≤ a) → N a = M a
/-- the state at the loop's head -/
def cpK (d s k : Nat) (M0 M : pMem) : Prop :=
  (∀ j, j < 12 → M (d + 1) j = M0 (s + 1) j) ∧ (∀ i, i < 24 → M (d + 2) i = M0 (s + 2) i ∧ M (d + 3) i = M0 (s + 3) i) ∧ (∀ i, i < 576 → M (d + 4) i = M0 (s + 4) i) ∧ (∀ i, i < 18 → M (d + 5) i = M0 (s + 5) i) ∧
  (∀ q, q < k → (∀ j, j < 2 → M (d + 12 + 11 * q) j = M0 (s + 12 + 11 * q) j) ∧ (∀ i, i < 16 → M (d + 13 + 11 * q) i = M0 (s + 13 + 11 * q) i ∧ M (d + 14 + 11 * q) i = M0 (s + 14 + 11 * q) i ∧ M (d + 15 + 11 * q) i = M0 (s + 15 + 11 * q) i ∧ M (d + 16 + 11 * q) i = M0 (s + 16 + 11 * q) i) ∧ (∀ i, i < 500 → M (d + 17 + 11 * q) i = M0 (s + 17 + 11 * q) i) ∧
    M (d + 19 + 11 * q) 0 = M0 (s + 19 + 11 * q) 0 ∧ (∀ i, i < 24 → M (d + 20 + 11 * q) i = M0 (s + 20 + 11 * q) i ∧ M (d + 21 + 11 * q) i = M0 (s + 21 + 11 * q) i ∧ M (d + 22 + 11 * q) i = M0 (s + 22 + 11 * q) i)) ∧
  ∀ a, (a < d + 1 ∨ d + 56 ≤ a) → M a = M0 a
theorem cpK_s {d s k : Nat} (hne : d + 56 ≤ s ∨ s + 56 ≤ d) (hk : k < 4) {M0 M M1 M2 : pMem} {u1 u2 : Unit} (h : cpK d s k M0 M) (h1 : D_153 (d + 12 + 11 * k) (s + 12 + 11 * k) M u1 M1) (h2 : D_161 (d + 19 + 11 * k) (s + 19 + 11 * k) M1 u2 M2) : cpK d s (k + 1) M0 M2 := by
  obtain ⟨a1, a2, a3, a4, a5, a6⟩ := h
  obtain ⟨b1, b2, b3, b4⟩ := D_153_w (by omega) h1
  obtain ⟨c1, c2, c3⟩ := D_161_c (by omega) h2
  have e : ∀ a, (a < d + 12 + 11 * k ∨ (d + 18 + 11 * k ≤ a ∧ a < d + 19 + 11 * k) ∨ d + 23 + 11 * k ≤ a) → M2 a = M a := fun a ha => by rw [c3 a (by omega), b4 a (by omega)]
  have s0 : ∀ a, (s ≤ a ∧ a < s + 56) → M a = M0 a := fun a ha => a6 a (by omega)
  refine ⟨fun j hj => ?_, fun i hi => ?_, fun i hi => ?_, fun i hi => ?_, fun q hq => ?_, fun a ha => ?_⟩
  · rw [e _ (by omega)]; exact a1 j hj
  · rw [e _ (by omega), e _ (by omega)]; exact a2 i hi
  · rw [e _ (by omega)]; exact a3 i hi
  · rw [e _ (by omega)]; exact a4 i hi
  · by_cases qk : q = k
    · subst qk
      refine ⟨fun j hj => ?_, fun i hi => ⟨?_, ?_, ?_, ?_⟩, fun i hi => ?_, ?_, fun i hi => ⟨?_, ?_, ?_⟩⟩
      · rw [c3 _ (by omega), b1 j hj, s0 _ (by omega)]
      · rw [c3 _ (by omega), show d + 13 + 11 * q = d + 12 + 11 * q + 1 by omega, (b2 i hi).1, s0 _ (by omega), show s + 12 + 11 * q + 1 = s + 13 + 11 * q by omega]
      · rw [c3 _ (by omega), show d + 14 + 11 * q = d + 12 + 11 * q + 2 by omega, (b2 i hi).2.1, s0 _ (by omega), show s + 12 + 11 * q + 2 = s + 14 + 11 * q by omega]
      · rw [c3 _ (by omega), show d + 15 + 11 * q = d + 12 + 11 * q + 3 by omega, (b2 i hi).2.2.1, s0 _ (by omega), show s + 12 + 11 * q + 3 = s + 15 + 11 * q by omega]
      · rw [c3 _ (by omega), show d + 16 + 11 * q = d + 12 + 11 * q + 4 by omega, (b2 i hi).2.2.2, s0 _ (by omega), show s + 12 + 11 * q + 4 = s + 16 + 11 * q by omega]
      · rw [c3 _ (by omega), show d + 17 + 11 * q = d + 12 + 11 * q + 5 by omega, b3 i hi, s0 _ (by omega), show s + 12 + 11 * q + 5 = s + 17 + 11 * q by omega]
      · rw [c1, b4 _ (by omega), s0 _ (by omega)]
      · rw [show d + 20 + 11 * q = d + 19 + 11 * q + 1 by omega, (c2 i hi).1, b4 _ (by omega), s0 _ (by omega), show s + 19 + 11 * q + 1 = s + 20 + 11 * q by omega]
      · rw [show d + 21 + 11 * q = d + 19 + 11 * q + 2 by omega, (c2 i hi).2.1, b4 _ (by omega), s0 _ (by omega), show s + 19 + 11 * q + 2 = s + 21 + 11 * q by omega]
      · rw [show d + 22 + 11 * q = d + 19 + 11 * q + 3 by omega, (c2 i hi).2.2, b4 _ (by omega), s0 _ (by omega), show s + 19 + 11 * q + 3 = s + 22 + 11 * q by omega]
    · have l : q < k := by omega
      obtain ⟨t1, t2, t3, t4, t5⟩ := a5 q l
      refine ⟨fun j hj => ?_, fun i hi => ?_, fun i hi => ?_, ?_, fun i hi => ?_⟩
      · rw [e _ (by omega)]; exact t1 j hj
      · rw [e _ (by omega), e _ (by omega), e _ (by omega), e _ (by omega)]; exact t2 i hi
      · rw [e _ (by omega)]; exact t3 i hi
      · rw [e _ (by omega)]; exact t4
      · rw [e _ (by omega), e _ (by omega), e _ (by omega)]; exact t5 i hi
  · rw [e _ (by omega)]; exact a6 a ha
theorem cpK_0 {d s : Nat} (hne : d + 56 ≤ s ∨ s + 56 ≤ d) {M M1 : pMem} {u : Unit} (h : D_220 (d + 1) (s + 1) M u M1) : cpK d s 0 M M1 := by
  obtain ⟨a1, a2, a3, a4, a5⟩ := D_220_w (by omega) h
  exact ⟨a1, a2, a3, a4, fun q hq => absurd hq (Nat.not_lt_zero q), fun a ha => a5 a (by omega)⟩
theorem cpT_of {d s : Nat} (hne : d + 56 ≤ s ∨ s + 56 ≤ d) {M0 M M1 M2 M3 M4 M5 M6 : pMem} (h : cpK d s 4 M0 M) (e1 : M1 = aRow M (d + 8) (va_cpy (M (s + 8)) (M (d + 8)) (ix (kI 0)) (ix (kI 0)) (ix (kI 480)))) (e2 : M2 = aRow M1 (d + 9) (va_cpy (M1 (s + 9)) (M1 (d + 9)) (ix (kI 0)) (ix (kI 0)) (ix (kI 5))))
    (e3 : M3 = aRow M2 (d + 10) (va_cpy (M2 (s + 10)) (M2 (d + 10)) (ix (kI 0)) (ix (kI 0)) (ix (kI 24)))) (e4 : M4 = aRow M3 (d + 11) (va_cpy (M3 (s + 11)) (M3 (d + 11)) (ix (kI 0)) (ix (kI 0)) (ix (kI 24)))) (e5 : M5 = aPut M4 d 7 (M4 s 7)) (e6 : M6 = aPut M5 d 8 (M5 s 8)) : cpT d s M0 M6 := by
  obtain ⟨a1, a2, a3, a4, a5, a6⟩ := h
  obtain ⟨b1, b2⟩ := cpR e1 (n := 480) rfl
  obtain ⟨c1, c2⟩ := cpR e2 (n := 5) rfl
  obtain ⟨f1, f2⟩ := cpR e3 (n := 24) rfl
  obtain ⟨g1, g2⟩ := cpR e4 (n := 24) rfl
  have h5 : ∀ a, a ≠ d → M6 a = M4 a := fun a ha => by
    funext j
    rw [e6, aPut_cell ha, e5, aPut_cell ha]
  have h4 : ∀ a, (a < d ∨ (d < a ∧ a < d + 8) ∨ d + 12 ≤ a) → M6 a = M a := fun a ha => by rw [h5 a (by omega), g2 a (by omega), f2 a (by omega), c2 a (by omega), b2 a (by omega)]
  refine ⟨fun j hj => ?_, fun i hi => ?_, fun i hi => ?_, fun i hi => ?_, fun q hq => ?_, fun i hi => ?_, fun i hi => ?_, fun i hi => ⟨?_, ?_⟩, ?_, ?_, fun a ha => ?_⟩
  · rw [h4 _ (by omega)]; exact a1 j hj
  · rw [h4 _ (by omega), h4 _ (by omega)]; exact a2 i hi
  · rw [h4 _ (by omega)]; exact a3 i hi
  · rw [h4 _ (by omega)]; exact a4 i hi
  · obtain ⟨t1, t2, t3, t4, t5⟩ := a5 q hq
    refine ⟨fun j hj => ?_, fun i hi => ?_, fun i hi => ?_, ?_, fun i hi => ?_⟩
    · rw [h4 _ (by omega)]; exact t1 j hj
    · rw [h4 _ (by omega), h4 _ (by omega), h4 _ (by omega), h4 _ (by omega)]; exact t2 i hi
    · rw [h4 _ (by omega)]; exact t3 i hi
    · rw [h4 _ (by omega)]; exact t4
    · rw [h4 _ (by omega), h4 _ (by omega), h4 _ (by omega)]; exact t5 i hi
  · rw [h5 _ (by omega), g2 _ (by omega), f2 _ (by omega), c2 _ (by omega), b1 i hi, a6 _ (by omega)]
  · rw [h5 _ (by omega), g2 _ (by omega), f2 _ (by omega), c1 i hi, b2 _ (by omega), a6 _ (by omega)]
  · rw [h5 _ (by omega), g2 _ (by omega), f1 i hi, c2 _ (by omega), b2 _ (by omega), a6 _ (by omega)]
  · rw [h5 _ (by omega), g1 i hi, f2 _ (by omega), c2 _ (by omega), b2 _ (by omega), a6 _ (by omega)]
  · rw [e6, aPut_at (by decide), e5, aPut_same, g2 _ (by omega), f2 _ (by omega), c2 _ (by omega), b2 _ (by omega), a6 _ (by omega)]
  · rw [e6, aPut_same, e5, aPut_cell (by omega), g2 _ (by omega), f2 _ (by omega), c2 _ (by omega), b2 _ (by omega), a6 _ (by omega)]
  · rw [h4 _ (by omega)]; exact a6 a (by omega)
theorem D_216t_w {M : pMem} {v : Unit} {N : pMem} (h : D_216t M v N) : cpT 74 18 M N := by
  obtain ⟨_, M1, h1, h⟩ := h
  refine h (fun x M' v N => ∀ k : Nat, x.toInt = k → k ≤ 4 → cpK 74 18 k M M' → cpT 74 18 M N) ?_ 0 rfl (by omega) (cpK_0 (by omega) h1)
  intro x M' v N hs k hx hk hc
  rcases hs with ⟨g, M1, e1, M2, e2, M3, e3, M4, e4, M5, e5, M6, e6, _, hN⟩ | ⟨g, _, _, u1, M1, h1, _, _, u2, M2, h2, hs⟩
  · rw [i_le, hx, kI_toInt (by decide) (by decide)] at g
    rw [show k = 4 by omega] at hc
    rw [hN]
    exact cpT_of (by omega) hc e1 e2 e3 e4 e5 e6
  · rw [i_le, hx, kI_toInt (by decide) (by decide)] at g
    rw [ix_of hx] at h1 h2
    exact hs (k + 1) (by rw [i_add1 (by omega)]; omega) (by omega) (cpK_s (by omega) (by omega) hc h1 h2)
theorem D_216b_w {M : pMem} {v : Unit} {N : pMem} (h : D_216b M v N) : cpT 18 74 M N := by
  obtain ⟨_, M1, h1, h⟩ := h
  refine h (fun x M' v N => ∀ k : Nat, x.toInt = k → k ≤ 4 → cpK 18 74 k M M' → cpT 18 74 M N) ?_ 0 rfl (by omega) (cpK_0 (by omega) h1)
  intro x M' v N hs k hx hk hc
  rcases hs with ⟨g, M1, e1, M2, e2, M3, e3, M4, e4, M5, e5, M6, e6, _, hN⟩ | ⟨g, _, _, u1, M1, h1, _, _, u2, M2, h2, hs⟩
  · rw [i_le, hx, kI_toInt (by decide) (by decide)] at g
    rw [show k = 4 by omega] at hc
    rw [hN]
    exact cpT_of (by omega) hc e1 e2 e3 e4 e5 e6
  · rw [i_le, hx, kI_toInt (by decide) (by decide)] at g
    rw [ix_of hx] at h1 h2
    exact hs (k + 1) (by rw [i_add1 (by omega)]; omega) (by omega) (cpK_s (by omega) (by omega) hc h1 h2)
/-! what is read hangs on the tape's bytes alone -/
section CG
variable {B B' : Nat → Int32} {n : Nat}
theorem xRun_cg (h : ∀ i, i < n → B i = B' i) {f : Int32 → Bool} : ∀ {k p : Nat}, xRun f B n k p = xRun f B' n k p
  | 0, _ => rfl
  | k + 1, p => by
    show (if p < n ∧ f (B p) = true then xRun f B n k (p + 1) else p) = (if p < n ∧ f (B' p) = true then xRun f B' n k (p + 1) else p)
    by_cases q : p < n
    · rw [h p q, xRun_cg h]
    · rw [if_neg (fun e => q e.1), if_neg (fun e => q e.1)]
theorem xEnd_cg (h : ∀ i, i < n → B i = B' i) {f : Int32 → Bool} {p : Nat} : xEnd f B n p = xEnd f B' n p := xRun_cg h
theorem wM_cg (h : ∀ i, i < n → B i = B' i) {p e j : Nat} (he : e ≤ n) : wM B p e j ↔ wM B' p e j := by
  constructor
  · rintro ⟨h1, h2⟩
    exact ⟨h1, fun q hq => by rw [← h (p + q) (by omega)]; exact h2 q hq⟩
  · rintro ⟨h1, h2⟩
    exact ⟨h1, fun q hq => by rw [h (p + q) (by omega)]; exact h2 q hq⟩
theorem xWd_cg (h : ∀ i, i < n → B i = B' i) {p e : Nat} (he : e ≤ n) : xWd B p e = xWd B' p e := by
  have : wB B p e = wB B' p e := by
    funext j
    rw [Bool.eq_iff_iff, wB_t, wB_t]
    exact wM_cg h he
  unfold xWd
  rw [this]
theorem xV_cg (h : ∀ i, i < n → B i = B' i) {p : Nat} : ∀ {k : Nat}, p + k ≤ n → xV B p k = xV B' p k
  | 0, _ => rfl
  | k + 1, hk => by
    show xV B p k * kI 10 + B (p + k) - kI 48 = xV B' p k * kI 10 + B' (p + k) - kI 48
    rw [xV_cg h (by omega), h (p + k) (by omega)]
theorem xNx_cg (h : ∀ i, i < n → B i = B' i) {p : Nat} (hp : p < n) : xNx B n p = xNx B' n p := by
  unfold xNx
  rw [h p hp, xEnd_cg h, xEnd_cg h]
theorem xTk_cg (h : ∀ i, i < n → B i = B' i) {p : Nat} (hp : p < n) : xTk B n p = xTk B' n p := by
  have a := (xEnd_le (f := xLt) (B := B') (n := n) (p := p + 1) rfl).2 (by omega)
  unfold xTk
  rw [h p hp, xEnd_cg h, xEnd_cg h, xWd_cg h a]
theorem xVl_cg (h : ∀ i, i < n → B i = B' i) {p : Nat} (hp : p < n) : xVl B n p = xVl B' n p := by
  have a := xEnd_le (f := xDg) (B := B') (n := n) (p := p + 1) rfl
  have a2 := a.2 (by omega)
  unfold xVl
  rw [h p hp, xEnd_cg h, xV_cg h (by omega)]
theorem xSt_cg (h : ∀ i, i < n → B i = B' i) : ∀ {k : Nat}, xSt B n k = xSt B' n k
  | 0 => xEnd_cg h
  | k + 1 => by
    show (if xSt B n k < n then xSk B n (xNx B n (xSt B n k)) else n) = (if xSt B' n k < n then xSk B' n (xNx B' n (xSt B' n k)) else n)
    rw [xSt_cg h]
    by_cases q : xSt B' n k < n
    · rw [if_pos q, if_pos q, xNx_cg h q]
      exact xEnd_cg h
    · rw [if_neg q, if_neg q]
theorem yT_cg (h : ∀ i, i < n → B i = B' i) : yT B n = yT B' n := by
  funext k
  unfold yT
  rw [xSt_cg h]
  by_cases q : xSt B' n k < n
  · rw [if_pos q, if_pos q, xTk_cg h q]
  · rw [if_neg q, if_neg q]
theorem yV_cg (h : ∀ i, i < n → B i = B' i) : yV B n = yV B' n := by
  funext k
  unfold yV
  rw [xSt_cg h]
  by_cases q : xSt B' n k < n
  · rw [if_pos q, if_pos q, xVl_cg h q]
  · rw [if_neg q, if_neg q]
end CG
/-! four bytes of a number -/
def byC (p : Int32) (q : Nat) : Int32 := pUsr p (kI (24 - 8 * (q : Int))) &&& kI 255
def byR (p : Int32) (q : Nat) : Int32 := (p >>> (kI (24 - 8 * (q : Int)) &&& 31)) &&& kI 255
theorem sh_eq (x : BitVec 32) (s : Nat) (hs : s ≤ 24) : x.ushiftRight s &&& 255#32 = x.sshiftRight s &&& 255#32 := by
  apply BitVec.eq_of_getLsbD_eq
  intro i hi
  rw [BitVec.getLsbD_and, BitVec.getLsbD_and]
  by_cases h : i < 8
  · have e : (x.ushiftRight s).getLsbD i = x.getLsbD (s + i) := BitVec.getLsbD_ushiftRight ..
    rw [e, BitVec.getLsbD_sshiftRight, if_pos (by omega), show decide (32 ≤ i) = false from decide_eq_false (by omega)]
    rfl
  · have c : ∀ i, i < 32 → ¬ i < 8 → (255#32).getLsbD i = false := by decide
    rw [c i hi h, Bool.and_false, Bool.and_false]
theorem by_eq {p : Int32} {q : Nat} (hq : q < 4) : byC p q = byR p q := by
  have h : q = 0 ∨ q = 1 ∨ q = 2 ∨ q = 3 := by omega
  apply Int32.toBitVec_inj.mp
  rcases h with rfl | rfl | rfl | rfl
  · exact sh_eq p.toBitVec 24 (by decide)
  · exact sh_eq p.toBitVec 16 (by decide)
  · exact sh_eq p.toBitVec 8 (by decide)
  · exact sh_eq p.toBitVec 0 (by decide)
theorem by_rg {p : Int32} {q : Nat} : 0 ≤ (byR p q).toInt := by
  unfold byR
  generalize p >>> (kI (24 - 8 * (q : Int)) &&& 31) = y
  have h : (y &&& kI 255).toBitVec.toNat ≤ 255 := by
    show (y.toBitVec &&& 255#32).toNat ≤ 255
    rw [BitVec.toNat_and]
    exact Nat.and_le_right
  show 0 ≤ (y &&& kI 255).toBitVec.toInt
  rw [BitVec.toInt_eq_toNat_of_lt (by omega)]
  omega
/-- what is fed -/
def fd (W W' : Nat → Int32) (n : Nat) (b : Nat → Int32) : Prop := ∀ i, W' i = if n ≤ i ∧ i < n + 4 then b (i - n) else W i
theorem D_194_w {p : Int32} {M0 : pMem} {n : Nat} (hn : n ≤ 496) (h0 : (M0 1 0).toInt = n) {v : Unit} {N : pMem} (h : D_194 p M0 v N) : (N 1 0).toInt = ((n + 4 : Nat) : Int) ∧ fd (M0 2) (N 2) n (byC p) := by
  refine h (fun x M v N => ∀ q : Nat, x = kI (24 - 8 * (q : Int)) → q ≤ 4 → (M 1 0).toInt = ((n + q : Nat) : Int) → (∀ i, M 2 i = if n ≤ i ∧ i < n + q then byC p (i - n) else M0 2 i) → (N 1 0).toInt = ((n + 4 : Nat) : Int) ∧ fd (M0 2) (N 2) n (byC p)) ?_ 0 rfl (by omega) h0 (fun i => by rw [if_neg (by omega)])
  intro x M v N hs q hx hq hl hb
  have xt : x.toInt = 24 - 8 * (q : Int) := by rw [hx, kI_toInt (by omega) (by omega)]
  rcases hs with ⟨g, _, hN⟩ | ⟨g, hs⟩
  · rw [i_lt, xt, i_0] at g
    rw [hN]
    rw [show q = 4 by omega] at hl hb
    exact ⟨hl, hb⟩
  · rw [i_lt, xt, i_0] at g
    have hs := tIf_n (show ¬ M 1 0 < 0 by rw [i_lt, hl, i_0]; omega) hs
    have hs := tIf_n (show ¬ kI 500 ≤ M 1 0 by rw [i_le, hl, kI_toInt (by decide) (by decide)]; omega) hs
    obtain ⟨_, M1, e1, M2, e2, hs⟩ := hs
    rw [ix_of hl] at e1
    have t1 : M1 1 0 = M 1 0 := by rw [e1, aPut_cell (by decide)]
    refine hs (q + 1) ?_ (by omega) ?_ (fun i => ?_)
    · rw [hx, i_eq, i_add (by rw [kI_toInt (by omega) (by omega), kI_toInt (by decide) (by decide)]; omega) (by rw [kI_toInt (by omega) (by omega), kI_toInt (by decide) (by decide)]; omega), kI_toInt (by omega) (by omega), kI_toInt (by decide) (by decide), kI_toInt (by omega) (by omega)]
      omega
    · rw [e2, aPut_same, t1, i_add1 (by omega), hl]
      omega
    · rw [e2, aPut_cell (by decide), e1, aPut_row]
      by_cases c : i = n + q
      · rw [if_pos c, if_pos (by omega), hx, c, show n + q - n = q by omega]
        rfl
      · rw [if_neg c, hb i]
        by_cases d : n ≤ i ∧ i < n + q
        · rw [if_pos d, if_pos (by omega)]
        · rw [if_neg d, if_neg (by omega)]
theorem D_57_w {p : Int32} {M0 : pMem} {n : Nat} (hn : n ≤ 496) (h0 : (M0 188 24).toInt = n) {v : Unit} {N : pMem} (h : D_57 p M0 v N) : (N 188 24).toInt = ((n + 4 : Nat) : Int) ∧ fd (M0 202) (N 202) n (byR p) := by
  refine h (fun x M v N => ∀ q : Nat, x = kI (24 - 8 * (q : Int)) → q ≤ 4 → (M 188 24).toInt = ((n + q : Nat) : Int) → (∀ i, M 202 i = if n ≤ i ∧ i < n + q then byR p (i - n) else M0 202 i) → (N 188 24).toInt = ((n + 4 : Nat) : Int) ∧ fd (M0 202) (N 202) n (byR p)) ?_ 0 rfl (by omega) h0 (fun i => by rw [if_neg (by omega)])
  intro x M v N hs q hx hq hl hb
  have xt : x.toInt = 24 - 8 * (q : Int) := by rw [hx, kI_toInt (by omega) (by omega)]
  rcases hs with ⟨g, _, hN⟩ | ⟨g, _, M1, e1, M2, e2, hs⟩
  · rw [i_lt, xt, i_0] at g
    rw [hN]
    rw [show q = 4 by omega] at hl hb
    exact ⟨hl, hb⟩
  · rw [i_lt, xt, i_0] at g
    rw [ix_of hl] at e1
    have t1 : M1 188 24 = M 188 24 := by rw [e1, aPut_cell (by decide)]
    refine hs (q + 1) ?_ (by omega) ?_ (fun i => ?_)
    · rw [hx, i_eq, i_add (by rw [kI_toInt (by omega) (by omega), kI_toInt (by decide) (by decide)]; omega) (by rw [kI_toInt (by omega) (by omega), kI_toInt (by decide) (by decide)]; omega), kI_toInt (by omega) (by omega), kI_toInt (by decide) (by decide), kI_toInt (by omega) (by omega)]
      omega
    · rw [e2, aPut_same, t1, i_add1 (by omega), hl]
      omega
    · rw [e2, aPut_cell (by decide), e1, aPut_row]
      by_cases c : i = n + q
      · rw [if_pos c, if_pos (by omega), hx, c, show n + q - n = q by omega]
        rfl
      · rw [if_neg c, hb i]
        by_cases d : n ≤ i ∧ i < n + q
        · rw [if_pos d, if_pos (by omega)]
        · rw [if_neg d, if_neg (by omega)]
/-- both are fed alike -/
theorem fd_both {C C' R R' : Nat → Int32} {n : Nat} {p : Int32} (hn : n ≤ 496) (h1 : fd C C' n (byC p)) (h2 : fd R R' n (byR p)) (e : ∀ i, i < 500 → C i = R i) (z : ∀ i, i < 500 → 0 ≤ (R i).toInt) : (∀ i, i < 500 → C' i = R' i) ∧ ∀ i, i < 500 → 0 ≤ (R' i).toInt := by
  refine ⟨fun i hi => ?_, fun i hi => ?_⟩
  · rw [h1 i, h2 i]
    by_cases c : n ≤ i ∧ i < n + 4
    · rw [if_pos c, if_pos c]
      exact by_eq (by omega)
    · rw [if_neg c, if_neg c]
      exact e i hi
  · rw [h2 i]
    by_cases c : n ≤ i ∧ i < n + 4
    · rw [if_pos c]
      exact by_rg
    · rw [if_neg c]
      exact z i hi
theorem op_feed {p1 p2 p3 p4 p5 v u : Int32} {M M1 M2 : pMem} (h : rA M) (h1 : D_5 p1 p2 p3 p4 p5 M v M1) (h2 : D_58 p1 p2 p3 p4 p5 M1 u M2) : v = u ∧ rA M2 := by
  have f1 := F_5 h1
  have f2 := F_58 h2
  obtain ⟨ht, hr⟩ := h
  obtain ⟨t1, t2, t3, t4, t5, t6⟩ := ht
  have k1 : (kNow l_5 && (kImg l_5 && (kTk l_5 && (kPn l_5 && kPi l_5)))) = true := by decide +kernel
  have k2 : (kNow l_58 && (kImg l_58 && (kTk l_58 && (kPn l_58 && kPi l_58)))) = true := by decide +kernel
  simp only [Bool.and_eq_true] at k1 k2
  have rest : rNow M2 ∧ rImg M2 ∧ rTk M2 ∧ rPn M2 ∧ rPi M2 := ⟨rNow_fr f2 k2.1 (rNow_fr f1 k1.1 hr.1), rImg_fr f2 k2.2.1 (rImg_fr f1 k1.2.1 hr.2.1), rTk_fr f2 k2.2.2.1 (rTk_fr f1 k1.2.2.1 hr.2.2.1), rPn_fr f2 k2.2.2.2.1 (rPn_fr f1 k1.2.2.2.1 hr.2.2.2.1), rPi_fr f2 k2.2.2.2.2 (rPi_fr f1 k1.2.2.2.2 hr.2.2.2.2)⟩
  have w203 : xWs (M2 203) := fun j hj => by rw [f2 203 j (by decide) rfl (by simp only [l_58, pOut_cons, pOut_nil, true_or, and_true]; omega), f1 203 j (by decide) rfl (by simp only [l_5, pOut_cons, pOut_nil, true_or, and_true]; omega)]; exact t6 j hj
  have m24 : M1 188 24 = M 188 24 := f1 188 24 (by decide) rfl (by simp only [l_5, pOut_cons, pOut_nil, true_or, and_true]; omega)
  have m202 : ∀ i, M1 202 i = M 202 i := fun i => f1 202 i (by decide) rfl (by simp only [l_5, pOut_cons, pOut_nil, true_or, and_true]; omega)
  have n1 : M2 1 0 = M1 1 0 := f2 1 0 (by decide) rfl (by simp only [l_58, pOut_cons, pOut_nil, true_or, and_true]; omega)
  have n2 : ∀ i, M2 2 i = M1 2 i := fun i => f2 2 i (by decide) rfl (by simp only [l_58, pOut_cons, pOut_nil, true_or, and_true]; omega)
  obtain ⟨Ma, ea, h2⟩ := h2
  have a24 : Ma 188 24 = M 188 24 := by rw [ea, aPut_at (by decide)]; exact m24
  have a202 : ∀ i, Ma 202 i = M 202 i := fun i => by rw [ea, aPut_cell (by decide)]; exact m202 i
  obtain ⟨n, hn⟩ : ∃ n : Nat, (M 1 0).toInt = n := ⟨(M 1 0).toInt.toNat, by omega⟩
  have c1 : (M 1 0 + kI 20 ≤ kI 500) ↔ n ≤ 480 := by
    rw [i_le, i_add (by rw [kI_toInt (by decide) (by decide)]; omega) (by rw [kI_toInt (by decide) (by decide)]; omega), kI_toInt (by decide) (by decide), kI_toInt (by decide) (by decide), hn]
    omega
  have c2 : (Ma 188 24 ≤ kI 480) ↔ n ≤ 480 := by
    rw [i_le, a24, ← t1, hn, kI_toInt (by decide) (by decide)]
    omega
  by_cases hc : n ≤ 480
  · have h1 := tIf_p (c1.mpr hc) h1
    have h2 := tIf_p (c2.mpr hc) h2
    obtain ⟨_, A1, x1, _, A2, x2, _, A3, x3, _, A4, x4, _, A5, x5, hv, hM⟩ := h1
    obtain ⟨_, B1, y1, _, B2, y2, _, B3, y3, _, B4, y4, _, B5, y5, hu, hN⟩ := h2
    obtain ⟨l1, d1⟩ := D_194_w (n := n) (by omega) hn x1
    obtain ⟨l2, d2⟩ := D_194_w (n := n + 4) (by omega) l1 x2
    obtain ⟨l3, d3⟩ := D_194_w (n := n + 4 + 4) (by omega) l2 x3
    obtain ⟨l4, d4⟩ := D_194_w (n := n + 4 + 4 + 4) (by omega) l3 x4
    obtain ⟨l5, d5⟩ := D_194_w (n := n + 4 + 4 + 4 + 4) (by omega) l4 x5
    obtain ⟨k1, g1⟩ := D_57_w (n := n) (by omega) (by rw [a24, ← t1]; exact hn) y1
    obtain ⟨k2, g2⟩ := D_57_w (n := n + 4) (by omega) k1 y2
    obtain ⟨k3, g3⟩ := D_57_w (n := n + 4 + 4) (by omega) k2 y3
    obtain ⟨k4, g4⟩ := D_57_w (n := n + 4 + 4 + 4) (by omega) k3 y4
    obtain ⟨k5, g5⟩ := D_57_w (n := n + 4 + 4 + 4 + 4) (by omega) k4 y5
    obtain ⟨s1, z1⟩ := fd_both (by omega) d1 g1 (fun i hi => by rw [a202]; exact t2 i hi) (fun i hi => by rw [a202]; exact t5 i hi)
    obtain ⟨s2, z2⟩ := fd_both (by omega) d2 g2 s1 z1
    obtain ⟨s3, z3⟩ := fd_both (by omega) d3 g3 s2 z2
    obtain ⟨s4, z4⟩ := fd_both (by omega) d4 g4 s3 z3
    obtain ⟨s5, z5⟩ := fd_both (by omega) d5 g5 s4 z4
    have e5 : A5 1 0 = B5 188 24 := by rw [i_eq, l5, k5]
    refine ⟨by rw [hv, hu]; exact e5, ⟨?_, fun i hi => ?_, ?_, ?_, fun i hi => ?_, w203⟩, rest⟩
    · rw [n1, hM, hN]; exact e5
    · rw [n2, hM, hN]; exact s5 i hi
    · rw [n1, hM, l5]; omega
    · rw [n1, hM, l5]; omega
    · rw [hN]; exact z5 i hi
  · obtain ⟨hv, hM⟩ := tIf_n (fun q => hc (c1.mp q)) h1
    obtain ⟨hu, hN⟩ := tIf_n (fun q => hc (c2.mp q)) h2
    refine ⟨by rw [hv, hu], ⟨?_, fun i hi => ?_, ?_, ?_, fun i hi => ?_, w203⟩, rest⟩
    · rw [n1, hM, hN, a24]; exact t1
    · rw [n2, hM, hN, a202]; exact t2 i hi
    · rw [n1, hM]; exact t3
    · rw [n1, hM]; exact t4
    · rw [hN, a202]; exact t5 i hi
theorem op_end {p1 v u : Int32} {M M1 M2 : pMem} (h : rA M) (h1 : D_6 p1 M v M1) (h2 : D_59 p1 M1 u M2) : v = u ∧ rA M2 := by
  have f1 := F_6 h1
  have f2 := F_59 h2
  obtain ⟨ht, hr⟩ := h
  obtain ⟨t1, t2, t3, t4, t5, t6⟩ := ht
  have k1 : (kNow l_6 && (kImg l_6 && (kTk l_6 && (kPn l_6 && kPi l_6)))) = true := by decide +kernel
  have k2 : (kNow l_59 && (kImg l_59 && (kTk l_59 && (kPn l_59 && kPi l_59)))) = true := by decide +kernel
  simp only [Bool.and_eq_true] at k1 k2
  have rest : rNow M2 ∧ rImg M2 ∧ rTk M2 ∧ rPn M2 ∧ rPi M2 := ⟨rNow_fr f2 k2.1 (rNow_fr f1 k1.1 hr.1), rImg_fr f2 k2.2.1 (rImg_fr f1 k1.2.1 hr.2.1), rTk_fr f2 k2.2.2.1 (rTk_fr f1 k1.2.2.1 hr.2.2.1), rPn_fr f2 k2.2.2.2.1 (rPn_fr f1 k1.2.2.2.1 hr.2.2.2.1), rPi_fr f2 k2.2.2.2.2 (rPi_fr f1 k1.2.2.2.2 hr.2.2.2.2)⟩
  have o1 : ∀ a j, a < 230 → pScr a j = false → ¬ (a = 1 ∧ j = 0) → M1 a j = M a j := fun a j q1 q2 q3 => f1 a j q1 q2 (by simp only [l_6, pOut_cons, pOut_nil, true_or, and_true]; omega)
  have o2 : ∀ a j, a < 230 → pScr a j = false → ¬ (a = 188 ∧ j = 24) → M2 a j = M1 a j := fun a j q1 q2 q3 => f2 a j q1 q2 (by simp only [l_59, pOut_cons, pOut_nil, true_or, and_true]; omega)
  have b2 : ∀ i, M2 2 i = M 2 i := fun i => by rw [o2 2 i (by decide) rfl (by omega), o1 2 i (by decide) rfl (by omega)]
  have b202 : ∀ i, M2 202 i = M 202 i := fun i => by rw [o2 202 i (by decide) rfl (by omega), o1 202 i (by decide) rfl (by omega)]
  have b203 : ∀ i, M2 203 i = M 203 i := fun i => by rw [o2 203 i (by decide) rfl (by omega), o1 203 i (by decide) rfl (by omega)]
  have n1 : M2 1 0 = M1 1 0 := o2 1 0 (by decide) rfl (by omega)
  have m24 : M1 188 24 = M 188 24 := o1 188 24 (by decide) rfl (by omega)
  obtain ⟨Ma, ea, h2⟩ := h2
  have a24 : Ma 188 24 = M 188 24 := by rw [ea, aPut_at (by decide)]; exact m24
  have c2 : ¬ f_42 p1 (kI 0) (Ma 188 24) = 0 ↔ 0 ≤ p1.toInt ∧ p1.toInt ≤ (M 1 0).toInt := by
    rw [f_42_iff, i_le, i_le, kI0, a24, ← t1]
  have key : v = u ∧ M2 1 0 = M2 188 24 ∧ 0 ≤ (M2 1 0).toInt ∧ (M2 1 0).toInt ≤ 500 := by
    have no : ¬ (0 ≤ p1.toInt ∧ p1.toInt ≤ (M 1 0).toInt) → v = kI 0 → M1 = M → v = u ∧ M2 1 0 = M2 188 24 ∧ 0 ≤ (M2 1 0).toInt ∧ (M2 1 0).toInt ≤ 500 := by
      intro c hv hM
      obtain ⟨hu, hN⟩ := tIf_n (fun q => c (c2.mp q)) h2
      refine ⟨by rw [hv, hu], ?_, ?_, ?_⟩
      · rw [n1, hM, hN, a24]; exact t1
      · rw [n1, hM]; exact t3
      · rw [n1, hM]; exact t4
    rcases h1 with ⟨g, hv, hM⟩ | ⟨g, h1⟩
    · rw [i_lt, i_0] at g
      exact no (by omega) hv hM
    · rw [i_lt, i_0] at g
      rcases h1 with ⟨g2, Mb, eb, hv, hM⟩ | ⟨g2, hv, hM⟩
      · rw [i_le] at g2
        obtain ⟨Mc, ec, hu, hN⟩ := tIf_p (c2.mpr ⟨by omega, g2⟩) h2
        have x1 : M2 1 0 = p1 := by rw [n1, hM, eb, aPut_same]
        refine ⟨by rw [hv, hu], ?_, ?_, ?_⟩
        · rw [x1, hN, ec, aPut_same]
        · rw [x1]; omega
        · rw [x1]; omega
      · rw [i_le] at g2
        exact no (by omega) hv hM
  refine ⟨key.1, ⟨key.2.1, fun i hi => ?_, key.2.2.1, key.2.2.2, fun i hi => ?_, fun j hj => ?_⟩, rest⟩
  · rw [b2, b202]; exact t2 i hi
  · rw [b202]; exact t5 i hi
  · rw [b203]; exact t6 j hj
/-! texts -/
/-- of a text that is no plan -/
theorem D_7_else {p1 p2 v : Int32} {M N : pMem} (h : D_7 p1 p2 M v N) (c : ¬ (p1 = kI 1 ∧ 0 ≤ p2.toInt ∧ p2.toInt < 4)) : N 1 0 = kI 0 ∧ ∀ a j, a < 230 → pScr a j = false → (a = 0 ∨ a = 2 ∨ 18 ≤ a ∧ a < 30 ∨ (∃ k o, k < 4 ∧ o < 4 ∧ a = 37 + 11 * k + o) ∨ 74 ≤ a) → N a j = M a j := by
  obtain ⟨_, M1, h170, h⟩ := h
  have f := F_170 h170
  have r : ∀ a j, a < 230 → pScr a j = false → (a = 0 ∨ a = 2 ∨ 18 ≤ a) → M1 a j = M a j := fun a j q1 q2 q3 => f a j q1 q2 (by simp only [l_170, pOut_cons, pOut_nil, true_or, and_true]; omega)
  have plain : ∀ {M2 : pMem}, M2 = aPut M1 1 0 (kI 0) → N = M2 → N 1 0 = kI 0 ∧ ∀ a j, a < 230 → pScr a j = false → (a = 0 ∨ a = 2 ∨ 18 ≤ a ∧ a < 30 ∨ (∃ k o, k < 4 ∧ o < 4 ∧ a = 37 + 11 * k + o) ∨ 74 ≤ a) → N a j = M a j := by
    rintro M2 e rfl
    refine ⟨by rw [e, aPut_same], fun a j q1 q2 q3 => ?_⟩
    have q4 : a = 0 ∨ a = 2 ∨ 18 ≤ a := by
      rcases q3 with q | q | q | ⟨k, o, _, _, q⟩ | q <;> omega
    rw [e, aPut_cell (by omega), r a j q1 q2 q4]
  have plan : (tIf (¬ p1 = (kI 1)) (tPut (aPut M1 1 0 (kI 0)) fun M2 => tRet (kI (-1)) M2) (tIf ((f_33 p2) = 0) (tPut (aPut M1 1 0 (kI 0)) fun M2 => tRet (kI (-1)) M2) (tGd (pIn p2 4) <| tCall (D_181 (37 + 11 * ix p2) M1) fun v2 M2 => tPut (aPut M2 1 0 (kI 0)) fun M3 => tRet v2 M3))) v N → N 1 0 = kI 0 ∧ ∀ a j, a < 230 → pScr a j = false → (a = 0 ∨ a = 2 ∨ 18 ≤ a ∧ a < 30 ∨ (∃ k o, k < 4 ∧ o < 4 ∧ a = 37 + 11 * k + o) ∨ 74 ≤ a) → N a j = M a j := by
    rintro (⟨_, M2, e, _, hN⟩ | ⟨g, h⟩)
    · exact plain e hN
    · rcases h with ⟨_, M2, e, _, hN⟩ | ⟨g2, _⟩
      · exact plain e hN
      · exact absurd ⟨Classical.not_not.mp g, f_33_iff.mp g2⟩ c
  rcases h with ⟨_, h⟩ | ⟨_, h⟩
  · exact plan h
  · rcases h with ⟨_, h⟩ | ⟨g2, g3, v2, M2, h174, M3, e3, _, hN⟩
    · exact plan h
    · obtain ⟨g3a, g3b⟩ := ix_in g3
      have f2 := F_174 (pArK (show pAr 24 4 30 11 2 = true by decide +kernel) (by decide) g3) h174
      rw [hN]
      refine ⟨by rw [e3, aPut_same], fun a j q1 q2 q3 => ?_⟩
      have q4 : a = 0 ∨ a = 2 ∨ 18 ≤ a := by
        rcases q3 with q | q | q | ⟨k, o, _, _, q⟩ | q <;> omega
      rw [e3, aPut_cell (by omega), f2 a j q1 q2 ?_, r a j q1 q2 q4]
      simp only [l_174, pOut_cons, pOut_nil, true_or, and_true]
      generalize ix p2 = i at g3b
      rcases q3 with q | q | q | ⟨k, o, hk, ho, q⟩ | q <;> omega
theorem D_81_else {p1 p2 v : Int32} {M N : pMem} (h : D_81 p1 p2 M v N) (c : ¬ (p1 = kI 1 ∧ 0 ≤ p2.toInt ∧ p2.toInt < 4)) : N 188 24 = kI 0 ∧ ∀ a j, (a = 213 ∨ a = 214 ∨ a = 215) → N a j = M a j := by
  obtain ⟨M1, e1, M2, e2, M3, e3, h⟩ := h
  have r3 : ∀ a j, (a = 213 ∨ a = 214 ∨ a = 215) → M3 a j = M a j := fun a j ha => by rw [e3, aPut_cell (by omega), e2, aPut_cell (by omega), e1, aPut_cell (by omega)]
  have sc : ∀ a j, (a = 213 ∨ a = 214 ∨ a = 215) → pScr a j = false := fun a j ha => by rcases ha with rfl | rfl | rfl <;> rfl
  have rd : ∀ {M4 M5 M6 M7 : pMem} {u : Unit}, M4 = aPut M3 188 25 (kI 0) → M5 = aPut M4 188 38 (kI 0) → M6 = aPut M5 188 39 (kI 0) → D_65 M6 u M7 → ∀ a j, (a = 213 ∨ a = 214 ∨ a = 215) → M7 a j = M a j := by
    intro M4 M5 M6 M7 u e4 e5 e6 h65 a j ha
    rw [F_65 h65 a j (by omega) (sc a j ha) (by simp only [l_65, pOut_cons, pOut_nil, true_or, and_true]; omega), e6, aPut_cell (by omega), e5, aPut_cell (by omega), e4, aPut_cell (by omega)]
    exact r3 a j ha
  -- behind what was read
  have behind : ∀ {x3 s0 : Int32} {M8 : pMem}, (p1 = 0 ∨ s0 = kI (-1)) → (∀ a j, (a = 213 ∨ a = 214 ∨ a = 215) → M8 a j = M a j) → L_81_9 p1 p2 x3 s0 M8 v N → N 188 24 = kI 0 ∧ ∀ a j, (a = 213 ∨ a = 214 ∨ a = 215) → N a j = M a j := by
    intro x3 s0 M8 hp hM8 h
    refine h (fun x s M' v N => (p1 = 0 ∨ s = kI (-1)) → (∀ a j, (a = 213 ∨ a = 214 ∨ a = 215) → M' a j = M a j) → N 188 24 = kI 0 ∧ ∀ a j, (a = 213 ∨ a = 214 ∨ a = 215) → N a j = M a j) ?_ hp hM8
    intro x s M' v N hs hp hM'
    obtain ⟨Ma, ea, hs⟩ := hs
    have ra : ∀ a j, (a = 213 ∨ a = 214 ∨ a = 215) → Ma a j = M a j := fun a j ha => by rw [ea, aPut_cell (by omega)]; exact hM' a j ha
    have a24 : Ma 188 24 = kI 0 := by rw [ea, aPut_same]
    have tk : ∀ {X : pMem}, X 188 24 = kI 0 → (∀ a j, (a = 213 ∨ a = 214 ∨ a = 215) → X a j = M a j) → ¬ s = kI (-1) → (tIf (¬ p1 = 0) (tCall (D_80 p2 s X) fun _ M2 => tRet s M2) (tCall (D_78 p2 s X) fun _ M2 => tRet s M2)) v N → N 188 24 = kI 0 ∧ ∀ a j, (a = 213 ∨ a = 214 ∨ a = 215) → N a j = M a j := by
      intro X x24 xr hne hs
      have p0 : p1 = 0 := hp.resolve_right hne
      obtain ⟨_, M2, h78, _, hN⟩ := tIf_n (nn p0) hs
      have f := F_78 h78
      rw [hN]
      refine ⟨by rw [f 188 24 (by decide) rfl (by simp only [l_78, pOut_cons, pOut_nil, true_or, and_true]; omega)]; exact x24, fun a j ha => ?_⟩
      rw [f a j (by omega) (sc a j ha) (by simp only [l_78, pOut_cons, pOut_nil, true_or, and_true]; omega)]
      exact xr a j ha
    rcases hs with ⟨_, hs⟩ | ⟨_, hs⟩
    · rcases hs with ⟨g, hs⟩ | ⟨_, _, hN⟩
      · exact tk a24 ra g hs
      · rw [hN]; exact ⟨a24, ra⟩
    · rcases hs with ⟨g, hs⟩ | ⟨_, Mb, eb, Mc, ec, hs⟩
      · rcases hs with ⟨_, hs⟩ | ⟨_, _, hN⟩
        · exact tk a24 ra g hs
        · rw [hN]; exact ⟨a24, ra⟩
      · have c24 : Mc 188 24 = kI 0 := by rw [ec, aPut_at (by decide), eb, aPut_at (by decide)]; exact a24
        have rc : ∀ a j, (a = 213 ∨ a = 214 ∨ a = 215) → Mc a j = M a j := fun a j ha => by rw [ec, aPut_cell (by omega), eb, aPut_cell (by omega)]; exact ra a j ha
        rcases hs with ⟨g, hs⟩ | ⟨_, _, hN⟩
        · exact tk c24 rc g hs
        · rw [hN]; exact ⟨c24, rc⟩
  rcases h with ⟨_, M4, e4, M5, e5, M6, e6, _, M7, h65, h⟩ | ⟨g1, h⟩
  · exact behind (Or.inr rfl) (rd e4 e5 e6 h65) h
  · rcases h with ⟨_, M4, e4, M5, e5, M6, e6, _, M7, h65, h⟩ | ⟨g2, M4, e4, M5, e5, M6, e6, _, M7, h65, h⟩
    · exact behind (Or.inr rfl) (rd e4 e5 e6 h65) h
    · have g2 := f_42_iff.mp g2
      have g1 := f_42_iff.mp g1
      rw [i_le, i_le, kI_toInt (by decide) (by decide), kI_toInt (by decide) (by decide)] at g2
      rw [i_le, i_le, kI_toInt (by decide) (by decide), kI_toInt (by decide) (by decide)] at g1
      have p0 : p1 = 0 := by
        rw [i_eq, i_0]
        apply Classical.byContradiction
        intro q
        exact c ⟨kI_inj (by omega), by omega, by omega⟩
      obtain ⟨v2, M8, h77, h⟩ := tIf_n (nn p0) h
      have f := F_77 h77
      refine behind (Or.inl p0) (fun a j ha => ?_) h
      rw [f a j (by omega) (sc a j ha) (by simp only [l_77, pOut_cons, pOut_nil, true_or, and_true]; omega)]
      exact rd e4 e5 e6 h65 a j ha
theorem op_text {p1 p2 v u : Int32} {M M1 M2 : pMem} (h : rA M) (h1 : D_7 p1 p2 M v M1) (h2 : D_81 p1 p2 M1 u M2) : rA M2 := by
  obtain ⟨ht, hn, hi, hk, hp, hq⟩ := h
  obtain ⟨t1, t2, t3, t4, t5, t6⟩ := ht
  have f2 := F_81 h2
  have k2 : (kNow l_81 && (kImg l_81 && (kTk l_81 && kPi l_81))) = true := by decide +kernel
  simp only [Bool.and_eq_true] at k2
  -- the class's cells, but for the text's own
  have o2 : ∀ a j, a < 188 → pScr a j = false → M2 a j = M1 a j := fun a j q1 q2 => f2 a j (by omega) q2 (by simp only [l_81, pOut_cons, pOut_nil, true_or, and_true]; omega)
  have o2' : ∀ a j, (a = 202 ∨ a = 203) → M2 a j = M1 a j := fun a j q1 => f2 a j (by omega) (by rcases q1 with rfl | rfl <;> rfl) (by simp only [l_81, pOut_cons, pOut_nil, true_or, and_true]; omega)
  by_cases c : p1 = kI 1 ∧ 0 ≤ p2.toInt ∧ p2.toInt < 4
  · obtain ⟨c1, c2, c3⟩ := c
    obtain ⟨n, hnn⟩ : ∃ n : Nat, (M 1 0).toInt = n := ⟨(M 1 0).toInt.toNat, by omega⟩
    obtain ⟨k, hkk⟩ : ∃ k : Nat, p2.toInt = k := ⟨p2.toInt.toNat, by omega⟩
    have hk4 : k < 4 := by omega
    have n5 : n ≤ 500 := by omega
    have f1 := F_7 h1
    have o1 : ∀ a j, a < 230 → pScr a j = false → (a = 0 ∨ a = 2 ∨ 18 ≤ a ∧ a < 30 ∨ (∃ q o, q < 4 ∧ o < 4 ∧ q ≠ k ∧ a = 37 + 11 * q + o) ∨ 74 ≤ a) → M1 a j = M a j := fun a j q1 q2 q3 => f1 a j q1 q2 (by
      simp only [l_7, pOut_cons, pOut_nil, true_or, and_true]
      rw [ix_of hkk]
      rcases q3 with q | q | q | ⟨q, o, hq, ho, hne, q⟩ | q <;> omega)
    obtain ⟨w1, w2, w3⟩ := D_7_plan n5 hnn c1 hkk hk4 h1
    have pre : xPre M1 (M 202) n := ⟨by rw [o1 188 24 (by decide) rfl (by omega), ← t1]; exact hnn, funext fun i => o1 202 i (by decide) rfl (by omega), fun j hj => by rw [o1 203 j (by decide) rfl (by omega)]; exact t6 j hj⟩
    obtain ⟨r1, r2, r3⟩ := D_81_plan n5 pre (fun i hi => t5 i (by omega)) c1 hkk hk4 h2
    have cg : ∀ i, i < n → M 2 i = M 202 i := fun i hi => t2 i (by omega)
    rw [yT_cg cg, yV_cg cg] at w1 w2
    refine ⟨⟨?_, fun i hi => ?_, ?_, ?_, fun i hi => ?_, fun j hj => ?_⟩, ?_, ?_, ?_, ?_, ?_⟩
    · rw [o2 1 0 (by decide) rfl, w3, r3]
    · rw [o2 2 i (by decide) rfl, o1 2 i (by decide) rfl (by omega), o2' 202 i (by omega), o1 202 i (by decide) rfl (by omega)]; exact t2 i hi
    · rw [o2 1 0 (by decide) rfl, w3]; decide
    · rw [o2 1 0 (by decide) rfl, w3]; decide
    · rw [o2' 202 i (by omega), o1 202 i (by decide) rfl (by omega)]; exact t5 i hi
    · rw [o2' 203 j (by omega), o1 203 j (by decide) rfl (by omega)]; exact t6 j hj
    · refine rNow_fr f2 k2.1 ?_
      unfold rNow
      rw [o1 19 0 (by decide) rfl (by omega), o1 19 4 (by decide) rfl (by omega), o1 19 5 (by decide) rfl (by omega), o1 188 1 (by decide) rfl (by omega), o1 188 2 (by decide) rfl (by omega), o1 188 3 (by decide) rfl (by omega)]
      exact hn
    · refine rImg_fr f2 k2.2.1 ?_
      unfold rImg
      rw [o1 75 0 (by decide) rfl (by omega), o1 75 4 (by decide) rfl (by omega), o1 75 5 (by decide) rfl (by omega), o1 229 4460 (by decide) rfl (by omega), o1 229 7001 (by decide) rfl (by omega), o1 229 7000 (by decide) rfl (by omega)]
      exact hi
    · refine rTk_fr f2 k2.2.2.1 ?_
      unfold rTk
      rw [o1 0 8 (by decide) rfl (by omega), o1 188 77 (by decide) rfl (by omega)]
      exact hk
    · intro q hq4
      have oth : (¬ q = k) → ∀ o j, o < 4 → M2 (37 + 11 * q + o) j = M (37 + 11 * q + o) j := fun hne o j ho => by
        rw [o2 _ j (by omega) (pl_scr hq4 ho), o1 _ j (by omega) (pl_scr hq4 ho) (Or.inr (Or.inr (Or.inr (Or.inl ⟨q, o, hq4, ho, hne, rfl⟩))))]
      by_cases e0 : (plL (yT (M 202) n) (yV (M 202) n) 24 0).1 = 0
      · obtain ⟨a1, a2, a3, a4⟩ := w1 e0
        obtain ⟨b1, b2, b3, b4, b5, b6, b7⟩ := r1 e0
        by_cases e : q = k
        · subst e
          refine ⟨_, plL_len 24 0, b4, b5, ?_⟩
          have m2 : ∀ o j, o < 4 → M2 (37 + 11 * q + o) j = M1 (37 + 11 * q + o) j := fun o j ho => o2 _ j (by omega) (pl_scr hq4 ho)
          exact pdOk_eq a4 (m2 0 0 (by omega)) (fun i => ⟨m2 1 i (by omega), m2 2 i (by omega), m2 3 i (by omega)⟩)
        · refine rPlan_eq (hp q hq4) ?_ (oth e 0 0 (by omega)) (fun i => ⟨oth e 1 i (by omega), oth e 2 i (by omega), oth e 3 i (by omega)⟩) (fun i hi => ?_)
          · rw [b7 q e, o1 213 q (by decide) rfl (by omega)]
          · rw [(b6 (24 * q + i) (by omega) (by omega)).1, (b6 (24 * q + i) (by omega) (by omega)).2, o1 214 _ (by decide) rfl (by omega), o1 215 _ (by decide) rfl (by omega)]
            exact ⟨rfl, rfl⟩
      · obtain ⟨a1, a2, a3, a4⟩ := w2 e0
        obtain ⟨b1, b2, b3, b4, b5⟩ := r2 e0
        have all : ∀ o j, o < 4 → (o = 0 → j = 0) → M2 (37 + 11 * q + o) j = M (37 + 11 * q + o) j := fun o j ho hj => by
          by_cases e : q = k
          · subst e
            rw [o2 _ j (by omega) (pl_scr hq4 ho)]
            obtain ⟨x1, x2⟩ := a4 (37 + 11 * q + o) (by omega)
            by_cases o0 : o = 0
            · rw [hj o0]; exact x1
            · rw [x2 (by omega)]
          · exact oth e o j ho
        refine rPlan_eq (hp q hq4) ?_ (all 0 0 (by omega) (fun _ => rfl)) (fun i => ⟨all 1 i (by omega) (fun e => absurd e (by decide)), all 2 i (by omega) (fun e => absurd e (by decide)), all 3 i (by omega) (fun e => absurd e (by decide))⟩) (fun i hi => ?_)
        · rw [b4, o1 213 q (by decide) rfl (by omega)]
        · rw [(b5 (24 * q + i) (by omega)).1, (b5 (24 * q + i) (by omega)).2, o1 214 _ (by decide) rfl (by omega), o1 215 _ (by decide) rfl (by omega)]
          exact ⟨rfl, rfl⟩
    · refine rPi_fr f2 k2.2.2.2 ⟨fun a ha => ?_, fun b hb => ?_⟩
      · have cc : ∀ o j, o < 4 → M1 (93 + 11 * a + o) j = M (93 + 11 * a + o) j := fun o j ho => o1 _ j (by omega) (pi_scr ha ho) (by omega)
        exact rPlan_eq (hq.1 a ha) (o1 229 _ (by decide) rfl (by omega)) (cc 0 0 (by omega)) (fun i => ⟨cc 1 i (by omega), cc 2 i (by omega), cc 3 i (by omega)⟩) (fun i _ => ⟨o1 229 _ (by decide) rfl (by omega), o1 229 _ (by decide) rfl (by omega)⟩)
      · rw [o1 226 b (by decide) rfl (by omega), o1 229 _ (by decide) rfl (by omega)]
        exact hq.2 b hb
  · obtain ⟨w1, o1⟩ := D_7_else h1 c
    obtain ⟨r1, r2⟩ := D_81_else h2 c
    refine ⟨⟨?_, fun i hi => ?_, ?_, ?_, fun i hi => ?_, fun j hj => ?_⟩, ?_, ?_, ?_, ?_, ?_⟩
    · rw [o2 1 0 (by decide) rfl, w1, r1]
    · rw [o2 2 i (by decide) rfl, o1 2 i (by decide) rfl (by omega), o2' 202 i (by omega), o1 202 i (by decide) rfl (by omega)]; exact t2 i hi
    · rw [o2 1 0 (by decide) rfl, w1]; decide
    · rw [o2 1 0 (by decide) rfl, w1]; decide
    · rw [o2' 202 i (by omega), o1 202 i (by decide) rfl (by omega)]; exact t5 i hi
    · rw [o2' 203 j (by omega), o1 203 j (by decide) rfl (by omega)]; exact t6 j hj
    · refine rNow_fr f2 k2.1 ?_
      unfold rNow
      rw [o1 19 0 (by decide) rfl (by omega), o1 19 4 (by decide) rfl (by omega), o1 19 5 (by decide) rfl (by omega), o1 188 1 (by decide) rfl (by omega), o1 188 2 (by decide) rfl (by omega), o1 188 3 (by decide) rfl (by omega)]
      exact hn
    · refine rImg_fr f2 k2.2.1 ?_
      unfold rImg
      rw [o1 75 0 (by decide) rfl (by omega), o1 75 4 (by decide) rfl (by omega), o1 75 5 (by decide) rfl (by omega), o1 229 4460 (by decide) rfl (by omega), o1 229 7001 (by decide) rfl (by omega), o1 229 7000 (by decide) rfl (by omega)]
      exact hi
    · refine rTk_fr f2 k2.2.2.1 ?_
      unfold rTk
      rw [o1 0 8 (by decide) rfl (by omega), o1 188 77 (by decide) rfl (by omega)]
      exact hk
    · intro q hq4
      have all : ∀ o j, o < 4 → M2 (37 + 11 * q + o) j = M (37 + 11 * q + o) j := fun o j ho => by
        rw [o2 _ j (by omega) (pl_scr hq4 ho), o1 _ j (by omega) (pl_scr hq4 ho) (Or.inr (Or.inr (Or.inr (Or.inl ⟨q, o, hq4, ho, rfl⟩))))]
      have rr : ∀ a j, (a = 213 ∨ a = 214 ∨ a = 215) → M2 a j = M a j := fun a j ha => by rw [r2 a j ha, o1 a j (by omega) (by rcases ha with rfl | rfl | rfl <;> rfl) (by omega)]
      exact rPlan_eq (hp q hq4) (rr 213 q (by omega)) (all 0 0 (by omega)) (fun i => ⟨all 1 i (by omega), all 2 i (by omega), all 3 i (by omega)⟩) (fun i _ => ⟨rr 214 _ (by omega), rr 215 _ (by omega)⟩)
    · refine rPi_fr f2 k2.2.2.2 ⟨fun a ha => ?_, fun b hb => ?_⟩
      · have cc : ∀ o j, o < 4 → M1 (93 + 11 * a + o) j = M (93 + 11 * a + o) j := fun o j ho => o1 _ j (by omega) (pi_scr ha ho) (by omega)
        exact rPlan_eq (hq.1 a ha) (o1 229 _ (by decide) rfl (by omega)) (cc 0 0 (by omega)) (fun i => ⟨cc 1 i (by omega), cc 2 i (by omega), cc 3 i (by omega)⟩) (fun i _ => ⟨o1 229 _ (by decide) rfl (by omega), o1 229 _ (by decide) rfl (by omega)⟩)
      · rw [o1 226 b (by decide) rfl (by omega), o1 229 _ (by decide) rfl (by omega)]
        exact hq.2 b hb
/-! the other calls, over what both sides have in common -/
theorem op_frame {L1 L2 : List (Nat × Nat)} {M M1 M2 : pMem} (h : rA M) (f1 : pFr L1 M M1) (f2 : pFr L2 M1 M2) (k1 : kAll L1 = true) (k2 : kAll L2 = true) : rA M2 := rA_fr f2 k2 (rA_fr f1 k1 h)
def kThk (L : List (Nat × Nat)) : Bool := kTape L && ((pOut L 19 0 && (pOut L 19 4 && (pOut L 19 5 && pOut L 188 2))) && (kImg L && (kTk L && (kPn L && kPi L))))
theorem op_think {L1 L2 : List (Nat × Nat)} {M M1 M2 : pMem} (h : rA M) (f1 : pFr L1 M M1) (f2 : pFr L2 M1 M2) (k1 : kAll L1 = true) (k2 : kThk L2 = true) (s : rS M1 M2) : rA M2 := by
  have h1 := rA_fr f1 k1 h
  unfold kThk at k2
  simp only [Bool.and_eq_true] at k2
  obtain ⟨q1, ⟨n0, n4, n5, n2⟩, q3, q4, q5, q6⟩ := k2
  obtain ⟨t, n, i, k, p, r⟩ := h1
  refine ⟨rTape_fr f2 q1 t, ?_, rImg_fr f2 q3 i, rTk_fr f2 q4 k, rPn_fr f2 q5 p, rPi_fr f2 q6 r⟩
  obtain ⟨s1, s3⟩ := rS_13 s
  unfold rNow
  rw [f2 19 0 (by decide) rfl n0, f2 19 4 (by decide) rfl n4, f2 19 5 (by decide) rfl n5, f2 188 2 (by decide) rfl n2, s1, s3]
  exact n
theorem f_45_at {M M' : pMem} (h : M' 188 2 = M 19 0) (x : Int32) : f_45 x M' = f_222 19 x M := by
  unfold f_45 f_222
  rw [h]
theorem f_32_iff {x : Int32} : ¬ f_32 x = 0 ↔ x.toInt = 0 ∨ x.toInt = 1 := by
  unfold f_32
  by_cases a : x = 0
  · rw [if_pos a, a]
    exact ⟨fun _ => Or.inl rfl, fun _ => by decide⟩
  · rw [if_neg a]
    by_cases b : x = kI 1
    · rw [if_neg (nn b), b]
      exact ⟨fun _ => Or.inr rfl, fun _ => by decide⟩
    · rw [if_pos b]
      refine ⟨fun q => absurd rfl q, fun q => ?_⟩
      rw [i_eq, i_0] at a
      rw [yk (by decide) (by decide)] at b
      exact absurd q (by omega)
theorem f_34_iff {x : Int32} : ¬ f_34 x = 0 ↔ 0 ≤ x.toInt ∧ x.toInt ≤ 3 := by
  have e : f_34 x = f_42 x (kI 0) (kI 3) := rfl
  rw [e, f_42_iff, i_le, i_le, kI0, kI_toInt (by decide) (by decide)]
theorem op_like {p1 p2 p3 v u : Int32} {M M1 M2 : pMem} (h : rA M) (h1 : D_2 p1 p2 p3 M v M1) (h2 : D_48 p1 p2 p3 M1 u M2) : v = u ∧ rA M2 := by
  have f1 := F_2 h1
  refine ⟨?_, op_frame h f1 (F_48 h2) (by decide +kernel) (by decide +kernel)⟩
  obtain ⟨Ma, ea, h2⟩ := h2
  have e := f_45_at (M := M) (M' := Ma) (by rw [ea, aPut_at (by decide), f1 188 2 (by decide) rfl rfl]; exact h.2.1.1.symm)
  rw [e p1, e p2] at h2
  by_cases a1 : f_222 19 p1 M = 0
  · have z : f_223 19 p1 p2 M = 0 := by unfold f_223; rw [if_pos a1]; rfl
    rw [(tIf_p z h1).1, (tIf_p a1 h2).1]
  · have h2 := tIf_n a1 h2
    by_cases a2 : f_222 19 p2 M = 0
    · have z : f_223 19 p1 p2 M = 0 := by unfold f_223; rw [if_neg a1, if_pos a2]; rfl
      rw [(tIf_p z h1).1, (tIf_p a2 h2).1]
    · have h2 := tIf_n a2 h2
      by_cases a3 : p1 = p2
      · have z : f_223 19 p1 p2 M = 0 := by unfold f_223; rw [if_neg a1, if_neg a2, if_pos a3]; rfl
        rw [(tIf_p z h1).1, (tIf_p a3 h2).1]
      · have h2 := tIf_n a3 h2
        have z : ¬ f_223 19 p1 p2 M = 0 := by unfold f_223; rw [if_neg a1, if_neg a2, if_neg a3]; decide
        have h1 := tIf_n z h1
        by_cases a4 : f_35 p3 = 0
        · have z4 : ¬ ¬ f_42 p3 (kI (-50)) (kI 50) = 0 := nn a4
          rw [(tIf_n (nn a4) h1).1, (tIf_n z4 h2).1]
        · have z4 : ¬ f_42 p3 (kI (-50)) (kI 50) = 0 := a4
          obtain ⟨_, Mb, _, hv, _⟩ := tIf_p a4 h1
          obtain ⟨_, Mc, _, hu, _⟩ := tIf_p z4 h2
          rw [hv, hu]
theorem op_knew {p1 p2 p3 v u : Int32} {M M1 M2 : pMem} (h : rA M) (h1 : D_3 p1 p2 p3 M v M1) (h2 : D_49 p1 p2 p3 M1 u M2) : v = u ∧ rA M2 := by
  have f1 := F_3 h1
  refine ⟨?_, op_frame h f1 (F_49 h2) (by decide +kernel) (by decide +kernel)⟩
  obtain ⟨Ma, ea, h2⟩ := h2
  have e := f_45_at (M := M) (M' := Ma) (by rw [ea, aPut_at (by decide), f1 188 2 (by decide) rfl rfl]; exact h.2.1.1.symm)
  rw [e p1, e p2] at h2
  by_cases a1 : f_222 19 p1 M = 0
  · have z : f_223 19 p1 p2 M = 0 := by unfold f_223; rw [if_pos a1]; rfl
    rw [(tIf_n (nn z) h1).1, (tIf_p a1 h2).1]
  · have h2 := tIf_n a1 h2
    by_cases a2 : f_222 19 p2 M = 0
    · have z : f_223 19 p1 p2 M = 0 := by unfold f_223; rw [if_neg a1, if_pos a2]; rfl
      rw [(tIf_n (nn z) h1).1, (tIf_p a2 h2).1]
    · have h2 := tIf_n a2 h2
      by_cases a3 : p1 = p2
      · have z : f_223 19 p1 p2 M = 0 := by unfold f_223; rw [if_neg a1, if_neg a2, if_pos a3]; rfl
        rw [(tIf_n (nn z) h1).1, (tIf_n (nn a3) h2).1]
      · have h2 := tIf_p a3 h2
        have z : ¬ f_223 19 p1 p2 M = 0 := by unfold f_223; rw [if_neg a1, if_neg a2, if_neg a3]; decide
        obtain ⟨_, Mb, _, hv, _⟩ := tIf_p z h1
        rw [hv]
        rcases h2 with ⟨_, _, Mc, _, h2⟩ | ⟨_, _, Mc, _, h2⟩
        · rcases h2 with ⟨_, _, Md, _, hu, _⟩ | ⟨_, _, Md, _, hu, _⟩
          · exact hu.symm
          · exact hu.symm
        · rcases h2 with ⟨_, _, Md, _, hu, _⟩ | ⟨_, _, Md, _, hu, _⟩
          · exact hu.symm
          · exact hu.symm
theorem op_number {p1 p2 v u : Int32} {M M1 M2 : pMem} (h : rA M) (h1 : D_25 p1 p2 M v M1) (h2 : D_52 p1 p2 M1 u M2) : v = u ∧ rA M2 := by
  have f1 := F_25 h1
  refine ⟨?_, op_frame h f1 (F_52 h2) (by decide +kernel) (by decide +kernel)⟩
  obtain ⟨Ma, ea, h2⟩ := h2
  have e := f_45_at (M := M) (M' := Ma) (by rw [ea, aPut_at (by decide), f1 188 2 (by decide) rfl rfl]; exact h.2.1.1.symm)
  rw [e p1] at h2
  by_cases a1 : f_222 19 p1 M = 0
  · rw [(tIf_p a1 h1).1, (tIf_p a1 h2).1]
  · have h1 := tIf_n a1 h1
    have h2 := tIf_n a1 h2
    by_cases a2 : p2 < 0
    · have z : ¬ ¬ f_42 p2 (kI 0) (kI 99) = 0 := nn (by unfold f_42; rw [if_pos (show p2 < kI 0 from a2)]; rfl)
      rw [(tIf_p a2 h1).1, (tIf_n z h2).1]
    · have h1 := tIf_n a2 h1
      by_cases a3 : p2 ≤ kI 99
      · have z : ¬ f_42 p2 (kI 0) (kI 99) = 0 := f_42_iff.mpr ⟨by rw [i_lt, i_0] at a2; rw [i_le, kI0]; omega, a3⟩
        obtain ⟨_, Mb, _, hv, _⟩ := tIf_p a3 h1
        obtain ⟨_, Mc, _, hu, _⟩ := tIf_p z h2
        rw [hv, hu]
      · have z : ¬ ¬ f_42 p2 (kI 0) (kI 99) = 0 := fun q => a3 (f_42_iff.mp q).2
        rw [(tIf_n a3 h1).1, (tIf_n z h2).1]
theorem op_told {p1 p2 v u : Int32} {M M1 M2 : pMem} (h : rA M) (h1 : D_22 p1 p2 M v M1) (h2 : D_117 p1 p2 M1 u M2) : rA M2 := by
  have hr := rA_fr (F_22 h1) (by decide +kernel) h
  have f2 := F_117 h2
  have k2 : (kTape l_117 && (kNow l_117 && (kImg l_117 && (kTk l_117 && kPn l_117)))) = true := by decide +kernel
  simp only [Bool.and_eq_true] at k2
  obtain ⟨t, n, i, k, p, r⟩ := hr
  refine ⟨rTape_fr f2 k2.1 t, rNow_fr f2 k2.2.1 n, rImg_fr f2 k2.2.2.1 i, rTk_fr f2 k2.2.2.2.1 k, rPn_fr f2 k2.2.2.2.2 p, ⟨fun a ha => ?_, fun b hb => ⟨?_, ?_⟩⟩⟩
  · have c : ∀ o j, o < 4 → M2 (93 + 11 * a + o) j = M1 (93 + 11 * a + o) j := fun o j ho => f2 _ j (by omega) (pi_scr ha ho) (by simp only [l_117, pOut_cons, pOut_nil, true_or, and_true]; omega)
    have q : ∀ j, M2 229 j = M1 229 j := fun j => f2 229 j (by decide) rfl (by simp only [l_117, pOut_cons, pOut_nil, true_or, and_true]; omega)
    exact rPlan_eq (r.1 a ha) (q _) (c 0 0 (by omega)) (fun i => ⟨c 1 i (by omega), c 2 i (by omega), c 3 i (by omega)⟩) (fun i _ => ⟨q _, q _⟩)
  · obtain ⟨Ma, ea, h2⟩ := h2
    have b0 : bo (Ma 226 b) := by rw [ea, aPut_cell (by decide)]; exact (r.2 b hb).1
    have one : ∀ {x : Int32} {j j2 : Nat} {y : Int32} {Mb Mc : pMem}, bo x → Mb = aPut Ma 226 j x → Mc = aPut Mb 227 j2 y → M2 = Mc → bo (M2 226 b) := by
      intro x j j2 y Mb Mc hx e1 e2 e3
      rw [e3, e2, aPut_cell (by decide), e1, aPut_row]
      by_cases q : b = j
      · rw [if_pos q]; exact hx
      · rw [if_neg q]; exact b0
    rcases h2 with ⟨_, _, hN⟩ | ⟨_, h2⟩
    · rw [hN]; exact b0
    · rcases h2 with ⟨_, h2⟩ | ⟨_, h2⟩
      · rcases h2 with ⟨_, _, Mb, e1, _, Mc, e2, _, e3⟩ | ⟨_, _, Mb, e1, _, Mc, e2, _, e3⟩
        · exact one (Or.inl rfl) e1 e2 e3
        · exact one (Or.inr rfl) e1 e2 e3
      · rcases h2 with ⟨_, h2⟩ | ⟨_, _, hN⟩
        · rcases h2 with ⟨_, _, Mb, e1, _, Mc, e2, _, e3⟩ | ⟨_, _, Mb, e1, _, Mc, e2, _, e3⟩
          · exact one (Or.inl rfl) e1 e2 e3
          · exact one (Or.inr rfl) e1 e2 e3
        · rw [hN]; exact b0
  · rw [f2 229 _ (by decide) rfl (by simp only [l_117, pOut_cons, pOut_nil, true_or, and_true]; omega)]
    exact (r.2 b hb).2
/-! days -/
def dDo (p1 p2 p3 : Int32) (d : Int) : Prop := (0 ≤ p1.toInt ∧ p1.toInt ≤ 3) ∧ (0 ≤ p2.toInt ∧ p2.toInt ≤ 9) ∧ (p1.toInt = 1 ∨ p2.toInt = 0) ∧ (p3.toInt = -1 ∨ p3.toInt = 0 ∨ p3.toInt = 1) ∧ d < 60
theorem D_10_c {p1 p2 p3 v : Int32} {M M1 : pMem} (h : D_10 p1 p2 p3 M v M1) : (dDo p1 p2 p3 (M 19 4).toInt ∧ D_30 p1 p2 p3 M v M1) ∨ (¬ dDo p1 p2 p3 (M 19 4).toInt ∧ v = kI (-1) ∧ M1 = M) := by
  have e1 : p1 = kI 1 ↔ p1.toInt = 1 := yk (by decide) (by decide)
  have e3 : p3 = kI (-1) ↔ p3.toInt = -1 := yk (by decide) (by decide)
  have e2 : p2 = 0 ↔ p2.toInt = 0 := by rw [i_eq, i_0]
  have e6 : M 19 4 < kI 60 ↔ (M 19 4).toInt < 60 := by rw [i_lt, kI_toInt (by decide) (by decide)]
  have n2 : p2 < 0 ↔ p2.toInt < 0 := by rw [i_lt, i_0]
  have m2 : kI 9 < p2 ↔ 9 < p2.toInt := by rw [i_lt, kI_toInt (by decide) (by decide)]
  have q32 := f_32_iff (x := p3)
  have q34 := f_34_iff (x := p1)
  unfold dDo
  rcases h with ⟨g, h⟩ | ⟨g, h⟩
  · exact Or.inr ⟨fun q => q34.mpr q.1 g, h⟩
  · have g := q34.mp g
    rcases h with ⟨g2, h⟩ | ⟨g2, h⟩
    · rw [n2] at g2
      exact Or.inr ⟨fun q => by omega, h⟩
    · rw [n2] at g2
      rcases h with ⟨g3, h⟩ | ⟨g3, h⟩
      · rw [m2] at g3
        exact Or.inr ⟨fun q => by omega, h⟩
      · rw [m2] at g3
        have day : (p1.toInt = 1 ∨ p2.toInt = 0) → (p3.toInt = -1 ∨ p3.toInt = 0 ∨ p3.toInt = 1) → (tIf ((M 19 4) < (kI 60)) (tCall (D_30 p1 p2 p3 M) fun v1 M1 => tRet v1 M1) (tRet (kI (-1)) M)) v M1 →
            (((0 ≤ p1.toInt ∧ p1.toInt ≤ 3) ∧ (0 ≤ p2.toInt ∧ p2.toInt ≤ 9) ∧ (p1.toInt = 1 ∨ p2.toInt = 0) ∧ (p3.toInt = -1 ∨ p3.toInt = 0 ∨ p3.toInt = 1) ∧ (M 19 4).toInt < 60) ∧ D_30 p1 p2 p3 M v M1) ∨ (¬ ((0 ≤ p1.toInt ∧ p1.toInt ≤ 3) ∧ (0 ≤ p2.toInt ∧ p2.toInt ≤ 9) ∧ (p1.toInt = 1 ∨ p2.toInt = 0) ∧ (p3.toInt = -1 ∨ p3.toInt = 0 ∨ p3.toInt = 1) ∧ (M 19 4).toInt < 60) ∧ v = kI (-1) ∧ M1 = M) := by
          rintro a b (⟨g6, v1, M2, h30, hv, hN⟩ | ⟨g6, h⟩)
          · rw [e6] at g6
            rw [hv, hN]
            exact Or.inl ⟨⟨g, ⟨by omega, by omega⟩, a, b, g6⟩, h30⟩
          · rw [e6] at g6
            exact Or.inr ⟨fun q => by omega, h⟩
        have wr : (p1.toInt = 1 ∨ p2.toInt = 0) → (tIf (p3 = (kI (-1))) (tIf ((M 19 4) < (kI 60)) (tCall (D_30 p1 p2 p3 M) fun v1 M1 => tRet v1 M1) (tRet (kI (-1)) M)) (tIf ((f_32 p3) = 0) (tRet (kI (-1)) M) (tIf ((M 19 4) < (kI 60)) (tCall (D_30 p1 p2 p3 M) fun v1 M1 => tRet v1 M1) (tRet (kI (-1)) M)))) v M1 →
            (((0 ≤ p1.toInt ∧ p1.toInt ≤ 3) ∧ (0 ≤ p2.toInt ∧ p2.toInt ≤ 9) ∧ (p1.toInt = 1 ∨ p2.toInt = 0) ∧ (p3.toInt = -1 ∨ p3.toInt = 0 ∨ p3.toInt = 1) ∧ (M 19 4).toInt < 60) ∧ D_30 p1 p2 p3 M v M1) ∨ (¬ ((0 ≤ p1.toInt ∧ p1.toInt ≤ 3) ∧ (0 ≤ p2.toInt ∧ p2.toInt ≤ 9) ∧ (p1.toInt = 1 ∨ p2.toInt = 0) ∧ (p3.toInt = -1 ∨ p3.toInt = 0 ∨ p3.toInt = 1) ∧ (M 19 4).toInt < 60) ∧ v = kI (-1) ∧ M1 = M) := by
          rintro a (⟨g5, h⟩ | ⟨g5, h⟩)
          · exact day a (Or.inl (e3.mp g5)) h
          · rw [e3] at g5
            rcases h with ⟨g7, h⟩ | ⟨g7, h⟩
            · exact Or.inr ⟨fun q => q32.mpr (q.2.2.2.1.resolve_left g5) g7, h⟩
            · exact day a (Or.inr (q32.mp g7)) h
        rcases h with ⟨g4, h⟩ | ⟨g4, h⟩
        · exact wr (Or.inl (e1.mp g4)) h
        · rw [e1] at g4
          rcases h with ⟨g5, h⟩ | ⟨g5, h⟩
          · rw [e2] at g5
            exact Or.inr ⟨fun q => by omega, h⟩
          · have g5 := e2.mp (Classical.not_not.mp g5)
            exact wr (Or.inr g5) h
theorem D_104_c {p1 p2 p3 v : Int32} {M M1 : pMem} (h : D_104 p1 p2 p3 M v M1) (h3 : (M 188 3).toInt ≤ 60) : ∃ Ma, Ma = aPut M 188 0 (kI 0) ∧ ((dDo p1 p2 p3 (M 188 3).toInt ∧ (∃ u, D_101 p1 p2 p3 Ma u M1) ∧ v = f_102 M1) ∨ (¬ dDo p1 p2 p3 (M 188 3).toInt ∧ v = kI (-1) ∧ M1 = Ma)) := by
  obtain ⟨Ma, ea, h⟩ := h
  refine ⟨Ma, ea, ?_⟩
  have a3 : Ma 188 3 = M 188 3 := by rw [ea, aPut_at (by decide)]
  have e1 : p1 = kI 1 ↔ p1.toInt = 1 := yk (by decide) (by decide)
  have e6 : Ma 188 3 = kI 60 ↔ (M 188 3).toInt = 60 := by rw [a3, yk (by decide) (by decide)]
  have q1 : ¬ f_42 p1 (kI 0) (kI 3) = 0 ↔ 0 ≤ p1.toInt ∧ p1.toInt ≤ 3 := by rw [f_42_iff, i_le, i_le, kI0, kI_toInt (by decide) (by decide)]
  have q2 : ¬ f_42 p2 (kI 0) (kI 0) = 0 ↔ 0 ≤ p2.toInt ∧ p2.toInt ≤ 0 := by rw [f_42_iff, i_le, i_le, kI0]
  have q9 : ¬ f_42 p2 (kI 0) (kI 9) = 0 ↔ 0 ≤ p2.toInt ∧ p2.toInt ≤ 9 := by rw [f_42_iff, i_le, i_le, kI0, kI_toInt (by decide) (by decide)]
  have q3 : ¬ f_42 p3 (kI (-1)) (kI 1) = 0 ↔ -1 ≤ p3.toInt ∧ p3.toInt ≤ 1 := by rw [f_42_iff, i_le, i_le, kI_toInt (by decide) (by decide), kI_toInt (by decide) (by decide)]
  unfold dDo
  rcases h with ⟨g, h⟩ | ⟨g, h⟩
  · exact Or.inr ⟨fun q => q1.mpr q.1 g, h⟩
  · have g := q1.mp g
    have tail : (0 ≤ p2.toInt ∧ p2.toInt ≤ 9) → (p1.toInt = 1 ∨ p2.toInt = 0) → (tIf ((f_42 p3 (kI (-1)) (kI 1)) = 0) (tRet (kI (-1)) Ma) (tIf (¬ (Ma 188 3) = (kI 60)) (tCall (D_101 p1 p2 p3 Ma) fun _ M2 => tRet (f_102 M2) M2) (tRet (kI (-1)) Ma))) v M1 →
        (((0 ≤ p1.toInt ∧ p1.toInt ≤ 3) ∧ (0 ≤ p2.toInt ∧ p2.toInt ≤ 9) ∧ (p1.toInt = 1 ∨ p2.toInt = 0) ∧ (p3.toInt = -1 ∨ p3.toInt = 0 ∨ p3.toInt = 1) ∧ (M 188 3).toInt < 60) ∧ (∃ u, D_101 p1 p2 p3 Ma u M1) ∧ v = f_102 M1) ∨ (¬ ((0 ≤ p1.toInt ∧ p1.toInt ≤ 3) ∧ (0 ≤ p2.toInt ∧ p2.toInt ≤ 9) ∧ (p1.toInt = 1 ∨ p2.toInt = 0) ∧ (p3.toInt = -1 ∨ p3.toInt = 0 ∨ p3.toInt = 1) ∧ (M 188 3).toInt < 60) ∧ v = kI (-1) ∧ M1 = Ma) := by
      rintro b c (⟨g3, h⟩ | ⟨g3, h⟩)
      · refine Or.inr ⟨fun q => q3.mpr ?_ g3, h⟩
        have := q.2.2.2.1
        omega
      · have g3 := q3.mp g3
        rcases h with ⟨g4, u, M2, h101, hv, hN⟩ | ⟨g4, h⟩
        · rw [e6] at g4
          rw [hv, hN]
          exact Or.inl ⟨⟨g, b, c, by omega, by omega⟩, ⟨u, h101⟩, rfl⟩
        · have g4 := e6.mp (Classical.not_not.mp g4)
          exact Or.inr ⟨fun q => by omega, h⟩
    rcases h with ⟨g2, h⟩ | ⟨g2, h⟩
    · rw [e1] at g2
      rcases h with ⟨g5, h⟩ | ⟨g5, h⟩
      · refine Or.inr ⟨fun q => q2.mpr ?_ g5, h⟩
        have := q.2.2.1
        omega
      · have g5 := q2.mp g5
        exact tail (by omega) (by omega) h
    · have g2 := e1.mp (Classical.not_not.mp g2)
      rcases h with ⟨g5, h⟩ | ⟨g5, h⟩
      · exact Or.inr ⟨fun q => q9.mpr q.2.1 g5, h⟩
      · exact tail (q9.mp g5) (Or.inl g2) h
theorem op_day {p1 p2 p3 v u : Int32} {M M1 M2 : pMem} (h : rA M) (h1 : D_10 p1 p2 p3 M v M1) (h2 : D_104 p1 p2 p3 M1 u M2) : rA M2 := by
  have f1 := F_10 h1
  have f2 := F_104 h2
  obtain ⟨t, n, i, k, p, r⟩ := h
  have k1 : (kTape l_10 && (kImg l_10 && (kTk l_10 && (kPn l_10 && kPi l_10)))) = true := by decide +kernel
  have k2 : (kTape l_104 && (kImg l_104 && (kTk l_104 && (kPn l_104 && kPi l_104)))) = true := by decide +kernel
  simp only [Bool.and_eq_true] at k1 k2
  refine ⟨rTape_fr f2 k2.1 (rTape_fr f1 k1.1 t), ?_, rImg_fr f2 k2.2.1 (rImg_fr f1 k1.2.1 i), rTk_fr f2 k2.2.2.1 (rTk_fr f1 k1.2.2.1 k), rPn_fr f2 k2.2.2.2.1 (rPn_fr f1 k1.2.2.2.1 p), rPi_fr f2 k2.2.2.2.2 (rPi_fr f1 k1.2.2.2.2 r)⟩
  obtain ⟨n1, n2, n3, n4, n5⟩ := n
  have c : ∀ j, M2 19 j = M1 19 j := fun j => f2 19 j (by decide) (pScr_of rfl (by decide) j) (by simp only [l_104, pOut_cons, pOut_nil, true_or, and_true]; omega)
  have m1 : M1 188 1 = M 188 1 := f1 188 1 (by decide) rfl (by simp only [l_10, pOut_cons, pOut_nil, true_or, and_true]; omega)
  have m2 : M1 188 2 = M 188 2 := f1 188 2 (by decide) rfl (by simp only [l_10, pOut_cons, pOut_nil, true_or, and_true]; omega)
  have m3 : M1 188 3 = M 188 3 := f1 188 3 (by decide) rfl (by simp only [l_10, pOut_cons, pOut_nil, true_or, and_true]; omega)
  obtain ⟨Ma, ea, h2⟩ := D_104_c h2 (by rw [m3, ← n2]; exact n5.2)
  have a : ∀ j, j ≠ 0 → Ma 188 j = M1 188 j := fun j hj => by rw [ea, aPut_at hj]
  unfold rNow
  rw [c 0, c 4, c 5]
  rw [m3, ← n2] at h2
  rcases D_10_c h1 with ⟨d1, h30⟩ | ⟨d1, _, hM⟩
  · rcases h2 with ⟨_, ⟨u', h101⟩, _⟩ | ⟨d2, _⟩
    · obtain ⟨w0, w4, w5⟩ := D_30_w h30
      obtain ⟨x2, x3, x1⟩ := D_101_w h101
      rw [w0, w4, w5, x2, x3, x1, a 2 (by decide), a 3 (by decide), a 1 (by decide), m2, m3, m1, ← n1, ← n2, ← n3]
      have t4 : (M 19 4 + kI 1).toInt = (M 19 4).toInt + 1 := i_add1 (by omega)
      refine ⟨rfl, rfl, rfl, n4, by rw [t4]; omega, ?_⟩
      rw [t4]
      have := d1.2.2.2.2
      omega
    · exact absurd d1 d2
  · rcases h2 with ⟨d2, _⟩ | ⟨_, _, hN⟩
    · exact absurd d2 d1
    · rw [hN, hM, a 2 (by decide), a 3 (by decide), a 1 (by decide), m2, m3, m1]
      exact ⟨n1, n2, n3, n4, n5⟩
theorem op_plan {p1 v u : Int32} {M M1 M2 : pMem} (h : rA M) (h1 : D_11 p1 M v M1) (h2 : D_106 p1 M1 u M2) : v = u ∧ rA M2 := by
  have f1 := F_11 h1
  have f2 := F_106 h2
  obtain ⟨t, n, i, k, p, r⟩ := h
  have k1 : (kTape l_11 && (kImg l_11 && (kTk l_11 && (kPn l_11 && kPi l_11)))) = true := by decide +kernel
  have k2 : (kTape l_106 && (kImg l_106 && (kTk l_106 && (kPn l_106 && kPi l_106)))) = true := by decide +kernel
  simp only [Bool.and_eq_true] at k1 k2
  have rest : rNow M2 → rA M2 := fun q => ⟨rTape_fr f2 k2.1 (rTape_fr f1 k1.1 t), q, rImg_fr f2 k2.2.1 (rImg_fr f1 k1.2.1 i), rTk_fr f2 k2.2.2.1 (rTk_fr f1 k1.2.2.1 k), rPn_fr f2 k2.2.2.2.1 (rPn_fr f1 k1.2.2.2.1 p), rPi_fr f2 k2.2.2.2.2 (rPi_fr f1 k1.2.2.2.2 r)⟩
  obtain ⟨n1, n2, n3, n4, n5⟩ := n
  have c : ∀ j, M2 19 j = M1 19 j := fun j => f2 19 j (by decide) (pScr_of rfl (by decide) j) (by simp only [l_106, pOut_cons, pOut_nil, true_or, and_true]; omega)
  have m1 : M1 188 1 = M 188 1 := f1 188 1 (by decide) rfl (by simp only [l_11, pOut_cons, pOut_nil, true_or, and_true]; omega)
  have m2 : M1 188 2 = M 188 2 := f1 188 2 (by decide) rfl (by simp only [l_11, pOut_cons, pOut_nil, true_or, and_true]; omega)
  have m3 : M1 188 3 = M 188 3 := f1 188 3 (by decide) rfl (by simp only [l_11, pOut_cons, pOut_nil, true_or, and_true]; omega)
  obtain ⟨Ma, ea, h2⟩ := h2
  have a : ∀ b j, ¬ (b = 188 ∧ j = 0) → Ma b j = M1 b j := fun b j hj => by
    by_cases eb : b = 188
    · subst eb
      rw [ea, aPut_at (fun e => hj ⟨rfl, e⟩)]
    · rw [ea, aPut_cell eb]
  by_cases g : 0 ≤ p1.toInt ∧ p1.toInt < 4
  · obtain ⟨q, hq⟩ : ∃ q : Nat, p1.toInt = q := ⟨p1.toInt.toNat, by omega⟩
    have hq4 : q < 4 := by omega
    obtain ⟨_, M3, h105, hu, hN⟩ := tIf_p (f_42_iff.mpr ⟨by rw [i_le, kI0]; exact g.1, by rw [i_le, kI_toInt (by decide) (by decide)]; omega⟩) h2
    obtain ⟨l, l1, l2, l3, l4⟩ := p q hq4
    obtain ⟨w1, w2, w3, w4⟩ := D_11_w hq hq4 l4 n5.2 h1
    have rr : ∀ b j, (b = 213 ∨ b = 214 ∨ b = 215) → Ma b j = M b j := fun b j hb => by
      rw [a b j (by omega), f1 b j (by omega) (by rcases hb with rfl | rfl | rfl <;> rfl) (by simp only [l_11, pOut_cons, pOut_nil, true_or, and_true]; omega)]
    obtain ⟨x1, x2, x3, x4⟩ := D_105_w (l := l) hq hq4 l1 (by rw [rr 213 q (by omega)]; exact l2) (by
      rw [show Ma 214 = M 214 from funext fun j => rr 214 j (by omega), show Ma 215 = M 215 from funext fun j => rr 215 j (by omega)]
      exact l3) (by rw [a 188 3 (by omega), m3, ← n2]; exact n5.2) h105
    rw [ksL_days, List.map_nil, List.nil_append] at w1 w3
    rw [a 188 3 (by omega), a 188 1 (by omega), m3, m1, ← n2, ← n3] at x1 x3
    rw [a 188 2 (by omega), m2] at x2
    refine ⟨by rw [hu, i_eq, w1, x1], rest ?_⟩
    rw [← hN] at x2 x3 x4
    obtain ⟨y4, y5⟩ := Prod.mk.inj (w3.trans x3.symm)
    unfold rNow
    rw [c 0, c 4, c 5, w2, x2]
    refine ⟨n1, y4, y5, n4, ?_, w4⟩
    -- days don't become fewer
    have dn : ∀ (l : List Int32) (q : Int32 × Int32), 0 ≤ q.1.toInt → q.1.toInt ≤ 60 → 0 ≤ (dyG l q).2.1.toInt := by
      intro l
      induction l with
      | nil => intro q h _; exact h
      | cons kk r ih =>
        intro q h hb
        by_cases e : kI 60 ≤ q.1
        · rw [dyG_full e]; exact h
        · rw [dyG_day e]
          rw [i_le, kI_toInt (by decide) (by decide)] at e
          exact ih _ (by show 0 ≤ (q.1 + kI 1).toInt; rw [i_add1 (by omega)]; omega) (by show (q.1 + kI 1).toInt ≤ 60; rw [i_add1 (by omega)]; omega)
    have := dn (ksL l) (M 19 4, M 19 5) n5.1 n5.2
    rw [← w3] at this
    exact this
  · have z : ¬ ¬ f_42 p1 (kI 0) (kI 3) = 0 := fun e => g (by
      have := f_42_iff.mp e
      rw [i_le, i_le, kI0, kI_toInt (by decide) (by decide)] at this
      omega)
    obtain ⟨hu, hN⟩ := tIf_n z h2
    obtain ⟨hv, hM⟩ := tIf_n (fun e => g (f_33_iff.mp e)) h1
    refine ⟨by rw [hv, hu], rest ?_⟩
    unfold rNow
    rw [c 0, c 4, c 5, hN, a 188 1 (by omega), a 188 2 (by omega), a 188 3 (by omega), hM]
    exact ⟨n1, n2, n3, n4, n5⟩
