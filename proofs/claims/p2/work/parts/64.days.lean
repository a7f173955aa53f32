/-! days of a plan: how many, and the state behind them -/
def dyG : List Int32 → Int32 × Int32 → Nat × (Int32 × Int32)
  | [], q => (0, q)
  | k :: r, q => if kI 60 ≤ q.1 then (0, q) else ((dyG r (q.1 + kI 1, if k = kI 1 then xDraw (xDraw q.2) else q.2)).1 + 1, (dyG r (q.1 + kI 1, if k = kI 1 then xDraw (xDraw q.2) else q.2)).2)
theorem dyG_full {l : List Int32} {q : Int32 × Int32} (h : kI 60 ≤ q.1) : dyG l q = (0, q) := by
  cases l with
  | nil => rfl
  | cons k r =>
    unfold dyG
    rw [if_pos h]
theorem dyG_day {k : Int32} {r : List Int32} {q : Int32 × Int32} (h : ¬ kI 60 ≤ q.1) : dyG (k :: r) q = ((dyG r (q.1 + kI 1, if k = kI 1 then xDraw (xDraw q.2) else q.2)).1 + 1, (dyG r (q.1 + kI 1, if k = kI 1 then xDraw (xDraw q.2) else q.2)).2) := by
  conv => lhs; unfold dyG
  rw [if_neg h]
theorem drop_nil {α : Type} {l : List α} {i : Nat} (h : l.length ≤ i) : l.drop i = [] := List.drop_eq_nil_iff.mpr h
theorem drop_at {α : Type} {l : List α} {i : Nat} (h : i < l.length) : l.drop i = l[i] :: l.drop (i + 1) := List.drop_eq_getElem_cons h
/-- the class -/
theorem D_11_w {k : Nat} {p1 : Int32} {M : pMem} {D : List (Int32 × Int32 × Int32)} (hk : p1.toInt = k) (hk4 : k < 4) (hD : pdOk M (37 + 11 * k) D) (hd : (M 19 4).toInt ≤ 60) {v : Int32} {N : pMem} (h : D_11 p1 M v N) :
    v.toInt = ((dyG (D.map (·.1)) (M 19 4, M 19 5)).1 : Nat) ∧ N 19 0 = M 19 0 ∧ (N 19 4, N 19 5) = (dyG (D.map (·.1)) (M 19 4, M 19 5)).2 ∧ (N 19 4).toInt ≤ 60  := by sorry







































def ksL (l : List (Int32 × Int32)) : List Int32 := l.filterMap fun w => if w.1 = kI 28 then none else some (w.1 - kI 24)
theorem ksL_days : ∀ {l : List (Int32 × Int32)} {a : List (Int32 × Int32 × Int32)} {s : Int32}, (l.foldl plDay (a, s)).1.map (·.1) = a.map (·.1) ++ ksL l := by sorry















def lQ (b m : Nat) (l : List (Int32 × Int32)) (x4 : Int32) (M N : pMem) : Prop := ∀ i c : Nat, x4.toInt = ((b + i : Nat) : Int) → i ≤ l.length → (M 188 60).toInt = c → c ≤ 24 + i → (M 188 3).toInt ≤ 60 →
    (M 213 m).toInt = l.length → rlOk (M 214) (M 215) b l →
    (N 188 60).toInt = ((c + (dyG (ksL (l.drop i)) (M 188 3, M 188 1)).1 : Nat) : Int) ∧ N 188 2 = M 188 2 ∧ (N 188 3, N 188 1) = (dyG (ksL (l.drop i)) (M 188 3, M 188 1)).2 ∧ (N 188 3).toInt ≤ 60
theorem lQ_eq {b m : Nat} {l : List (Int32 × Int32)} {x : Int32} {M N M' : pMem} (h : lQ b m l x M' N) {i c : Nat} (hx : x.toInt = ((b + i : Nat) : Int)) (hi : i ≤ l.length) (hc : (M' 188 60).toInt = c) (hc2 : c ≤ 24 + i) (h3 : (M' 188 3).toInt ≤ 60) (hm : (M' 213 m).toInt = l.length) (ho : rlOk (M' 214) (M' 215) b l) :
    (N 188 60).toInt = ((c + (dyG (ksL (l.drop i)) (M' 188 3, M' 188 1)).1 : Nat) : Int) ∧ N 188 2 = M' 188 2 ∧ (N 188 3, N 188 1) = (dyG (ksL (l.drop i)) (M' 188 3, M' 188 1)).2 ∧ (N 188 3).toInt ≤ 60 := h i c hx hi hc hc2 h3 hm ho
theorem L_105_w {k : Nat} {p1 p2 x3 x4 : Int32} {M0 : pMem} {l : List (Int32 × Int32)} (hk : p1.toInt = k) (hk4 : k < 4) (hl : l.length ≤ 24) {v : Unit} {N : pMem} (h : L_105_1 p1 p2 x3 x4 M0 v N) : lQ (24 * k) k l x4 M0 N  := by sorry




















































































































theorem D_105_w {k : Nat} {p1 p2 : Int32} {M : pMem} {l : List (Int32 × Int32)} (hk : p1.toInt = k) (hk4 : k < 4) (hl : l.length ≤ 24) (hm : (M 213 k).toInt = l.length) (ho : rlOk (M 214) (M 215) (24 * k) l) (h3 : (M 188 3).toInt ≤ 60) {v : Unit} {N : pMem} (h : D_105 p1 p2 M v N) :
    (N 188 60).toInt = ((dyG (ksL l) (M 188 3, M 188 1)).1 : Nat) ∧ N 188 2 = M 188 2 ∧ (N 188 3, N 188 1) = (dyG (ksL l) (M 188 3, M 188 1)).2 ∧ (N 188 3).toInt ≤ 60 := by
  obtain ⟨M1, e1, M2, e2, M3, e3, M4, e4, M5, e5, M6, e6, M7, e7, h⟩ := h
  have q7 : ∀ a j, ¬ (a = 188 ∧ 60 ≤ j) → M7 a j = M a j := fun a j q => by
    by_cases ea : a = 188
    · subst ea
      rw [e7, aPut_at (by omega), e6, aPut_at (by omega), e5, aPut_at (by omega), e4, aPut_at (by omega), e3, aPut_at (by omega), e2, aPut_at (by omega), e1, aPut_at (by omega)]
    · rw [e7, aPut_cell ea, e6, aPut_cell ea, e5, aPut_cell ea, e4, aPut_cell ea, e3, aPut_cell ea, e2, aPut_cell ea, e1, aPut_cell ea]
  have q60 : M7 188 60 = kI 0 := by rw [e7, aPut_at (by decide), e6, aPut_at (by decide), e5, aPut_at (by decide), e4, aPut_at (by decide), e3, aPut_at (by decide), e2, aPut_at (by decide), e1, aPut_same]
  have x0 : (kI 24 * p1).toInt = ((24 * k + 0 : Nat) : Int) := by
    rw [i_mul (by rw [kI_toInt (by decide) (by decide)]; omega) (by rw [kI_toInt (by decide) (by decide)]; omega), kI_toInt (by decide) (by decide), hk]
    omega
  have r := L_105_w hk hk4 hl h 0 0 x0 (Nat.zero_le _) (by rw [q60]; rfl) (by omega) (by rw [q7 188 3 (by omega)]; exact h3) (by rw [q7 213 k (by omega)]; exact hm) (by
    rw [show M7 214 = M 214 from funext fun j => q7 214 j (by omega), show M7 215 = M 215 from funext fun j => q7 215 j (by omega)]
    exact ho)
  rw [List.drop_zero, Nat.zero_add, q7 188 3 (by omega), q7 188 1 (by omega), q7 188 2 (by omega)] at r
  exact r
