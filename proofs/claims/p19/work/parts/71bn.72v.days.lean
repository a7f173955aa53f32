/-! the days of a plan, on both sides -/
abbrev Dy := Int32 × Int32 × Int32
def agS (M N : pMem) : Prop := ∀ a j, a < 230 → pScr a j = false → ¬ (a = 188 ∧ 60 ≤ j ∧ j ≤ 66) → N a j = M a j
theorem agS_t {M N K : pMem} (h : agS M N) (g : agS N K) : agS M K := fun a j h1 h2 h3 => (g a j h1 h2 h3).trans (h a j h1 h2 h3)
theorem agS_sc {M N : pMem} (h : sc M N) : agS M N := fun a j h1 h2 _ => h a j h1 h2
theorem agS_T {M N : pMem} (h : agS M N) : agT M N := agT_of fun a j hp => by
  have q : ¬ (a = 188 ∧ 60 ≤ j ∧ j ≤ 66) := by unfold plT at hp; omega
  rcases plT_in hp with e | ⟨e, e2⟩
  · obtain ⟨c1, c2, c3⟩ := plRows_sc a e
    exact h a j c1 (pScr_of c2 c3 j) q
  · subst e
    exact h 188 j (by decide) (pl188_sc j e2) q
/-- what is counted of a day -/
def cnA (M1 X : pMem) : Prop := agS M1 X ∧ X 188 60 = M1 188 60 + kI 1 ∧ X 188 61 = M1 188 61 + f_102 M1 ∧ X 188 62 = M1 188 62 + M1 188 55 ∧ X 188 63 = M1 188 63 + M1 188 57 ∧ X 188 65 = M1 188 65 + M1 188 56 ∧
  X 188 64 = (if M1 188 64 = kI (-1) ∧ ¬ M1 188 54 = 0 then M1 188 60 + kI 1 else M1 188 64)
def cnO (M1 X : pMem) : Prop := (M1 226 (ix (M1 188 60 + kI 1 - kI 1)) = 0 ∧ X 188 66 = M1 188 66) ∨
  (¬ M1 226 (ix (M1 188 60 + kI 1 - kI 1)) = 0 ∧ ∃ Y v Z, agS M1 Y ∧ D_55 Y v Z ∧ X 188 66 = M1 188 66 + f_44 (v - M1 227 (ix (M1 188 60 + kI 1 - kI 1))))
def stD (M1 X : pMem) : Prop := cnA M1 X ∧ cnO M1 X
theorem leaf_0 {M1 X : pMem} (h : cnA M1 X) (h66 : X 188 66 = M1 188 66) (h226 : X 226 (ix (X 188 60 - kI 1)) = 0) : stD M1 X := by
  refine ⟨h, Or.inl ⟨?_, h66⟩⟩
  rw [h.2.1, h.1 226 _ (by decide) rfl (by omega)] at h226
  exact h226
theorem leaf_1 {M1 X Y Z : pMem} {v : Int32} (h : cnA M1 X) (h66 : X 188 66 = M1 188 66) (h226 : ¬ X 226 (ix (X 188 60 - kI 1)) = 0) (h55 : D_55 X v Y) (eZ : Z = aPut Y 188 66 (X 188 66 + f_44 (v - Y 227 (ix (Y 188 60 - kI 1))))) : stD M1 Z := by
  have f : ∀ a j, a < 230 → pScr a j = false → Y a j = X a j := fun a j h1 h2 => F_55 h55 a j h1 h2 (by simp only [l_55, pOut_nil])
  have z : ∀ j, j ≠ 66 → j ≠ 0 → j ≠ 51 → Z 188 j = X 188 j := fun j q q0 q1 => by
    rw [eZ, aPut_at q]
    refine f 188 j (by decide) ?_
    unfold pScr
    rw [show Nat.beq j 0 = false from Bool.eq_false_iff.mpr fun q => q0 (Nat.eq_of_beq_eq_true q), show Nat.beq j 51 = false from Bool.eq_false_iff.mpr fun q => q1 (Nat.eq_of_beq_eq_true q)]
    rfl
  obtain ⟨a1, a2, a3, a4, a5, a6, a7⟩ := h
  have ag : agS X Z := fun a j h1 h2 h3 => by
    rw [eZ]
    by_cases e : a = 188
    · subst e
      rw [aPut_at (fun q => h3 ⟨rfl, by omega⟩)]
      exact f 188 j h1 h2
    · rw [aPut_cell e]
      exact f a j h1 h2
  refine ⟨⟨agS_t a1 ag, by rw [z 60 (by decide) (by decide) (by decide)]; exact a2, by rw [z 61 (by decide) (by decide) (by decide)]; exact a3, by rw [z 62 (by decide) (by decide) (by decide)]; exact a4, by rw [z 63 (by decide) (by decide) (by decide)]; exact a5, by rw [z 65 (by decide) (by decide) (by decide)]; exact a6, by rw [z 64 (by decide) (by decide) (by decide)]; exact a7⟩, Or.inr ⟨?_, X, v, Y, a1, h55, ?_⟩⟩
  · rw [a2, a1 226 _ (by decide) rfl (by omega)] at h226
    exact h226
  · rw [eZ, aPut_same, h66, f 188 60 (by decide) rfl, a2, f 227 _ (by decide) rfl, a1 227 _ (by decide) rfl (by omega)]
/-- the reference's days, one after another -/
def rDays : List Dy → pMem → pMem → Prop
  | [], M, N => N = M
  | d :: r, M, N => (M 188 3 = kI 60 ∧ N = M) ∨ (¬ M 188 3 = kI 60 ∧ ∃ u M1 M2, D_101 d.1 d.2.1 d.2.2 M u M1 ∧ stD M1 M2 ∧ rDays r M2 N)
/-- days of lines: who is named by a line of its own belongs to the next day, if that counts -/
def dyL (p : Int32) (s : Int32) : List (Int32 × Int32) → List Dy
  | [] => []
  | w :: r => if w.1 = kI 28 then dyL p (if p = 0 then s else w.2) r else (w.1 - kI 24, w.2, s) :: dyL p (kI (-1)) r
theorem dyL_fold {p : Int32} (hp : ¬ p = 0) : ∀ {l : List (Int32 × Int32)} {a : List Dy} {s : Int32}, (l.foldl plDay (a, s)).1 = a ++ dyL p s l := by
  intro l
  induction l with
  | nil => intro a s; exact (List.append_nil a).symm
  | cons w r ih =>
    intro a s
    rw [List.foldl_cons]
    by_cases c : w.1 = kI 28
    · have e1 : plDay (a, s) w = (a, w.2) := by unfold plDay; rw [if_pos c]
      have e2 : dyL p s (w :: r) = dyL p w.2 r := by
        show (if w.1 = kI 28 then dyL p (if p = 0 then s else w.2) r else _) = _
        rw [if_pos c, if_neg hp]
      rw [e1, e2, ih]
    · have e1 : plDay (a, s) w = (a ++ [(w.1 - kI 24, w.2, s)], kI (-1)) := by unfold plDay; rw [if_neg c]
      have e2 : dyL p s (w :: r) = (w.1 - kI 24, w.2, s) :: dyL p (kI (-1)) r := by
        show (if w.1 = kI 28 then _ else (w.1 - kI 24, w.2, s) :: dyL p (kI (-1)) r) = _
        rw [if_neg c]
      rw [e1, e2, ih, List.append_assoc]
      rfl
theorem dyL_0 : ∀ {l : List (Int32 × Int32)} {a : List Dy} {s : Int32}, (l.foldl plDay (a, s)).1.map (fun d => (d.1, d.2.1, kI (-1))) = a.map (fun d => (d.1, d.2.1, kI (-1))) ++ dyL 0 (kI (-1)) l := by
  intro l
  induction l with
  | nil => intro a s; exact (List.append_nil _).symm
  | cons w r ih =>
    intro a s
    rw [List.foldl_cons]
    by_cases c : w.1 = kI 28
    · have e1 : plDay (a, s) w = (a, w.2) := by unfold plDay; rw [if_pos c]
      have e2 : dyL 0 (kI (-1)) (w :: r) = dyL 0 (kI (-1)) r := by
        show (if w.1 = kI 28 then dyL 0 (if (0 : Int32) = 0 then kI (-1) else w.2) r else _) = _
        rw [if_pos c, if_pos rfl]
      rw [e1, e2, ih]
    · have e1 : plDay (a, s) w = (a ++ [(w.1 - kI 24, w.2, s)], kI (-1)) := by unfold plDay; rw [if_neg c]
      have e2 : dyL 0 (kI (-1)) (w :: r) = (w.1 - kI 24, w.2, kI (-1)) :: dyL 0 (kI (-1)) r := by
        show (if w.1 = kI 28 then _ else (w.1 - kI 24, w.2, kI (-1)) :: dyL 0 (kI (-1)) r) = _
        rw [if_neg c]
      rw [e1, e2, ih, List.map_append, List.append_assoc]
      rfl
def dQ (p2 : Int32) (k : Nat) (l : List (Int32 × Int32)) (x3 x4 : Int32) (M N : pMem) : Prop := ∀ i : Nat, x4.toInt = ((24 * k + i : Nat) : Int) → i ≤ l.length → (M 213 k).toInt = l.length → rlOk (M 214) (M 215) (24 * k) l → rDays (dyL p2 x3 (l.drop i)) M N
theorem cn6 {M1 M2 M3 M4 M5 M6 : pMem} (e2 : M2 = aPut M1 188 60 (M1 188 60 + kI 1)) (e3 : M3 = aPut M2 188 61 (M2 188 61 + f_102 M2)) (e4 : M4 = aPut M3 188 62 (M3 188 62 + M3 188 55)) (e5 : M5 = aPut M4 188 63 (M4 188 63 + M4 188 57)) (e6 : M6 = aPut M5 188 65 (M5 188 65 + M5 188 56)) :
    (∀ a j, ¬ (a = 188 ∧ 60 ≤ j ∧ j ≤ 65 ∧ j ≠ 64) → M6 a j = M1 a j) ∧ M6 188 60 = M1 188 60 + kI 1 ∧ M6 188 61 = M1 188 61 + f_102 M1 ∧ M6 188 62 = M1 188 62 + M1 188 55 ∧ M6 188 63 = M1 188 63 + M1 188 57 ∧ M6 188 65 = M1 188 65 + M1 188 56 := by
  have f2 : f_102 M2 = f_102 M1 := by
    unfold f_102
    rw [e2, aPut_at (by decide)]
  refine ⟨fun a j q => ?_, ?_, ?_, ?_, ?_, ?_⟩
  · by_cases ea : a = 188
    · subst ea
      rw [e6, aPut_at (by omega), e5, aPut_at (by omega), e4, aPut_at (by omega), e3, aPut_at (by omega), e2, aPut_at (by omega)]
    · rw [e6, aPut_cell ea, e5, aPut_cell ea, e4, aPut_cell ea, e3, aPut_cell ea, e2, aPut_cell ea]
  · rw [e6, aPut_at (by decide), e5, aPut_at (by decide), e4, aPut_at (by decide), e3, aPut_at (by decide), e2, aPut_same]
  · rw [e6, aPut_at (by decide), e5, aPut_at (by decide), e4, aPut_at (by decide), e3, aPut_same, f2, e2, aPut_at (by decide)]
  · rw [e6, aPut_at (by decide), e5, aPut_at (by decide), e4, aPut_same, e3, aPut_at (by decide), aPut_at (by decide), e2, aPut_at (by decide), aPut_at (by decide)]
  · rw [e6, aPut_at (by decide), e5, aPut_same, e4, aPut_at (by decide), aPut_at (by decide), e3, aPut_at (by decide), aPut_at (by decide), e2, aPut_at (by decide), aPut_at (by decide)]
  · rw [e6, aPut_same, e5, aPut_at (by decide), aPut_at (by decide), e4, aPut_at (by decide), aPut_at (by decide), e3, aPut_at (by decide), aPut_at (by decide), e2, aPut_at (by decide), aPut_at (by decide)]
theorem L_105_d {k : Nat} {p1 p2 x3 x4 : Int32} {M0 : pMem} {l : List (Int32 × Int32)} (hk : p1.toInt = k) (hk4 : k < 5) (hl : l.length ≤ 24) {v : Unit} {N : pMem} (h : L_105_1 p1 p2 x3 x4 M0 v N) : dQ p2 k l x3 x4 M0 N := by
  refine h (fun x3 x4 M v N => dQ p2 k l x3 x4 M N) ?_
  intro x3 x4 M v N hs i hx hi hm ho
  obtain ⟨_, hs⟩ := hs
  have e24 : (kI 24 * p1 + M 213 (ix p1)).toInt = ((24 * k + l.length : Nat) : Int) := by
    have q : (kI 24 * p1).toInt = 24 * k := by rw [i_mul (by rw [kI_toInt (by decide) (by decide)]; omega) (by rw [kI_toInt (by decide) (by decide)]; omega), kI_toInt (by decide) (by decide), hk]
    rw [ix_of hk, i_add (by rw [q, hm]; omega) (by rw [q, hm]; omega), q, hm]
    omega
  rcases hs with ⟨g, _, hN⟩ | ⟨g, c4, hs⟩
  · rw [i_le, e24, hx] at g
    rw [drop_nil (by omega)]
    exact hN
  · rw [i_le, e24, hx] at g
    have hi2 : i < l.length := by omega
    obtain ⟨⟨r, r1, r2, r3, r4⟩, r5⟩ := ho i l[i] (List.getElem?_eq_getElem hi2)
    have ex : ix x4 = 24 * k + i := ix_of hx
    rw [ex] at hs
    rw [r4, r5] at hs
    have nx : (x4 + kI 1).toInt = ((24 * k + (i + 1) : Nat) : Int) := by rw [i_add1 (by omega), hx]; omega
    have k10 : kI r = kI 10 ↔ r = 10 := by
      rw [yk (by decide) (by decide), kI_toInt (by omega) (by omega)]
      omega
    have w28 : l[i].1 = kI 28 ↔ r = 10 := by
      rw [r3, yk (by decide) (by decide), kI_toInt (by omega) (by omega)]
      omega
    rw [drop_at hi2]
    rcases hs with ⟨g2, hs⟩ | ⟨g2, hs⟩
    · -- a day
      have n28 : ¬ l[i].1 = kI 28 := fun q => g2 (k10.mpr (w28.mp q))
      have ekd : kI r - kI 6 = l[i].1 - kI 24 := by
        rw [r3, i_eq, i_sub (by rw [kI_toInt (by omega) (by omega), kI_toInt (by decide) (by decide)]; omega) (by rw [kI_toInt (by omega) (by omega), kI_toInt (by decide) (by decide)]; omega),
          i_sub (by rw [kI_toInt (by omega) (by omega), kI_toInt (by decide) (by decide)]; omega) (by rw [kI_toInt (by omega) (by omega), kI_toInt (by decide) (by decide)]; omega),
          kI_toInt (n := (r : Int)) (by omega) (by omega), kI_toInt (n := ((r + 18 : Nat) : Int)) (by omega) (by omega), kI_toInt (n := 6) (by decide) (by decide), kI_toInt (n := 24) (by decide) (by decide)]
        omega
      have ed : dyL p2 x3 (l[i] :: l.drop (i + 1)) = (l[i].1 - kI 24, l[i].2, x3) :: dyL p2 (kI (-1)) (l.drop (i + 1)) := by
        show (if l[i].1 = kI 28 then _ else (l[i].1 - kI 24, l[i].2, x3) :: dyL p2 (kI (-1)) (l.drop (i + 1))) = _
        rw [if_neg n28]
      rw [ed]
      rcases hs with ⟨g3, hs⟩ | ⟨g3, _, hN⟩
      · obtain ⟨_, _, u, M1, h101, M2, e2, M3, e3, M4, e4, M5, e5, M6, e6, hs⟩ := hs
        rw [ekd] at h101
        refine Or.inr ⟨g3, u, M1, ?_⟩
        have f := F_101 h101
        have m1 : ∀ a j, (a = 213 ∨ a = 214 ∨ a = 215) → M1 a j = M a j := fun a j ha => f a j (by omega) (by rcases ha with rfl | rfl | rfl <;> rfl) (by simp only [l_101, pOut_cons, pOut_nil, true_or, and_true]; omega)
        obtain ⟨c0, c60, c61, c62, c63, c65⟩ := cn6 e2 e3 e4 e5 e6
        have ag6 : agS M1 M6 := fun a j _ _ h3 => c0 a j (by omega)
        have m64 : M6 188 64 = M1 188 64 := c0 188 64 (by omega)
        have m54 : M6 188 54 = M1 188 54 := c0 188 54 (by omega)
        have m66 : M6 188 66 = M1 188 66 := c0 188 66 (by omega)
        have fin : ∀ X : pMem, stD M1 X → dQ p2 k l (kI (-1)) (x4 + kI 1) X N → ∃ M2, D_101 (l[i].1 - kI 24) l[i].2 x3 M u M1 ∧ stD M1 M2 ∧ rDays (dyL p2 (kI (-1)) (l.drop (i + 1))) M2 N := by
          intro X hX hq
          have r : ∀ a j, (a = 213 ∨ a = 214 ∨ a = 215) → X a j = M a j := fun a j ha => by
            rw [hX.1.1 a j (by omega) (by rcases ha with rfl | rfl | rfl <;> rfl) (by omega)]
            exact m1 a j ha
          refine ⟨X, h101, hX, hq (i + 1) nx (by omega) (by rw [r 213 k (by omega)]; exact hm) ?_⟩
          rw [show X 214 = M 214 from funext fun j => r 214 j (by omega), show X 215 = M 215 from funext fun j => r 215 j (by omega)]
          exact ho
        have o6 : (¬ (M1 188 64 = kI (-1) ∧ ¬ M1 188 54 = 0)) → cnA M1 M6 := fun q => ⟨ag6, c60, c61, c62, c63, c65, by rw [if_neg q]; exact m64⟩
        rcases hs with ⟨g4, _, hs⟩ | ⟨g4, hs⟩
        · have a6 := o6 (fun q => g4 (m64.trans q.1))
          rcases hs with ⟨g5, hs⟩ | ⟨g5, v2, M7, h55, _, M8, e8, hs⟩
          · exact fin M6 (leaf_0 a6 m66 g5) hs
          · exact fin M8 (leaf_1 a6 m66 g5 h55 e8) hs
        · have g4 := Classical.not_not.mp g4
          rw [m64] at g4
          rcases hs with ⟨g5, _, hs⟩ | ⟨g5, M7, e7, _, hs⟩
          · have a6 := o6 (fun q => q.2 (m54.symm.trans g5))
            rcases hs with ⟨g6, hs⟩ | ⟨g6, v2, M7, h55, _, M8, e8, hs⟩
            · exact fin M6 (leaf_0 a6 m66 g6) hs
            · exact fin M8 (leaf_1 a6 m66 g6 h55 e8) hs
          · have z : ∀ j, j ≠ 64 → M7 188 j = M6 188 j := fun j hj => by rw [e7, aPut_at hj]
            have a7 : cnA M1 M7 := by
              refine ⟨fun a j h1 h2 h3 => ?_, by rw [z 60 (by decide)]; exact c60, by rw [z 61 (by decide)]; exact c61, by rw [z 62 (by decide)]; exact c62, by rw [z 63 (by decide)]; exact c63, by rw [z 65 (by decide)]; exact c65, ?_⟩
              · rw [← ag6 a j h1 h2 h3, e7]
                by_cases e : a = 188
                · subst e
                  exact aPut_at (by omega)
                · exact aPut_cell e
              · rw [if_pos ⟨g4, fun q => g5 (m54.trans q)⟩, e7, aPut_same, c60]
            have n66 : M7 188 66 = M1 188 66 := (z 66 (by decide)).trans m66
            rcases hs with ⟨g6, hs⟩ | ⟨g6, v2, M8, h55, _, M9, e9, hs⟩
            · exact fin M7 (leaf_0 a7 n66 g6) hs
            · exact fin M9 (leaf_1 a7 n66 g6 h55 e9) hs
      · exact Or.inl ⟨Classical.not_not.mp g3, hN⟩
    · -- men on the sly
      have e28 := w28.mpr (k10.mp (Classical.not_not.mp g2))
      have ed : dyL p2 x3 (l[i] :: l.drop (i + 1)) = dyL p2 (if p2 = 0 then x3 else l[i].2) (l.drop (i + 1)) := by
        show (if l[i].1 = kI 28 then dyL p2 (if p2 = 0 then x3 else l[i].2) (l.drop (i + 1)) else _) = _
        rw [if_pos e28]
      rw [ed]
      rcases hs with ⟨g3, hs⟩ | ⟨g3, _, hs⟩
      · rw [if_pos g3]
        exact hs (i + 1) nx (by omega) hm ho
      · rw [if_neg g3]
        exact hs (i + 1) nx (by omega) hm ho
/-- the seven counts, to begin with -/
def cn0 (M : pMem) : Prop := M 188 60 = kI 0 ∧ M 188 61 = kI 0 ∧ M 188 62 = kI 0 ∧ M 188 63 = kI 0 ∧ M 188 64 = kI (-1) ∧ M 188 65 = kI 0 ∧ M 188 66 = kI 0
theorem D_105_d {k : Nat} {p1 p2 : Int32} {M : pMem} {l : List (Int32 × Int32)} (hk : p1.toInt = k) (hk4 : k < 5) (hl : l.length ≤ 24) (hm : (M 213 k).toInt = l.length) (ho : rlOk (M 214) (M 215) (24 * k) l) {v : Unit} {N : pMem} (h : D_105 p1 p2 M v N) :
    ∃ M7, cn0 M7 ∧ (∀ a j, ¬ (a = 188 ∧ 60 ≤ j ∧ j ≤ 66) → M7 a j = M a j) ∧ rDays (dyL p2 (kI (-1)) l) M7 N := by
  obtain ⟨M1, e1, M2, e2, M3, e3, M4, e4, M5, e5, M6, e6, M7, e7, h⟩ := h
  have q7 : ∀ a j, ¬ (a = 188 ∧ 60 ≤ j ∧ j ≤ 66) → M7 a j = M a j := fun a j q => by
    by_cases ea : a = 188
    · subst ea
      rw [e7, aPut_at (by omega), e6, aPut_at (by omega), e5, aPut_at (by omega), e4, aPut_at (by omega), e3, aPut_at (by omega), e2, aPut_at (by omega), e1, aPut_at (by omega)]
    · rw [e7, aPut_cell ea, e6, aPut_cell ea, e5, aPut_cell ea, e4, aPut_cell ea, e3, aPut_cell ea, e2, aPut_cell ea, e1, aPut_cell ea]
  refine ⟨M7, ⟨?_, ?_, ?_, ?_, ?_, ?_, ?_⟩, q7, ?_⟩
  · rw [e7, aPut_at (by decide), e6, aPut_at (by decide), e5, aPut_at (by decide), e4, aPut_at (by decide), e3, aPut_at (by decide), e2, aPut_at (by decide), e1, aPut_same]
  · rw [e7, aPut_at (by decide), e6, aPut_at (by decide), e5, aPut_at (by decide), e4, aPut_at (by decide), e3, aPut_at (by decide), e2, aPut_same]
  · rw [e7, aPut_at (by decide), e6, aPut_at (by decide), e5, aPut_at (by decide), e4, aPut_at (by decide), e3, aPut_same]
  · rw [e7, aPut_at (by decide), e6, aPut_at (by decide), e5, aPut_at (by decide), e4, aPut_same]
  · rw [e7, aPut_at (by decide), e6, aPut_at (by decide), e5, aPut_same]
  · rw [e7, aPut_at (by decide), e6, aPut_same]
  · rw [e7, aPut_same]
  · have x0 : (kI 24 * p1).toInt = ((24 * k + 0 : Nat) : Int) := by
      rw [i_mul (by rw [kI_toInt (by decide) (by decide)]; omega) (by rw [kI_toInt (by decide) (by decide)]; omega), kI_toInt (by decide) (by decide), hk]
      omega
    have r := L_105_d hk hk4 hl h 0 x0 (Nat.zero_le _) (by rw [q7 213 k (by omega)]; exact hm) (by
      rw [show M7 214 = M 214 from funext fun j => q7 214 j (by omega), show M7 215 = M 215 from funext fun j => q7 215 j (by omega)]
      exact ho)
    rw [List.drop_zero] at r
    exact r
/-- the class's days -/
def cDays : List Dy → pMem → pMem → Prop
  | [], M, N => N = M
  | d :: r, M, N => (kI 60 ≤ M 19 4 ∧ N = M) ∨ (¬ kI 60 ≤ M 19 4 ∧ ∃ v M1, D_30 d.1 d.2.1 d.2.2 M v M1 ∧ cDays r M1 N)
theorem D_11_d {k : Nat} {p1 : Int32} {M : pMem} {D : List Dy} (hk : p1.toInt = k) (hk4 : k < 4) (hD : pdOk M (37 + 11 * k) D) {v : Int32} {N : pMem} (h : D_11 p1 M v N) : cDays D M N := by
  have h := tIf_p (f_33_iff.mpr (by omega)) h
  obtain ⟨_, h⟩ := h
  rw [ix_of hk] at h
  have r := (h (fun y x3 x4 M v N => y = 37 + 11 * k → ∀ i : Nat, x4.toInt = i → i ≤ D.length → pdOk M y D → cDays (D.drop i) M N) ?_) rfl 0 rfl (Nat.zero_le _) hD
  · rw [List.drop_zero] at r
    exact r
  · intro y x3 x4 M v N hs hy i hx4 hi hD
    subst hy
    have hl : (M (37 + 11 * k) 0).toInt = D.length := hD.1
    rcases hs with ⟨g1, hv, hN⟩ | ⟨g1, hs⟩
    · rw [i_le, hl, hx4] at g1
      rw [drop_nil (by omega)]
      exact hN
    · rw [i_le, hl, hx4] at g1
      have hi2 : i < D.length := by omega
      rw [drop_at hi2]
      rcases hs with ⟨g2, hv, hN⟩ | ⟨g2, c4, _, _, v1, M1, h30, hs⟩
      · exact Or.inl ⟨g2, hN⟩
      · have i24 := ix_in c4
        rw [ix_of hx4] at h30 i24
        obtain ⟨e1, e2, e3⟩ := hD.2 i D[i] (List.getElem?_eq_getElem hi2)
        rw [e1, e2, e3] at h30
        have f := F_30 h30
        have pr : ∀ o j, o < 4 → M1 (37 + 11 * k + o) j = M (37 + 11 * k + o) j := fun o j ho => f _ _ (by omega) (pl_scr hk4 ho) (by simp only [l_30, pOut_cons, pOut_nil, true_or, and_true]; omega)
        have d1 : pdOk M1 (37 + 11 * k) D := pdOk_eq hD (pr 0 0 (by omega)) (fun i => ⟨pr 1 i (by omega), pr 2 i (by omega), pr 3 i (by omega)⟩)
        exact Or.inr ⟨g2, v1, M1, h30, hs rfl (i + 1) (by rw [i_add1 (by omega)]; omega) (by omega) d1⟩
/-- who belongs to a day is of a camp, or nobody -/
theorem D_101_bo {p1 p2 p3 : Int32} {M : pMem} {v : Unit} {N : pMem} (h : D_101 p1 p2 p3 M v N) : p3 = kI (-1) ∨ bo p3 := by
  obtain ⟨_, _, _, _, _, _, _, _, _, _, h⟩ := h
  rcases h with ⟨g, _⟩ | ⟨_, g, _⟩
  · exact Or.inl g
  · obtain ⟨q1, q2⟩ := ix_in g
    have e : p3.toInt = 0 ∨ p3.toInt = 1 := by omega
    rcases e with e | e
    · exact Or.inr (Or.inl (kI_inj e))
    · exact Or.inr (Or.inr (kI_inj e))
theorem days_T : ∀ {D : List Dy} {M V Mn N : pMem}, rT 18 M V → cDays D M Mn → rDays D V N → rT 18 Mn N := by
  intro D
  induction D with
  | nil =>
    intro M V Mn N h hc hr
    have e1 : Mn = M := hc
    have e2 : N = V := hr
    rw [e1, e2]
    exact h
  | cons d r ih =>
    intro M V Mn N h hc hr
    have e4 : M 19 4 = V 188 3 := h.2.1.1.2.2.2.2.1.1
    have d60 := h.1.2.2
    rcases hc with ⟨g, e1⟩ | ⟨g, v, M1, h30, hc⟩
    · rcases hr with ⟨_, e2⟩ | ⟨g2, _⟩
      · rw [e1, e2]; exact h
      · rw [i_le, kI_toInt (by decide) (by decide), e4] at g
        exact absurd (show V 188 3 = kI 60 from kI_inj (by omega)) g2
    · rw [i_le, kI_toInt (by decide) (by decide), e4] at g
      rcases hr with ⟨g2, _⟩ | ⟨_, u, N1, N2, h101, hst, hr⟩
      · rw [g2, kI_toInt (by decide) (by decide)] at g
        omega
      · have t1 := (day_T h (by omega) (D_101_bo h101) h30 sc_r h101).1
        have cr : cpC 18 18 M1 M1 := cpC_of fun _ _ _ _ _ => rfl
        exact ih (rT_mv t1 cr (agS_T hst.1.1)) hc hr
