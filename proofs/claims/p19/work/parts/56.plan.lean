/-! plans, read by both sides -/
def yT (B : Nat → Int32) (n k : Nat) : Int32 := if xSt B n k < n then xTk B n (xSt B n k) else kI 101
def yV (B : Nat → Int32) (n k : Nat) : Int32 := if xSt B n k < n then xVl B n (xSt B n k) else kI 0
theorem xSt_end {B : Nat → Int32} {n c : Nat} (h : xSt B n c = n) : ∀ d, xSt B n (c + d) = n := by
  intro d
  induction d with
  | zero => exact h
  | succ d ih =>
    show (if xSt B n (c + d) < n then _ else n) = n
    rw [ih, if_neg (Nat.lt_irrefl _)]
/-- the reader stands at token k -/
def rdR (M : pMem) (B : Nat → Int32) (n c k : Nat) : Prop := xToks M B n c ∧ xSt B n c = n ∧ c ≤ n ∧ n ≤ 500 ∧ (M 6 3).toInt = k ∧ (M 1 0).toInt = n
theorem zR_t {M : pMem} {B : Nat → Int32} {n c k : Nat} (h : rdR M B n c k) : f_171 M = yT B n k ∧ f_172 M = yV B n k ∧ (k < c ↔ xSt B n k < n) := by
  obtain ⟨⟨h1, h2⟩, h3, h4, h5, h6, h7⟩ := h
  have e : k < c ↔ xSt B n k < n := by
    constructor
    · intro q
      exact (h2 k q).1
    · intro q
      by_cases g : k < c
      · exact g
      · have := xSt_end h3 (k - c)
        rw [show c + (k - c) = k by omega] at this
        omega
  refine ⟨?_, ?_, e⟩
  · unfold f_171 yT
    simp only [i_lt, i_le, h6, h1, i_0]
    rw [if_neg (show ¬ (k : Int) < 0 by omega)]
    by_cases g : k < c
    · rw [if_neg (show ¬ (c : Int) ≤ (k : Int) by omega), if_pos (e.mp g), ix_of h6]
      exact (h2 k g).2.1
    · rw [if_pos (show (c : Int) ≤ (k : Int) by omega), if_neg (fun q => g (e.mpr q))]
  · unfold f_172 yV
    simp only [i_lt, i_le, h6, h1, i_0]
    rw [if_neg (show ¬ (k : Int) < 0 by omega)]
    by_cases g : k < c
    · rw [if_neg (show ¬ (c : Int) ≤ (k : Int) by omega), if_pos (e.mp g), ix_of h6]
      exact (h2 k g).2.2.2
    · rw [if_pos (show (c : Int) ≤ (k : Int) by omega), if_neg (fun q => g (e.mpr q))]
/-- nothing of the tokens is touched -/
theorem zR_fr {M N : pMem} {B : Nat → Int32} {n c k k' : Nat} {L : List (Nat × Nat)} (h : rdR M B n c k) (f : pFr L M N) (h1 : ∀ j, (pOut L 1 j && (pOut L 3 j && (pOut L 4 j && pOut L 5 j))) = true) (hk : (N 6 3).toInt = k') : rdR N B n c k' := by
  obtain ⟨⟨t1, t2⟩, h3, h4, h5, h6, h7⟩ := h
  have q : ∀ j, (pOut L 1 j = true ∧ pOut L 3 j = true ∧ pOut L 4 j = true ∧ pOut L 5 j = true) := fun j => by
    have := h1 j
    simp only [Bool.and_eq_true] at this
    exact ⟨this.1, this.2.1, this.2.2.1, this.2.2.2⟩
  refine ⟨⟨by rw [f 1 1 (by decide) rfl (q 1).1]; exact t1, fun i hi => ?_⟩, h3, h4, h5, hk, by rw [f 1 0 (by decide) rfl (q 0).1]; exact h7⟩
  rw [f 3 i (by decide) rfl (q i).2.1, f 4 i (by decide) rfl (q i).2.2.1, f 5 i (by decide) rfl (q i).2.2.2]
  exact t2 i hi
theorem D_173_w {M : pMem} {B : Nat → Int32} {n c k : Nat} (h : rdR M B n c k) {p1 : Int32} {v : Int32} {N : pMem} (hD : D_173 p1 M v N) : v = kI 0 ∧ N 6 3 = M 6 3 ∧ N 6 4 = p1 ∧ N 6 5 = kI (xSt B n k) := by
  have hz := zR_t h
  obtain ⟨⟨h1, h2⟩, h3, h4, h5, h6, h7⟩ := h
  obtain ⟨M1, e1, hD⟩ := hD
  have a3 : M1 6 3 = M 6 3 := by rw [e1]; exact aPut_at (by decide)
  have a4 : M1 6 4 = p1 := by rw [e1]; exact aPut_same
  have a10 : M1 1 0 = M 1 0 := by rw [e1]; exact aPut_cell (by decide)
  have a11 : M1 1 1 = M 1 1 := by rw [e1]; exact aPut_cell (by decide)
  have a4' : ∀ i, M1 4 i = M 4 i := fun i => by rw [e1]; exact aPut_cell (by decide)
  rcases hD with ⟨g, _⟩ | ⟨g, hD⟩
  · rw [a3, i_lt, h6, i_0] at g
    omega
  · rcases hD with ⟨g2, M2, e2, hv, hN⟩ | ⟨g2, _, M2, e2, hv, hN⟩
    · rw [a3, a11, i_le, h6, h1] at g2
      have : xSt B n k = n := by
        have := xSt_le (B := B) (n := n) k
        have := hz.2.2
        omega
      subst hN
      rw [e2]
      exact ⟨hv, by rw [aPut_at (by decide)]; exact a3, by rw [aPut_at (by decide)]; exact a4, by rw [aPut_same, a10, this]; exact kI_inj h7⟩
    · rw [a3, a11, i_le, h6, h1] at g2
      subst hN
      rw [e2]
      refine ⟨hv, by rw [aPut_at (by decide)]; exact a3, by rw [aPut_at (by decide)]; exact a4, ?_⟩
      rw [aPut_same, a3, ix_of h6, a4']
      exact (h2 k (by omega)).2.2.1
/-- what a reading function left: fine, at token k'; or a fault f at token k' -/
def zOk (M N : pMem) (v : Int32) (k' : Nat) : Prop := v = kI 1 ∧ (N 6 3).toInt = k' ∧ N 6 4 = M 6 4 ∧ N 6 5 = M 6 5
def rdNo (B : Nat → Int32) (n : Nat) (N : pMem) (v : Int32) (f k' : Nat) : Prop := v = kI 0 ∧ N 6 4 = kI f ∧ N 6 5 = kI (xSt B n k')
theorem at_put {M : pMem} {k : Nat} (h6 : (M 6 3).toInt = k) (h5 : k ≤ 1000) {N : pMem} (hN : N = aPut M 6 3 (M 6 3 + kI 1)) : (N 6 3).toInt = ((k + 1 : Nat) : Int) ∧ N 6 4 = M 6 4 ∧ N 6 5 = M 6 5 := by
  rw [hN]
  refine ⟨by rw [aPut_same, i_add1 (by omega)]; omega, aPut_at (by decide), aPut_at (by decide)⟩
theorem zR_k {M : pMem} {B : Nat → Int32} {n c k : Nat} (h : rdR M B n c k) (h2 : ¬ yT B n k = kI 101) : k < 500 := by
  have := (zR_t h).2.2
  obtain ⟨_, h3, h4, h5, _, _⟩ := h
  by_cases g : xSt B n k < n
  · have := this.mpr g
    omega
  · exact absurd (by unfold yT; rw [if_neg g]) h2
theorem D_176_w {M : pMem} {B : Nat → Int32} {n c k : Nat} (h : rdR M B n c k) {a b : Int32} (hb : b.toInt ≤ 99) {v : Int32} {N : pMem} (hD : D_176 a b M v N) :
    (a.toInt ≤ (yT B n k).toInt ∧ (yT B n k).toInt ≤ b.toInt → zOk M N v (k + 1)) ∧ (¬ (a.toInt ≤ (yT B n k).toInt ∧ (yT B n k).toInt ≤ b.toInt) → rdNo B n N v 1 k) := by
  have ht := (zR_t h).1
  rcases hD with ⟨g, v1, M1, hD, hv, hN⟩ | ⟨g, hD⟩
  · rw [ht, i_lt] at g
    obtain ⟨r1, r2, r3, r4⟩ := D_173_w h hD
    subst hN
    exact ⟨fun q => by omega, fun _ => ⟨hv.trans r1, r3, r4⟩⟩
  · rw [ht, i_lt] at g
    rcases hD with ⟨g2, M1, e1, hv, hN⟩ | ⟨g2, v1, M1, hD, hv, hN⟩
    · rw [ht, i_le] at g2
      have hk := zR_k h (fun e => by rw [e, kI_toInt (by decide) (by decide)] at g2; omega)
      obtain ⟨r1, r2, r3⟩ := at_put h.2.2.2.2.1 (by omega) (hN.trans e1)
      exact ⟨fun _ => ⟨hv, r1, r2, r3⟩, fun q => by omega⟩
    · rw [ht, i_le] at g2
      obtain ⟨r1, r2, r3, r4⟩ := D_173_w h hD
      subst hN
      exact ⟨fun q => by omega, fun _ => ⟨hv.trans r1, r3, r4⟩⟩
theorem D_183_w {M : pMem} {B : Nat → Int32} {n c k : Nat} (h : rdR M B n c k) {a : Int32} {v : Int32} {N : pMem} (hD : D_183 a M v N) :
    (¬ yT B n k = kI 100 → rdNo B n N v 1 k) ∧ (yT B n k = kI 100 → (¬ yV B n k ≤ a → rdNo B n N v 2 k) ∧ (yV B n k ≤ a → zOk M N v (k + 1))) := by
  obtain ⟨ht, hv', _⟩ := zR_t h
  rcases hD with ⟨g, hD⟩ | ⟨g, v1, M1, hD, hv, hN⟩
  · rw [ht] at g
    refine ⟨fun q => absurd g q, fun _ => ?_⟩
    rcases hD with ⟨g2, M1, e1, hv, hN⟩ | ⟨g2, v1, M1, hD, hv, hN⟩
    · rw [hv'] at g2
      have hk := zR_k h (fun e => by rw [e] at g; exact absurd g (by decide))
      obtain ⟨r1, r2, r3⟩ := at_put h.2.2.2.2.1 (by omega) (hN.trans e1)
      exact ⟨fun q => absurd g2 q, fun _ => ⟨hv, r1, r2, r3⟩⟩
    · rw [hv'] at g2
      obtain ⟨r1, r2, r3, r4⟩ := D_173_w h hD
      subst hN
      exact ⟨fun _ => ⟨hv.trans r1, r3, r4⟩, fun q => absurd q g2⟩
  · rw [ht] at g
    obtain ⟨r1, r2, r3, r4⟩ := D_173_w h hD
    subst hN
    exact ⟨fun _ => ⟨hv.trans r1, r3, r4⟩, fun q => absurd q g⟩
/-- a line of a plan: what is wrong (0 nothing), the token behind it (or at which it is wrong), its word and number -/
def plOne (T V : Nat → Int32) (k : Nat) : Nat × Nat × (Int32 × Int32) :=
  if T k = kI 25 ∨ T k = kI 28 then
    (if ¬ T (k + 1) = kI 100 then (1, k + 1, (kI 0, kI 0)) else if ¬ V (k + 1) ≤ (if T k = kI 28 then kI 1 else kI 9) then (2, k + 1, (kI 0, kI 0))
      else if ¬ T (k + 2) = kI 59 then (1, k + 2, (kI 0, kI 0)) else (0, k + 3, (T k, V (k + 1))))
  else if ¬ T (k + 1) = kI 59 then (1, k + 1, (kI 0, kI 0)) else (0, k + 2, (T k, kI 0))
def plL (T V : Nat → Int32) : Nat → Nat → Nat × Nat × List (Int32 × Int32)
  | 0, k => if T k = kI 101 then (0, k, []) else if (T k).toInt < 24 ∨ 28 < (T k).toInt then (1, k, []) else (3, k, [])
  | m + 1, k => if T k = kI 101 then (0, k, []) else if (T k).toInt < 24 ∨ 28 < (T k).toInt then (1, k, []) else
      if (plOne T V k).1 = 0 then ((plL T V m (plOne T V k).2.1).1, (plL T V m (plOne T V k).2.1).2.1, (plOne T V k).2.2 :: (plL T V m (plOne T V k).2.1).2.2)
      else ((plOne T V k).1, (plOne T V k).2.1, [])
/-- days out of lines -/
def plDay (q : List (Int32 × Int32 × Int32) × Int32) (w : Int32 × Int32) : List (Int32 × Int32 × Int32) × Int32 :=
  if w.1 = kI 28 then (q.1, w.2) else (q.1 ++ [(w.1 - kI 24, w.2, q.2)], kI (-1))
/-- a plan of the strings' side holds those days -/
def pdOk (M : pMem) (b : Nat) (l : List (Int32 × Int32 × Int32)) : Prop := (M b 0).toInt = l.length ∧ ∀ i x, l[i]? = some x → M (b + 1) i = x.1 ∧ M (b + 2) i = x.2.1 ∧ M (b + 3) i = x.2.2
theorem pdOk_eq {M N : pMem} {b : Nat} {l : List (Int32 × Int32 × Int32)} (h : pdOk M b l) (h0 : N b 0 = M b 0) (h1 : ∀ i, N (b + 1) i = M (b + 1) i ∧ N (b + 2) i = M (b + 2) i ∧ N (b + 3) i = M (b + 3) i) : pdOk N b l := by
  refine ⟨by rw [h0]; exact h.1, fun i x hx => ?_⟩
  rw [(h1 i).1, (h1 i).2.1, (h1 i).2.2]
  exact h.2 i x hx
theorem D_163_w {M : pMem} {l : List (Int32 × Int32 × Int32)} {p1 p2 : Int32} (h : pdOk M 14 l) (hl : l.length < 24) {v : Unit} {N : pMem} (hD : D_163 14 p1 p2 M v N) : pdOk N 14 (l ++ [(p1, p2, M 14 1)]) ∧ N 14 1 = kI (-1) ∧ N 6 = M 6 := by
  obtain ⟨h1, h2⟩ := h
  have hD := tIf_n (by rw [i_lt, h1, i_0]; omega) hD
  have hD := tIf_n (by rw [i_le, h1, kI_toInt (by decide) (by decide)]; omega) hD
  obtain ⟨_, M1, e1, _, M2, e2, _, M3, e3, M4, e4, M5, e5, _, rfl⟩ := hD
  have ix1 : ix (M 14 0) = l.length := ix_of h1
  have a1 : M1 14 0 = M 14 0 := by rw [e1]; exact aPut_cell (by decide)
  have a2 : M2 14 0 = M 14 0 := by rw [e2, aPut_cell (by decide)]; exact a1
  have a3 : M3 14 0 = M 14 0 := by rw [e3, aPut_cell (by decide)]; exact a2
  have b2 : M2 14 1 = M 14 1 := by rw [e2, aPut_cell (by decide), e1, aPut_cell (by decide)]
  rw [a3] at e4
  rw [a2, b2, ix1] at e3
  rw [a1, ix1] at e2
  rw [ix1] at e1
  refine ⟨⟨?_, fun i x hx => ?_⟩, ?_, ?_⟩
  · rw [e5, aPut_at (by decide), e4, aPut_same, i_add1 (by omega), h1, List.length_append]
    rfl
  · have g15 : N (14 + 1) i = if i = l.length then p1 else M 15 i := by
      rw [e5, aPut_cell (by decide), e4, aPut_cell (by decide), e3, aPut_cell (by decide), e2, aPut_cell (by decide), e1]
      exact aPut_row
    have g16 : N (14 + 2) i = if i = l.length then p2 else M 16 i := by
      rw [e5, aPut_cell (by decide), e4, aPut_cell (by decide), e3, aPut_cell (by decide), e2]
      show aPut M1 16 _ _ 16 i = _
      rw [aPut_row, e1, aPut_cell (by decide)]
    have g17 : N (14 + 3) i = if i = l.length then M 14 1 else M 17 i := by
      rw [e5, aPut_cell (by decide), e4, aPut_cell (by decide), e3]
      show aPut M2 17 _ _ 17 i = _
      rw [aPut_row, e2, aPut_cell (by decide), e1, aPut_cell (by decide)]
    rw [g15, g16, g17]
    by_cases c : i = l.length
    · rw [if_pos c, if_pos c, if_pos c]
      rw [c, List.getElem?_append_right (Nat.le_refl _), Nat.sub_self] at hx
      cases hx
      exact ⟨rfl, rfl, rfl⟩
    · rw [if_neg c, if_neg c, if_neg c]
      by_cases c2 : i < l.length
      · rw [List.getElem?_append_left c2] at hx
        exact h2 i x hx
      · rw [List.getElem?_eq_none (by rw [List.length_append]; show _ ≤ i; have : [(p1, p2, M 14 1)].length = 1 := rfl; omega)] at hx
        cases hx
  · rw [e5]
    exact aPut_same
  · funext i
    rw [e5, aPut_cell (by decide), e4, aPut_cell (by decide), e3, aPut_cell (by decide), e2, aPut_cell (by decide), e1, aPut_cell (by decide)]
/-- the draft of the strings' side: its days so far, the lot that is stirred -/
def pdD (M : pMem) (q : List (Int32 × Int32 × Int32) × Int32) : Prop := pdOk M 14 q.1 ∧ M 14 1 = q.2
theorem pdD_fr {M N : pMem} {q : List (Int32 × Int32 × Int32) × Int32} {L : List (Nat × Nat)} (h : pdD M q) (f : pFr L M N) (h1 : ∀ j, (pOut L 14 j && (pOut L 15 j && (pOut L 16 j && pOut L 17 j))) = true) : pdD N q := by
  have g : ∀ j, (pOut L 14 j = true ∧ pOut L 15 j = true ∧ pOut L 16 j = true ∧ pOut L 17 j = true) := fun j => by
    have := h1 j
    simp only [Bool.and_eq_true] at this
    exact ⟨this.1, this.2.1, this.2.2.1, this.2.2.2⟩
  refine ⟨pdOk_eq h.1 (f 14 0 (by decide) rfl (g 0).1) (fun i => ⟨f 15 i (by decide) rfl (g i).2.1, f 16 i (by decide) rfl (g i).2.2.1, f 17 i (by decide) rfl (g i).2.2.2⟩), ?_⟩
  rw [f 14 1 (by decide) rfl (g 1).1]
  exact h.2
theorem yk {x : Int32} {n : Int} (h1 : -2147483648 ≤ n) (h2 : n ≤ 2147483647) : x = kI n ↔ x.toInt = n := by
  rw [i_eq, kI_toInt h1 h2]
theorem D_182_w {M : pMem} {B : Nat → Int32} {n c k line : Nat} {q : List (Int32 × Int32 × Int32) × Int32} (h : rdR M B n c k) (hq : pdD M q) (hl : q.1.length ≤ line) {p1 : Int32} (hp : p1.toInt = line) {v : Int32} {N : pMem} (hD : D_182 p1 M v N) :
    ((yT B n k).toInt < 24 ∨ 28 < (yT B n k).toInt → rdNo B n N v 1 k) ∧ (¬ ((yT B n k).toInt < 24 ∨ 28 < (yT B n k).toInt) → (¬ line < 24 → rdNo B n N v 3 k) ∧ (line < 24 →
      (¬ (plOne (yT B n) (yV B n) k).1 = 0 → rdNo B n N v (plOne (yT B n) (yV B n) k).1 (plOne (yT B n) (yV B n) k).2.1) ∧
      ((plOne (yT B n) (yV B n) k).1 = 0 → zOk M N v (plOne (yT B n) (yV B n) k).2.1 ∧ pdD N (plDay q (plOne (yT B n) (yV B n) k).2.2)))) := by
  have ht := (zR_t h).1
  rcases hD with ⟨g, v1, M1, hD, hv, hN⟩ | ⟨g, hD⟩
  · rw [ht, i_lt, kI_toInt (by decide) (by decide)] at g
    obtain ⟨r1, r2, r3, r4⟩ := D_173_w h hD
    subst hN
    exact ⟨fun _ => ⟨hv.trans r1, r3, r4⟩, fun q => absurd (Or.inl g) q⟩
  · rw [ht, i_lt, kI_toInt (by decide) (by decide)] at g
    rcases hD with ⟨g2, hD⟩ | ⟨g2, v1, M1, hD, hv, hN⟩
    · rw [ht, i_le, kI_toInt (by decide) (by decide)] at g2
      refine ⟨fun e => by omega, fun _ => ?_⟩
      rcases hD with ⟨g3, M1, e1, hD⟩ | ⟨g3, v1, M1, hD, hv, hN⟩
      · rw [i_lt, hp, kI_toInt (by decide) (by decide)] at g3
        refine ⟨fun e => by omega, fun _ => ?_⟩
        have hk := zR_k h (fun e => by rw [e, kI_toInt (by decide) (by decide)] at g2; omega)
        obtain ⟨s1, s2, s3⟩ := at_put h.2.2.2.2.1 (by omega) e1
        have f1 : pFr [(6, 3)] M M1 := fun a j h1 h2 h3 => by
          rw [e1]
          by_cases e : a = 6
          · subst e
            refine aPut_at (fun e => ?_)
            subst e
            exact absurd h3 (by decide)
          · exact aPut_cell e
        have z1 : rdR M1 B n c (k + 1) := zR_fr h f1 (fun j => rfl) s1
        have q1 : pdD M1 q := pdD_fr hq f1 (fun j => rfl)
        -- the line's number
        have rd : ∀ (a : Int32), (yT B n k = kI 25 ∨ yT B n k = kI 28) → a = (if yT B n k = kI 28 then kI 1 else kI 9) → ∀ v1 M2, D_183 a M1 v1 M2 →
            (v1 = kI 0 → v = kI 0 → N = M2 → (¬ (plOne (yT B n) (yV B n) k).1 = 0 ∧ rdNo B n N v (plOne (yT B n) (yV B n) k).1 (plOne (yT B n) (yV B n) k).2.1)) ∧
            (¬ v1 = kI 0 → zOk M1 M2 v1 (k + 2) ∧ yT B n (k + 1) = kI 100 ∧ yV B n (k + 1) ≤ a ∧ rdR M2 B n c (k + 2) ∧ pdD M2 q) := by
          intro a hT ha v1 M2 hD
          obtain ⟨r1, r2⟩ := D_183_w z1 hD
          have f2 := F_183 hD
          by_cases c1 : yT B n (k + 1) = kI 100
          · obtain ⟨r3, r4⟩ := r2 c1
            by_cases c2 : yV B n (k + 1) ≤ a
            · have r4 := r4 c2
              refine ⟨fun e => ?_, fun _ => ⟨r4, c1, c2, zR_fr z1 f2 (fun j => rfl) r4.2.1, pdD_fr q1 f2 (fun j => rfl)⟩⟩
              rw [r4.1] at e
              exact absurd e (by decide)
            · have r3 := r3 c2
              refine ⟨fun e1 e2 e3 => ?_, fun e => absurd r3.1 e⟩
              have ep : plOne (yT B n) (yV B n) k = (2, k + 1, (kI 0, kI 0)) := by
                unfold plOne
                rw [if_pos hT, if_neg (nn c1), if_pos (by rw [← ha]; exact c2)]
              rw [ep, e2, e3]
              exact ⟨show ¬ (2 : Nat) = 0 by decide, rfl, r3.2.1, r3.2.2⟩
          · have r1 := r1 c1
            refine ⟨fun e1 e2 e3 => ?_, fun e => absurd r1.1 e⟩
            have ep : plOne (yT B n) (yV B n) k = (1, k + 1, (kI 0, kI 0)) := by
              unfold plOne
              rw [if_pos hT, if_pos c1]
            rw [ep, e2, e3]
            exact ⟨show ¬ (1 : Nat) = 0 by decide, rfl, r1.2.1, r1.2.2⟩
        have tv : ∀ v1 : Int32, (¬ v1 = 0 ↔ ¬ v1 = kI 0) := fun v1 => Iff.rfl
        have v172 : f_172 M1 = yV B n (k + 1) := (zR_t z1).2.1
        -- the sign at the end
        have sg : ∀ (M2 M3 : pMem) (k2 : Nat) (q2 : List (Int32 × Int32 × Int32) × Int32) (v3 : Int32), rdR M3 B n c k2 → pdD M3 q2 → M3 6 4 = M 6 4 → M3 6 5 = M 6 5 → D_176 (kI 59) (kI 59) M3 v3 N → v = v3 →
            (yT B n k2 = kI 59 → zOk M N v (k2 + 1) ∧ pdD N q2) ∧ (¬ yT B n k2 = kI 59 → rdNo B n N v 1 k2) := by
          intro M2 M3 k2 q2 v3 z3 d3 e4 e5 hD hv
          obtain ⟨r1, r2⟩ := D_176_w z3 (by decide) hD
          subst hv
          have f3 := F_176 hD
          have e59 : (kI 59).toInt = 59 := rfl
          constructor
          · intro e
            have r1 := r1 (by rw [e]; exact ⟨Int.le_refl _, Int.le_refl _⟩)
            exact ⟨⟨r1.1, r1.2.1, r1.2.2.1.trans e4, r1.2.2.2.trans e5⟩, pdD_fr d3 f3 (fun j => rfl)⟩
          · intro e
            exact r2 (fun w => e (by rw [yk (by decide) (by decide)]; omega))
        have stirP : ∀ M2, rdR M2 B n c (k + 2) → pdD M2 q → M2 6 4 = M1 6 4 → M2 6 5 = M1 6 5 → ∀ M3, M3 = aPut M2 14 1 (f_172 M1) → rdR M3 B n c (k + 2) ∧ pdD M3 (q.1, yV B n (k + 1)) ∧ M3 6 4 = M 6 4 ∧ M3 6 5 = M 6 5 := by
          intro M2 z2 d2 e4 e5 M3 e3
          have f3 : pFr [(14, 1)] M2 M3 := fun a j h1 h2 h3 => by
            rw [e3]
            by_cases e : a = 14
            · subst e
              refine aPut_at (fun e => ?_)
              subst e
              exact absurd h3 (by decide)
            · exact aPut_cell e
          refine ⟨zR_fr z2 f3 (fun j => rfl) (by rw [f3 6 3 (by decide) rfl rfl]; exact z2.2.2.2.2.1), ⟨pdOk_eq d2.1 (f3 14 0 (by decide) rfl rfl) (fun i => ⟨f3 15 i (by decide) rfl rfl, f3 16 i (by decide) rfl rfl, f3 17 i (by decide) rfl rfl⟩), ?_⟩, ?_, ?_⟩
          · rw [e3, aPut_same]
            exact v172
          · rw [f3 6 4 (by decide) rfl rfl, e4, s2]
          · rw [f3 6 5 (by decide) rfl rfl, e5, s3]
        have dayP : ∀ (M2 : pMem) (k2 : Nat) (x : Int32), rdR M2 B n c k2 → pdD M2 q → M2 6 4 = M1 6 4 → M2 6 5 = M1 6 5 → ∀ u M3, D_163 14 (f_171 M - kI 24) x M2 u M3 → rdR M3 B n c k2 ∧ pdD M3 (q.1 ++ [(yT B n k - kI 24, x, q.2)], kI (-1)) ∧ M3 6 4 = M 6 4 ∧ M3 6 5 = M 6 5 := by
          intro M2 k2 x z2 d2 e4 e5 u M3 hD
          have f3 := F_163 (show pK 3 14 = true by decide +kernel) hD
          obtain ⟨r1, r2, r3⟩ := D_163_w d2.1 (by omega) hD
          rw [d2.2, ht] at r1
          refine ⟨zR_fr z2 f3 (fun j => rfl) (by rw [r3]; exact z2.2.2.2.2.1), ⟨r1, r2⟩, by rw [r3, e4, s2], by rw [r3, e5, s3]⟩
        rcases hD with ⟨g4, hD⟩ | ⟨g4, hD⟩
        · -- against
          rw [ht] at g4
          have n28 : ¬ yT B n k = kI 28 := by rw [g4]; decide
          have hD := tIf_p (by rw [ht]; exact n28) hD
          obtain ⟨v1, M2, h183, hD⟩ := hD
          obtain ⟨r1, r2⟩ := rd (kI 9) (Or.inl g4) (by rw [if_neg n28]) v1 M2 h183
          rcases hD with ⟨g5, hD⟩ | ⟨g5, hv, hN⟩
          · obtain ⟨o1, o2, o3, o4, o5⟩ := r2 g5
            have hD := tIf_p (by rw [ht]; exact n28) hD
            obtain ⟨u, M3, h163, v3, M4, h176, hv, hN⟩ := hD
            rw [v172] at h163
            obtain ⟨p1', p2', p3', p4'⟩ := dayP M2 (k + 2) _ o4 o5 o1.2.2.1 o1.2.2.2 u M3 h163
            subst hN
            obtain ⟨w1, w2⟩ := sg M2 M3 (k + 2) _ v3 p1' p2' p3' p4' h176 hv
            by_cases c59 : yT B n (k + 2) = kI 59
            · have ep : plOne (yT B n) (yV B n) k = (0, k + 3, (yT B n k, yV B n (k + 1))) := by
                unfold plOne
                rw [if_pos (Or.inl g4), if_neg (nn o2), if_neg (nn (by rw [if_neg n28]; exact o3)), if_neg (nn c59)]
              rw [ep]
              refine ⟨fun e => absurd rfl e, fun _ => ?_⟩
              have := w1 c59
              refine ⟨this.1, ?_⟩
              unfold plDay
              rw [if_neg n28]
              exact this.2
            · have ep : plOne (yT B n) (yV B n) k = (1, k + 2, (kI 0, kI 0)) := by
                unfold plOne
                rw [if_pos (Or.inl g4), if_neg (nn o2), if_neg (nn (by rw [if_neg n28]; exact o3)), if_pos c59]
              rw [ep]
              exact ⟨fun _ => w2 c59, fun e => absurd e (show ¬ (1 : Nat) = 0 by decide)⟩
          · have := r1 (Classical.not_not.mp g5) hv hN
            exact ⟨fun _ => this.2, fun e => absurd e this.1⟩
        · rw [ht] at g4
          rcases hD with ⟨g5, hD⟩ | ⟨g5, hD⟩
          · -- apart, beside, together
            rw [ht] at g5
            have hD := tIf_p (by rw [ht]; exact g5) hD
            obtain ⟨u, M2, h163, v3, M4, h176, hv, hN⟩ := hD
            obtain ⟨p1', p2', p3', p4'⟩ := dayP M1 (k + 1) _ z1 q1 rfl rfl u M2 h163
            subst hN
            obtain ⟨w1, w2⟩ := sg M1 M2 (k + 1) _ v3 p1' p2' p3' p4' h176 hv
            have nT : ¬ (yT B n k = kI 25 ∨ yT B n k = kI 28) := fun e => e.elim g4 g5
            by_cases c59 : yT B n (k + 1) = kI 59
            · have ep : plOne (yT B n) (yV B n) k = (0, k + 2, (yT B n k, kI 0)) := by
                unfold plOne
                rw [if_neg nT, if_neg (nn c59)]
              rw [ep]
              refine ⟨fun e => absurd rfl e, fun _ => ?_⟩
              have := w1 c59
              refine ⟨this.1, ?_⟩
              unfold plDay
              rw [if_neg g5]
              exact this.2
            · have ep : plOne (yT B n) (yV B n) k = (1, k + 1, (kI 0, kI 0)) := by
                unfold plOne
                rw [if_neg nT, if_pos c59]
              rw [ep]
              exact ⟨fun _ => w2 c59, fun e => absurd e (show ¬ (1 : Nat) = 0 by decide)⟩
          · -- stir
            rw [ht] at g5
            have g5 := Classical.not_not.mp g5
            have hD := tIf_n (by rw [ht]; exact nn g5) hD
            obtain ⟨v1, M2, h183, hD⟩ := hD
            obtain ⟨r1, r2⟩ := rd (kI 1) (Or.inr g5) (by rw [if_pos g5]) v1 M2 h183
            rcases hD with ⟨g6, hD⟩ | ⟨g6, hv, hN⟩
            · obtain ⟨o1, o2, o3, o4, o5⟩ := r2 g6
              have hD := tIf_n (by rw [ht]; exact nn g5) hD
              obtain ⟨M3, e3, v3, M4, h176, hv, hN⟩ := hD
              obtain ⟨p1', p2', p3', p4'⟩ := stirP M2 o4 o5 o1.2.2.1 o1.2.2.2 M3 e3
              subst hN
              obtain ⟨w1, w2⟩ := sg M2 M3 (k + 2) _ v3 p1' p2' p3' p4' h176 hv
              by_cases c59 : yT B n (k + 2) = kI 59
              · have ep : plOne (yT B n) (yV B n) k = (0, k + 3, (yT B n k, yV B n (k + 1))) := by
                  unfold plOne
                  rw [if_pos (Or.inr g5), if_neg (nn o2), if_neg (nn (by rw [if_pos g5]; exact o3)), if_neg (nn c59)]
                rw [ep]
                refine ⟨fun e => absurd rfl e, fun _ => ?_⟩
                have := w1 c59
                refine ⟨this.1, ?_⟩
                unfold plDay
                rw [if_pos g5]
                exact this.2
              · have ep : plOne (yT B n) (yV B n) k = (1, k + 2, (kI 0, kI 0)) := by
                  unfold plOne
                  rw [if_pos (Or.inr g5), if_neg (nn o2), if_neg (nn (by rw [if_pos g5]; exact o3)), if_pos c59]
                rw [ep]
                exact ⟨fun _ => w2 c59, fun e => absurd e (show ¬ (1 : Nat) = 0 by decide)⟩
            · have := r1 (Classical.not_not.mp g6) hv hN
              exact ⟨fun _ => this.2, fun e => absurd e this.1⟩
      · rw [i_lt, hp, kI_toInt (by decide) (by decide)] at g3
        obtain ⟨r1, r2, r3, r4⟩ := D_173_w h hD
        subst hN
        exact ⟨fun _ => ⟨hv.trans r1, r3, r4⟩, fun e => by omega⟩
    · rw [ht, i_le, kI_toInt (by decide) (by decide)] at g2
      obtain ⟨r1, r2, r3, r4⟩ := D_173_w h hD
      subst hN
      exact ⟨fun _ => ⟨hv.trans r1, r3, r4⟩, fun q => absurd (Or.inr (by omega)) q⟩
theorem pl_m {T V : Nat → Int32} (m k : Nat) (h1 : ¬ T k = kI 101) (h2 : (T k).toInt < 24 ∨ 28 < (T k).toInt) : plL T V m k = (1, k, []) := by
  cases m with
  | zero =>
    unfold plL
    rw [if_neg h1, if_pos h2]
  | succ m =>
    unfold plL
    rw [if_neg h1, if_pos h2]
theorem pl_end {T V : Nat → Int32} (m k : Nat) (h1 : T k = kI 101) : plL T V m k = (0, k, []) := by
  cases m with
  | zero =>
    unfold plL
    rw [if_pos h1]
  | succ m =>
    unfold plL
    rw [if_pos h1]
theorem plDay_len {q : List (Int32 × Int32 × Int32) × Int32} {w : Int32 × Int32} : (plDay q w).1.length ≤ q.1.length + 1 := by
  unfold plDay
  split
  · exact Nat.le_succ _
  · rw [List.length_append]
    exact Nat.le_refl _
/-- what readPlan does with plan pl, from some token on -/
def rdPl (M N : pMem) (B : Nat → Int32) (n pl line m k : Nat) (q : List (Int32 × Int32 × Int32) × Int32) (v : Int32) : Prop :=
  ((plL (yT B n) (yV B n) m k).1 = 0 → v.toInt = (line + (plL (yT B n) (yV B n) m k).2.2.length : Nat) ∧ N 6 4 = M 6 4 ∧ N 6 5 = M 6 5 ∧ pdOk N pl ((plL (yT B n) (yV B n) m k).2.2.foldl plDay q).1) ∧
  (¬ (plL (yT B n) (yV B n) m k).1 = 0 → v = kI (-1) ∧ N 6 4 = kI (plL (yT B n) (yV B n) m k).1 ∧ N 6 5 = kI (xSt B n (plL (yT B n) (yV B n) m k).2.1) ∧ N pl 0 = M pl 0 ∧ ∀ i, N (pl + 1) i = M (pl + 1) i ∧ N (pl + 2) i = M (pl + 2) i ∧ N (pl + 3) i = M (pl + 3) i)
theorem D_161_w {M : pMem} {pl : Nat} (hpl : pl = 37 ∨ pl = 48 ∨ pl = 59 ∨ pl = 70) {l : List (Int32 × Int32 × Int32)} (hl : l.length ≤ 24) (h : pdOk M 14 l) {v : Unit} {N : pMem} (hD : D_161 pl 14 M v N) : pdOk N pl l ∧ N 6 = M 6 := by
  obtain ⟨M1, e1, M2, e2, M3, e3, M4, e4, _, rfl⟩ := hD
  have k24 : ix (kI 24) = 24 := rfl
  have k0 : ix (kI 0) = 0 := rfl
  rw [k24, k0] at e2 e3 e4
  have c15 : M1 15 = M 15 := by rw [e1]; funext i; exact aPut_cell (by omega)
  have c16 : M2 16 = M 16 := by rw [e2, aRow_cell (by omega), e1]; funext i; exact aPut_cell (by omega)
  have c17 : M3 17 = M 17 := by rw [e3, aRow_cell (by omega), e2, aRow_cell (by omega), e1]; funext i; exact aPut_cell (by omega)
  refine ⟨⟨?_, fun i x hx => ?_⟩, ?_⟩
  · rw [e4, aRow_cell (by omega), e3, aRow_cell (by omega), e2, aRow_cell (by omega), e1, aPut_same]
    exact h.1
  · have hi : i < 24 := by
      have := (List.getElem?_eq_some_iff.mp hx).1
      omega
    obtain ⟨h1, h2, h3⟩ := h.2 i x hx
    have cp : ∀ f g : Nat → Int32, va_cpy f g 0 0 24 i = f i := fun f g => by
      unfold va_cpy
      rw [if_pos ⟨Nat.zero_le _, by omega⟩]
      congr 1
      omega
    refine ⟨?_, ?_, ?_⟩
    · rw [e4, aRow_cell (by omega), e3, aRow_cell (by omega), e2, aRow_same', cp]
      show M1 15 i = _
      rw [c15]
      exact h1
    · rw [e4, aRow_cell (by omega), e3, aRow_same', cp]
      show M2 16 i = _
      rw [c16]
      exact h2
    · rw [e4, aRow_same', cp]
      show M3 17 i = _
      rw [c17]
      exact h3
  · rw [e4, aRow_cell (by omega), e3, aRow_cell (by omega), e2, aRow_cell (by omega), e1]
    funext i
    exact aPut_cell (by omega)
theorem D_181_w {M0 : pMem} {B : Nat → Int32} {n c pl : Nat} (hpl : pl = 37 ∨ pl = 48 ∨ pl = 59 ∨ pl = 70) (h : rdR M0 B n c 0) {v : Int32} {N : pMem} (hD : D_181 pl M0 v N) : rdPl M0 N B n pl 0 24 0 ([], kI (-1)) v := by
  obtain ⟨_, M1, h162, hD⟩ := hD
  have f1 := F_162 (show pK 3 14 = true by decide +kernel) h162
  obtain ⟨Ma, ea, Mb, eb, _, hM1⟩ := h162
  have z1 : rdR M1 B n c 0 := zR_fr h f1 (fun j => rfl) (by rw [f1 6 3 (by decide) rfl rfl]; exact h.2.2.2.2.1)
  have d1 : pdD M1 ([], kI (-1)) := by
    refine ⟨⟨?_, fun i x hx => by cases hx⟩, ?_⟩
    · rw [hM1, eb, aPut_at (by decide), ea, aPut_same]
      rfl
    · rw [hM1, eb, aPut_same]
  have hne : ∀ j, pl ≠ 14 ∧ pl + 1 ≠ 14 ∧ pl + 2 ≠ 14 ∧ pl + 3 ≠ 14 := fun j => by omega
  have g := (hD (fun x2 M v N => ∀ (line m k : Nat) (q : List (Int32 × Int32 × Int32) × Int32), x2.toInt = line → line + m = 24 → q.1.length ≤ line → rdR M B n c k → pdD M q → rdPl M N B n pl line m k q v) ?_) 0 24 0 ([], kI (-1)) rfl rfl (Nat.le_refl _) z1 d1
  · -- over the clearing
    have r : ∀ a j, a ≠ 14 → a < 230 → pScr a j = false → M1 a j = M0 a j := fun a j h1 h2 h3 => f1 a j h2 h3 (by
      show (!(Nat.beq 14 a && _) && (!(Nat.beq 14 a && _) && true)) = true
      rw [show Nat.beq 14 a = false from Bool.eq_false_iff.mpr fun q => h1 (Nat.eq_of_beq_eq_true q).symm]
      rfl)
    obtain ⟨g1, g2⟩ := g
    refine ⟨fun e => ?_, fun e => ?_⟩
    · obtain ⟨a1, a2, a3, a4⟩ := g1 e
      exact ⟨a1, by rw [a2]; exact r 6 4 (by decide) (by decide) rfl, by rw [a3]; exact r 6 5 (by decide) (by decide) rfl, a4⟩
    · obtain ⟨a1, a2, a3, a4, a5⟩ := g2 e
      refine ⟨a1, a2, a3, ?_, fun i => ?_⟩
      · rw [a4]
        rcases hpl with rfl | rfl | rfl | rfl <;> exact r _ _ (by decide) (by decide) rfl
      · rw [(a5 i).1, (a5 i).2.1, (a5 i).2.2]
        rcases hpl with rfl | rfl | rfl | rfl <;> exact ⟨r _ _ (by decide) (by decide) rfl, r _ _ (by decide) (by decide) rfl, r _ _ (by decide) (by decide) rfl⟩
  · intro x2 M v N hs line m k q hx hm hl hz hd
    have ht := (zR_t hz).1
    have fin : yT B n k = kI 101 → (tCall (D_161 pl 14 M) fun _ M1 => tRet x2 M1) v N → rdPl M N B n pl line m k q v := by
      rintro e ⟨_, M2, h161, hv, hN⟩
      obtain ⟨w1, w2⟩ := D_161_w hpl (by omega) hd.1 h161
      unfold rdPl
      rw [pl_end m k e]
      refine ⟨fun _ => ?_, fun e => absurd rfl e⟩
      rw [hv, hN]
      exact ⟨hx, congrFun w2 4, congrFun w2 5, w1⟩
    rcases hs with ⟨g, hs⟩ | ⟨g, hs⟩
    · rw [i_lt, hx, kI_toInt (by decide) (by decide)] at g
      omega
    · rw [i_lt, hx, kI_toInt (by decide) (by decide)] at g
      rcases hs with ⟨g2, hs⟩ | ⟨g2, v1, M2, h182, hs⟩
      · rw [ht] at g2
        exact fin g2 hs
      · rw [ht] at g2
        obtain ⟨w1, w2⟩ := D_182_w hz hd hl hx h182
        have f2 := F_182 h182
        have fault : ∀ f k', rdNo B n M2 v1 f k' → ¬ f = 0 → plL (yT B n) (yV B n) m k = (f, k', []) → rdPl M N B n pl line m k q v := by
          intro f k' hz0 hf ep
          rcases hs with ⟨g3, _⟩ | ⟨g3, hv, hN⟩
          · exact absurd hz0.1 g3
          · unfold rdPl
            rw [ep]
            refine ⟨fun e => absurd e hf, fun _ => ?_⟩
            rw [hv, hN]
            have r : ∀ a j, (a = pl ∨ a = pl + 1 ∨ a = pl + 2 ∨ a = pl + 3) → M2 a j = M a j := fun a j ha => by
              rcases hpl with rfl | rfl | rfl | rfl <;> rcases ha with rfl | rfl | rfl | rfl <;> exact f2 _ j (by decide) rfl rfl
            exact ⟨rfl, hz0.2.1, hz0.2.2, r _ _ (Or.inl rfl), fun i => ⟨r _ _ (Or.inr (Or.inl rfl)), r _ _ (Or.inr (Or.inr (Or.inl rfl))), r _ _ (Or.inr (Or.inr (Or.inr rfl)))⟩⟩
        by_cases c1 : (yT B n k).toInt < 24 ∨ 28 < (yT B n k).toInt
        · exact fault 1 k (w1 c1) (by decide) (pl_m m k g2 c1)
        · obtain ⟨w3, w4⟩ := w2 c1
          cases m with
          | zero =>
            refine fault 3 k (w3 (by omega)) (by decide) ?_
            unfold plL
            rw [if_neg g2, if_neg c1]
          | succ m =>
            obtain ⟨w5, w6⟩ := w4 (by omega)
            by_cases c2 : (plOne (yT B n) (yV B n) k).1 = 0
            · obtain ⟨o1, o2⟩ := w6 c2
              rcases hs with ⟨g3, hs⟩ | ⟨g3, _⟩
              · have z2 : rdR M2 B n c (plOne (yT B n) (yV B n) k).2.1 := zR_fr hz f2 (fun j => rfl) o1.2.1
                have r := hs (line + 1) m (plOne (yT B n) (yV B n) k).2.1 (plDay q (plOne (yT B n) (yV B n) k).2.2) (by rw [i_add1 (by omega)]; omega) (by omega) (by have := plDay_len (q := q) (w := (plOne (yT B n) (yV B n) k).2.2); omega) z2 o2
                have ep : plL (yT B n) (yV B n) (m + 1) k = ((plL (yT B n) (yV B n) m (plOne (yT B n) (yV B n) k).2.1).1, (plL (yT B n) (yV B n) m (plOne (yT B n) (yV B n) k).2.1).2.1, (plOne (yT B n) (yV B n) k).2.2 :: (plL (yT B n) (yV B n) m (plOne (yT B n) (yV B n) k).2.1).2.2) := by
                  conv => lhs; unfold plL
                  rw [if_neg g2, if_neg c1, if_pos c2]
                unfold rdPl
                rw [ep]
                obtain ⟨r1, r2⟩ := r
                refine ⟨fun e => ?_, fun e => ?_⟩
                · obtain ⟨a1, a2, a3, a4⟩ := r1 e
                  refine ⟨?_, a2.trans o1.2.2.1, a3.trans o1.2.2.2, a4⟩
                  rw [a1, List.length_cons]
                  omega
                · obtain ⟨a1, a2, a3, a4, a5⟩ := r2 e
                  have r : ∀ a j, (a = pl ∨ a = pl + 1 ∨ a = pl + 2 ∨ a = pl + 3) → M2 a j = M a j := fun a j ha => by
                    rcases hpl with rfl | rfl | rfl | rfl <;> rcases ha with rfl | rfl | rfl | rfl <;> exact f2 _ j (by decide) rfl rfl
                  exact ⟨a1, a2, a3, a4.trans (r _ _ (Or.inl rfl)), fun i => ⟨(a5 i).1.trans (r _ _ (Or.inr (Or.inl rfl))), (a5 i).2.1.trans (r _ _ (Or.inr (Or.inr (Or.inl rfl)))), (a5 i).2.2.trans (r _ _ (Or.inr (Or.inr (Or.inr rfl))))⟩⟩
              · exact absurd (Classical.not_not.mp g3) (by rw [o1.1]; decide)
            · refine fault _ _ (w5 c2) c2 ?_
              conv => lhs; unfold plL
              rw [if_neg g2, if_neg c1, if_neg c2]
