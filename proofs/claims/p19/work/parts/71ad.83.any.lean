/-! B as it is read: a machine on tokens. mode 0: a claim is due; 1: behind one; 2: done; 3: a fault -/
abbrev Sm : Type := Nat × Nat × List Nat × List Cd × Nat
theorem suG_le_k {T V : Nat → Int32} : ∀ {n : Nat} {w : Int32} {k : Nat} {o : List Cd}, (suG T V n w k o).1 = 0 → k ≤ (suG T V n w k o).2.1 := by
  intro n
  induction n with
  | zero => intro w k o h; exact absurd h (by decide : ¬ (9 : Nat) = 0)
  | succ n ih =>
    intro w k o h
    have u1 : ∀ {d : Prop} [Decidable d] {k : Nat} {o : List Cd}, (unG T V d k o).1 = 0 → (unG T V d k o).2.1 = k + 1 := by
      intro d _ k o h
      unfold unG at h ⊢
      split
      · rename_i c1
        rw [if_pos c1] at h
        split
        · rename_i c2
          rw [if_pos c2] at h
          exact absurd h (by decide : ¬ (2 : Nat) = 0)
        · rfl
      · rename_i c1
        rw [if_neg c1] at h
        split
        · rfl
        · rename_i c2
          rw [if_neg c2] at h
          exact absurd h (by decide : ¬ (1 : Nat) = 0)
    unfold suG at h ⊢
    by_cases c1 : T k = kI 42 ∨ T k = kI 47
    · rw [if_pos c1] at h ⊢
      by_cases c2 : (unG T V (T k = kI 47) (k + 1) o).1 = 0
      · rw [if_pos c2] at h ⊢
        have := ih h
        have e := u1 c2
        omega
      · rw [if_neg c2] at h
        exact absurd h c2
    · rw [if_neg c1] at h ⊢
      by_cases c3 : T k = kI 43 ∨ T k = kI 45
      · rw [if_pos c3] at h ⊢
        by_cases c2 : (unG T V (T k = kI 47) (k + 1) (o ++ wqC w)).1 = 0
        · rw [if_pos c2] at h ⊢
          have := ih h
          have e := u1 c2
          omega
        · rw [if_neg c2] at h
          exact absurd h c2
      · rw [if_neg c3] at h ⊢
        exact Nat.le_refl _
theorem unG_k {T V : Nat → Int32} {d : Prop} [Decidable d] {k : Nat} {o : List Cd} (h : (unG T V d k o).1 = 0) : (unG T V d k o).2.1 = k + 1 := by
  unfold unG at h ⊢
  split
  · rename_i c1
    rw [if_pos c1] at h
    split
    · rename_i c2
      rw [if_pos c2] at h
      exact absurd h (by decide : ¬ (2 : Nat) = 0)
    · rfl
  · rename_i c1
    rw [if_neg c1] at h
    split
    · rfl
    · rename_i c2
      rw [if_neg c2] at h
      exact absurd h (by decide : ¬ (1 : Nat) = 0)
theorem suS_lt {T V : Nat → Int32} {k : Nat} {o : List Cd} {r : Rs} (h : suS T V k o r) (h0 : r.1 = 0) : k < r.2.1 := by
  rcases h with ⟨a, e⟩ | ⟨a, _, n, e⟩
  · rw [e] at h0
    exact absurd h0 a
  · rw [← e] at h0 ⊢
    have := suG_le_k h0
    have e := unG_k a
    omega
/-- E with a sign and E behind -/
def cmR (T V : Nat → Int32) (k : Nat) (o : List Cd) (r : Rs) : Prop := ∃ r1, suS T V k o r1 ∧ ((r1.1 ≠ 0 ∧ r = r1) ∨ (r1.1 = 0 ∧ ((¬ (60 ≤ (T r1.2.1).toInt ∧ (T r1.2.1).toInt ≤ 62) ∧ r = (1, r1.2.1, r1.2.2)) ∨
  ((60 ≤ (T r1.2.1).toInt ∧ (T r1.2.1).toInt ≤ 62) ∧ ∃ r2, suS T V (r1.2.1 + 1) r1.2.2 r2 ∧ ((r2.1 ≠ 0 ∧ r = r2) ∨ (r2.1 = 0 ∧ r = (0, r2.2.1, r2.2.2 ++ [((T r1.2.1).toInt.toNat - 54, kI 0)])))))))
theorem cmR_det {T V : Nat → Int32} {k : Nat} {o : List Cd} {r r' : Rs} (h : cmR T V k o r) (h' : cmR T V k o r') : r = r' := by
  obtain ⟨r1, a1, a2⟩ := h
  obtain ⟨r2, b1, b2⟩ := h'
  obtain rfl := suP_det a1 b1
  rcases a2 with ⟨c1, c2⟩ | ⟨c1, c2⟩ <;> rcases b2 with ⟨d1, d2⟩ | ⟨d1, d2⟩
  · rw [c2, d2]
  · exact absurd d1 c1
  · exact absurd c1 d1
  · rcases c2 with ⟨c2, c3⟩ | ⟨c2, q1, c3, c4⟩ <;> rcases d2 with ⟨d2, d3⟩ | ⟨d2, q2, d3, d4⟩
    · rw [c3, d3]
    · exact absurd d2 c2
    · exact absurd c2 d2
    · obtain rfl := suP_det c3 d3
      rcases c4 with ⟨c4, c5⟩ | ⟨c4, c5⟩ <;> rcases d4 with ⟨d4, d5⟩ | ⟨d4, d5⟩
      · rw [c5, d5]
      · exact absurd d4 c4
      · exact absurd c4 d4
      · rw [c5, d5]
def opn (S : List Nat) : Nat := S.countP fun x => x == 9 || x == 12
def lead (x : Nat) (S : List Nat) : Nat := (S.takeWhile (· == x)).length
def nC (c : Nat) : List Cd := if c = 0 then [] else [(9, kI (c : Nat))]
def rep (a : Nat) (x : Nat) : List Cd := List.replicate a (x, kI 0)
/-- behind a claim: what waits is put, the rest of the stack -/
def stA (S : List Nat) (o : List Cd) : List Nat × List Cd := (S.dropWhile (· == 10), o ++ rep (lead 10 S) 10)
def stO (S : List Nat) (o : List Cd) : List Nat × List Cd := ((stA S o).1.dropWhile (· == 11), (stA S o).2 ++ rep (lead 11 (stA S o).1) 11)
def stN (S : List Nat) (o : List Cd) : List Nat × List Cd := (S.dropWhile (· == 9), o ++ nC (lead 9 S))
/-- a step -/
def stM (T V : Nat → Int32) (s t : Sm) : Prop :=
  (s.1 = 0 ∧ (((T s.2.1 = kI 23 ∨ T s.2.1 = kI 40) ∧ opn s.2.2.1 = 8 ∧ t = (3, s.2.1, s.2.2.1, s.2.2.2.1, 3)) ∨
    ((T s.2.1 = kI 23 ∨ T s.2.1 = kI 40) ∧ ¬ opn s.2.2.1 = 8 ∧ t = (0, s.2.1 + 1, (if T s.2.1 = kI 23 then 9 else 12) :: s.2.2.1, s.2.2.2.1, 0)) ∨
    (¬ (T s.2.1 = kI 23 ∨ T s.2.1 = kI 40) ∧ ∃ r, cmR T V s.2.1 s.2.2.2.1 r ∧ ((r.1 ≠ 0 ∧ t = (3, r.2.1, s.2.2.1, r.2.2, r.1)) ∨ (r.1 = 0 ∧ t = (1, r.2.1, (stN s.2.2.1 r.2.2).1, (stN s.2.2.1 r.2.2).2, 0)))))) ∨
  (s.1 = 1 ∧ t = (if T s.2.1 = kI 22 then (0, s.2.1 + 1, 10 :: (stA s.2.2.1 s.2.2.2.1).1, (stA s.2.2.1 s.2.2.2.1).2, 0)
    else if T s.2.1 = kI 21 then (0, s.2.1 + 1, 11 :: (stO s.2.2.1 s.2.2.2.1).1, (stO s.2.2.1 s.2.2.2.1).2, 0)
    else if ¬ 12 ∈ (stO s.2.2.1 s.2.2.2.1).1 then (2, s.2.1, (stO s.2.2.1 s.2.2.2.1).1, (stO s.2.2.1 s.2.2.2.1).2, 0)
    else if ¬ T s.2.1 = kI 41 then (3, s.2.1, (stO s.2.2.1 s.2.2.2.1).1, (stO s.2.2.1 s.2.2.2.1).2, 1)
    else (1, s.2.1 + 1, (stN (stO s.2.2.1 s.2.2.2.1).1.tail (stO s.2.2.1 s.2.2.2.1).2).1, (stN (stO s.2.2.1 s.2.2.2.1).1.tail (stO s.2.2.1 s.2.2.2.1).2).2, 0)))
theorem stM_det {T V : Nat → Int32} {s t t' : Sm} (h : stM T V s t) (h' : stM T V s t') : t = t' := by
  rcases h with ⟨a, h⟩ | ⟨a, h⟩ <;> rcases h' with ⟨a', h'⟩ | ⟨a', h'⟩
  · rcases h with ⟨b1, b2, b3⟩ | ⟨b1, b2, b3⟩ | ⟨b1, r, b2, b3⟩ <;> rcases h' with ⟨c1, c2, c3⟩ | ⟨c1, c2, c3⟩ | ⟨c1, r', c2, c3⟩
    · rw [b3, c3]
    · exact absurd b2 c2
    · exact absurd b1 c1
    · exact absurd c2 b2
    · rw [b3, c3]
    · exact absurd b1 c1
    · exact absurd c1 b1
    · exact absurd c1 b1
    · obtain rfl := cmR_det b2 c2
      rcases b3 with ⟨d1, d2⟩ | ⟨d1, d2⟩ <;> rcases c3 with ⟨e1, e2⟩ | ⟨e1, e2⟩
      · rw [d2, e2]
      · exact absurd e1 d1
      · exact absurd d1 e1
      · rw [d2, e2]
  · omega
  · omega
  · rw [h, h']
def anS (T V : Nat → Int32) : Nat → Sm → Sm → Prop
  | 0, s, t => s = t
  | n + 1, s, t => ∃ u, stM T V s u ∧ anS T V n u t
def sR (T V : Nat → Int32) (s t : Sm) : Prop := ∃ n, anS T V n s t
section SR
variable {T V : Nat → Int32} {s t u : Sm}
theorem sR_rfl : sR T V s s := ⟨0, rfl⟩
theorem anS_app : ∀ {n m : Nat} {s t u : Sm}, anS T V n s t → anS T V m t u → anS T V (n + m) s u := by
  intro n
  induction n with
  | zero =>
    intro m s t u h1 h2
    rw [Nat.zero_add]
    have h1 : s = t := h1
    rw [h1]
    exact h2
  | succ n ih =>
    intro m s t u h1 h2
    obtain ⟨w, a, b⟩ := h1
    rw [show n + 1 + m = (n + m) + 1 by omega]
    exact ⟨w, a, ih b h2⟩
theorem sR_tr (h1 : sR T V s t) (h2 : sR T V t u) : sR T V s u := by
  obtain ⟨n, a⟩ := h1
  obtain ⟨m, b⟩ := h2
  exact ⟨n + m, anS_app a b⟩
theorem sR_one (h : stM T V s t) : sR T V s t := ⟨1, t, h, rfl⟩
/-- where it ends it ends -/
def fin (s : Sm) : Prop := s.1 = 2 ∨ s.1 = 3
theorem fin_no (h : fin s) : ¬ stM T V s t := by
  rintro (⟨a, _⟩ | ⟨a, _⟩) <;> rcases h with h | h <;> omega
theorem sR_det (h1 : sR T V s t) (h2 : sR T V s u) (f1 : fin t) (f2 : fin u) : t = u := by
  obtain ⟨n, a⟩ := h1
  obtain ⟨m, b⟩ := h2
  induction n generalizing s m with
  | zero =>
    have a : s = t := a
    cases m with
    | zero =>
      have b : s = u := b
      rw [← a, b]
    | succ m =>
      obtain ⟨w, c, _⟩ := b
      rw [a] at c
      exact absurd c (fin_no f1)
  | succ n ih =>
    obtain ⟨w, c, d⟩ := a
    cases m with
    | zero =>
      have b : s = u := b
      rw [b] at c
      exact absurd c (fin_no f2)
    | succ m =>
      obtain ⟨w', c', d'⟩ := b
      obtain rfl := stM_det c c'
      exact ih d m d'
end SR
