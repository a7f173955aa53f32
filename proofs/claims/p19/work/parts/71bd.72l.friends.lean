/-! friends: the three best, each of those left the best one, of equals the first -/
def bts (W : Nat → Int32) (j c : Nat) : Prop := (W c).toInt < (W j).toInt ∨ ((W j).toInt = (W c).toInt ∧ j < c)
def frT (C : Nat → Bool) (W : Nat → Int32) (n : Nat) (f : Nat → Int32) : Prop := ∀ k, k < 3 →
  (f k = kI (-1) ∧ ∀ c, c < n → C c = true → ∃ m, m < k ∧ f m = kI (c : Nat)) ∨
  (∃ j, j < n ∧ C j = true ∧ f k = kI (j : Nat) ∧ (∀ m, m < k → f m ≠ kI (j : Nat)) ∧ ∀ c, c < n → C c = true → c ≠ j → (∀ m, m < k → f m ≠ kI (c : Nat)) → bts W j c)
section FR
variable {C D : Nat → Bool} {W X : Nat → Int32} {n m : Nat} {f g : Nat → Int32}
theorem kIn {a b : Nat} (ha : a < 1000) (hb : b < 1000) (h : kI (a : Nat) = kI (b : Nat)) : a = b := by
  have := congrArg Int32.toInt h
  rw [kI_toInt (by omega) (by omega), kI_toInt (by omega) (by omega)] at this
  omega
theorem kIn1 {a : Nat} (ha : a < 1000) : ¬ kI (a : Nat) = kI (-1) := fun h => by
  have := congrArg Int32.toInt h
  rw [kI_toInt (by omega) (by omega), kI_toInt (by decide) (by decide)] at this
  omega
/-- there is but one such row -/
theorem frT_det (hn : n ≤ 100) (hf : frT C W n f) (hg : frT C W n g) : ∀ k, k < 3 → f k = g k := by
  intro k
  induction k using Nat.strongRecOn with
  | _ k ih =>
    intro hk
    have e : ∀ m, m < k → f m = g m := fun m hm => ih m hm (by omega)
    rcases hf k hk with ⟨f1, f2⟩ | ⟨j, j1, j2, j3, j4, j5⟩ <;> rcases hg k hk with ⟨g1, g2⟩ | ⟨i, i1, i2, i3, i4, i5⟩
    · rw [f1, g1]
    · obtain ⟨m, m1, m2⟩ := f2 i i1 i2
      rw [e m m1] at m2
      exact absurd m2 (i4 m m1)
    · obtain ⟨m, m1, m2⟩ := g2 j j1 j2
      rw [← e m m1] at m2
      exact absurd m2 (j4 m m1)
    · by_cases q : j = i
      · rw [j3, i3, q]
      · have b1 := j5 i i1 i2 (fun r => q r.symm) (fun m hm r => i4 m hm (by rw [← e m hm]; exact r))
        have b2 := i5 j j1 j2 q (fun m hm r => j4 m hm (by rw [e m hm]; exact r))
        unfold bts at b1 b2
        omega
theorem frT_cg (hC : ∀ c, c < n → C c = D c) (hW : ∀ c, c < n → C c = true → W c = X c) (h : frT C W n f) : frT D X n f := by
  intro k hk
  rcases h k hk with ⟨f1, f2⟩ | ⟨j, j1, j2, j3, j4, j5⟩
  · exact Or.inl ⟨f1, fun c hc hy => f2 c hc (by rw [hC c hc]; exact hy)⟩
  · refine Or.inr ⟨j, j1, by rw [← hC j j1]; exact j2, j3, j4, fun c hc hy ne h2 => ?_⟩
    have hy' : C c = true := by rw [hC c hc]; exact hy
    have b := j5 c hc hy' ne h2
    unfold bts at b ⊢
    rw [← hW c hc hy', ← hW j j1 j2]
    exact b
/-- beyond n there is nobody -/
theorem frT_ext (hm : n ≤ m) (hC : ∀ c, n ≤ c → c < m → C c = false) (h : frT C W n f) : frT C W m f := by
  intro k hk
  have q : ∀ c, c < m → C c = true → c < n := fun c hc hy => Classical.byContradiction fun r => by
    rw [hC c (by omega) hc] at hy
    cases hy
  rcases h k hk with ⟨f1, f2⟩ | ⟨j, j1, j2, j3, j4, j5⟩
  · exact Or.inl ⟨f1, fun c hc hy => f2 c (q c hc hy) hy⟩
  · exact Or.inr ⟨j, by omega, j2, j3, j4, fun c hc hy => j5 c (q c hc hy) hy⟩
theorem frT_0 (h : ∀ k, k < 3 → f k = kI (-1)) (hC : ∀ c, c < n → C c = false) : frT C W n f := fun k hk =>
  Or.inl ⟨h k hk, fun c hc hy => by rw [hC c hc] at hy; cases hy⟩
theorem frT_f (e : ∀ k, k < 3 → g k = f k) (h : frT C W n f) : frT C W n g := by
  intro k hk
  rcases h k hk with ⟨f1, f2⟩ | ⟨j, j1, j2, j3, j4, j5⟩
  · refine Or.inl ⟨by rw [e k hk]; exact f1, fun c hc hy => ?_⟩
    obtain ⟨m, m1, m2⟩ := f2 c hc hy
    exact ⟨m, m1, by rw [e m (by omega)]; exact m2⟩
  · refine Or.inr ⟨j, j1, j2, by rw [e k hk]; exact j3, fun m hm => by rw [e m (by omega)]; exact j4 m hm, fun c hc hy ne h2 => j5 c hc hy ne (fun m hm => by rw [← e m (by omega)]; exact h2 m hm)⟩
/-- one who can't be a friend changes nothing -/
theorem frT_no (hC : C n = false) (h : frT C W n f) : frT C W (n + 1) f := frT_ext (by omega) (fun c h1 h2 => by rw [show c = n by omega]; exact hC) h
/-- those that come behind are of no more worth -/
theorem frT_mono (h : frT C W n f) {a b : Nat} {i j : Nat} (hab : a < b) (hb : b < 3) (hi : i < 1000) (hj : j < n) (hn : n ≤ 100) (ha : f a = kI (i : Nat)) (hbj : f b = kI (j : Nat)) : bts W i j := by
  rcases h b hb with ⟨f1, _⟩ | ⟨j', p1, p2, p3, p4, _⟩
  · rw [hbj] at f1
    exact absurd f1 (kIn1 (by omega))
  · have e := kIn (by omega) (by omega) (hbj.symm.trans p3)
    subst e
    rcases h a (by omega) with ⟨f1, f2⟩ | ⟨i', q1, q2, q3, q4, q5⟩
    · rw [ha] at f1
      exact absurd f1 (kIn1 hi)
    · have e := kIn (by omega) (by omega) (ha.symm.trans q3)
      subst e
      refine q5 j p1 p2 ?_ (fun m hm => p4 m (by omega))
      intro e
      subst e
      exact p4 a hab ha
/-- behind one that is none there is none -/
theorem frT_none (hn : n ≤ 100) (h : frT C W n f) {a b : Nat} (hab : a ≤ b) (hb : b < 3) (ha : f a = kI (-1)) : f b = kI (-1) := by
  rcases h b hb with ⟨f1, _⟩ | ⟨j, p1, p2, p3, p4, _⟩
  · exact f1
  · rcases h a (by omega) with ⟨_, f2⟩ | ⟨i, q1, q2, q3, _⟩
    · obtain ⟨m, m1, m2⟩ := f2 j p1 p2
      exact absurd m2 (p4 m (by omega))
    · by_cases e : a = b
      · rw [← e]; exact ha
      · rw [ha] at q3
        have := congrArg Int32.toInt q3
        rw [kI_toInt (by decide) (by decide)] at this
        exfalso
        rw [kI_toInt (by omega) (by omega)] at this
        omega
/-- n comes in at place p -/
theorem frT_in (hn : n < 100) (hC : C n = true) (h : frT C W n f) {p : Nat} (hp : p ≤ 3) (hlo : ∀ q, p ≤ q → q < 3 → f q = kI (-1) ∨ ∃ j, j < n ∧ f q = kI (j : Nat) ∧ (W j).toInt < (W n).toInt)
    (hhi : ∀ q, q + 1 = p → ∃ j, j < n ∧ f q = kI (j : Nat) ∧ (W n).toInt ≤ (W j).toInt) (hg : ∀ k, k < 3 → g k = if k < p then f k else if k = p then kI (n : Nat) else f (k - 1)) : frT C W (n + 1) g := by
  -- those ahead of p are of no less worth than n
  have ahead : ∀ q, q < p → q < 3 → ∃ j, j < n ∧ f q = kI (j : Nat) ∧ (W n).toInt ≤ (W j).toInt := by
    intro q hq h3
    obtain ⟨j, j1, j2, j3⟩ := hhi (p - 1) (by omega)
    by_cases e : q = p - 1
    · rw [e]
      exact ⟨j, j1, j2, j3⟩
    · rcases h q h3 with ⟨f1, _⟩ | ⟨i, i1, i2, i3, i4, i5⟩
      · have := frT_none (by omega) h (show q ≤ p - 1 by omega) (by omega) f1
        rw [j2] at this
        exact absurd this (kIn1 (by omega))
      · have b := frT_mono h (show q < p - 1 by omega) (by omega) (by omega) j1 (by omega) i3 j2
        refine ⟨i, i1, i3, ?_⟩
        unfold bts at b
        omega
  have fn : ∀ q, q < 3 → f q ≠ kI (n : Nat) := fun q h3 e => by
    rcases h q h3 with ⟨f1, _⟩ | ⟨i, i1, _, i3, _⟩
    · rw [e] at f1
      exact absurd f1 (kIn1 (by omega))
    · have := kIn (by omega) (by omega) (e.symm.trans i3)
      omega
  intro k hk
  rw [hg k hk]
  by_cases c1 : k < p
  · -- ahead: as it was, and n is no better
    rw [if_pos c1]
    obtain ⟨j, j1, j2, j3⟩ := ahead k c1 hk
    have gm : ∀ m, m < k → g m = f m := fun m hm => by rw [hg m (by omega), if_pos (by omega)]
    rcases h k hk with ⟨f1, _⟩ | ⟨i, i1, i2, i3, i4, i5⟩
    · rw [j2] at f1
      exact absurd f1 (kIn1 (by omega))
    · have e := kIn (by omega) (by omega) (j2.symm.trans i3)
      subst e
      refine Or.inr ⟨j, by omega, i2, i3, fun m hm => by rw [gm m hm]; exact i4 m hm, fun c hc hy ne h2 => ?_⟩
      by_cases cn : c = n
      · subst cn
        unfold bts
        omega
      · exact i5 c (by omega) hy ne (fun m hm => by rw [← gm m hm]; exact h2 m hm)
  · rw [if_neg c1]
    by_cases c2 : k = p
    · -- n itself
      rw [if_pos c2]
      have gm : ∀ m, m < k → g m = f m := fun m hm => by rw [hg m (by omega), if_pos (by omega)]
      refine Or.inr ⟨n, by omega, hC, rfl, fun m hm => by rw [gm m hm]; exact fn m (by omega), fun c hc hy ne h2 => ?_⟩
      have hc' : c < n := by omega
      have h2' : ∀ m, m < k → f m ≠ kI (c : Nat) := fun m hm => by rw [← gm m hm]; exact h2 m hm
      rcases h k hk with ⟨f1, f2⟩ | ⟨i, i1, i2, i3, i4, i5⟩
      · obtain ⟨m, m1, m2⟩ := f2 c hc' hy
        exact absurd m2 (h2' m m1)
      · rcases hlo k (by omega) hk with q | ⟨j, j1, j2, j3⟩
        · rw [i3] at q
          exact absurd q (kIn1 (by omega))
        · have e := kIn (by omega) (by omega) (j2.symm.trans i3)
          subst e
          by_cases cj : c = j
          · subst cj
            exact Or.inl j3
          · have b := i5 c hc' hy cj h2'
            unfold bts at b ⊢
            omega
    · -- behind: one place further
      rw [if_neg c2]
      have k1 : k - 1 < 3 := by omega
      have gp : g p = kI (n : Nat) := by rw [hg p (by omega), if_neg (by omega), if_pos rfl]
      -- who is among the first k of g is n, or among the first k - 1 of f
      have gin : ∀ c, (∃ m, m < k - 1 ∧ f m = kI (c : Nat)) → ∃ m, m < k ∧ g m = kI (c : Nat) := by
        rintro c ⟨m, m1, m2⟩
        by_cases q : m < p
        · exact ⟨m, by omega, by rw [hg m (by omega), if_pos q]; exact m2⟩
        · refine ⟨m + 1, by omega, ?_⟩
          rw [hg (m + 1) (by omega), if_neg (by omega), if_neg (by omega)]
          exact m2
      have gout : ∀ c, c < n → (∀ m, m < k - 1 → f m ≠ kI (c : Nat)) → ∀ m, m < k → g m ≠ kI (c : Nat) := by
        intro c hc h2 m hm e
        rw [hg m (by omega)] at e
        by_cases q : m < p
        · rw [if_pos q] at e
          exact h2 m (by omega) e
        · rw [if_neg q] at e
          by_cases r : m = p
          · rw [if_pos r] at e
            have := kIn (by omega) (by omega) e
            omega
          · rw [if_neg r] at e
            exact h2 (m - 1) (by omega) e
      rcases h (k - 1) k1 with ⟨f1, f2⟩ | ⟨i, i1, i2, i3, i4, i5⟩
      · refine Or.inl ⟨f1, fun c hc hy => ?_⟩
        by_cases cn : c = n
        · exact ⟨p, by omega, by rw [gp, cn]⟩
        · exact gin c (f2 c (by omega) hy)
      · refine Or.inr ⟨i, by omega, i2, i3, gout i i1 i4, fun c hc hy ne h2 => ?_⟩
        have cn : c ≠ n := fun e => h2 p (by omega) (by rw [gp, e])
        refine i5 c (by omega) hy ne (fun m hm e => ?_)
        obtain ⟨m', q1, q2⟩ := gin c ⟨m, hm, e⟩
        exact h2 m' q1 q2
end FR
/-! whom a boy may write, and their worth -/
def cnF (V : pMem) (b j : Nat) : Bool := thV V b && (thV V j && !decide (j = b))
def wtF (o : List Cd) (L : List Ln) (V : pMem) (b j : Nat) : Int32 := (teL (FcV V b j) o (kI 19) L).getD (lkV V b j)
/-- the row of friends -/
noncomputable def frs (o : List Cd) (L : List Ln) (V : pMem) (b : Nat) : Nat → Int32 := Classical.epsilon fun f => frT (cnF V b) (wtF o L V b) 24 f
theorem frs_of {o : List Cd} {L : List Ln} {V : pMem} {b : Nat} {f : Nat → Int32} (h : frT (cnF V b) (wtF o L V b) 24 f) : ∀ k, k < 3 → f k = frs o L V b k := by
  have e : frT (cnF V b) (wtF o L V b) 24 (frs o L V b) := Classical.epsilon_spec (p := fun f => frT (cnF V b) (wtF o L V b) 24 f) ⟨f, h⟩
  exact frT_det (by decide) h e
theorem frs_ok {o : List Cd} {L : List Ln} {V : pMem} {b : Nat} {f : Nat → Int32} (h : frT (cnF V b) (wtF o L V b) 24 f) : frT (cnF V b) (wtF o L V b) 24 (frs o L V b) := frT_f (fun k hk => (frs_of h k hk).symm) h
/-! the class: one is put in -/
/-- is this place ahead of one of worth v -/
def ltP (M : pMem) (v : Int32) (q : Nat) : Prop := M 136 q = kI (-1) ∨ M 137 q < v
theorem D_186_v {p1 p2 : Int32} {M v N} (h : D_186 p1 p2 M v N) : ∃ p, p ≤ 3 ∧ (∀ q, p ≤ q → q < 3 → ltP M p2 q) ∧ (∀ q, q + 1 = p → ¬ ltP M p2 q) ∧
    (∀ k, k < 3 → N 136 k = (if k < p then M 136 k else if k = p then p1 else M 136 (k - 1)) ∧ N 137 k = (if k < p then M 137 k else if k = p then p2 else M 137 (k - 1))) ∧ ∀ b, b ≠ 136 → b ≠ 137 → N b = M b := by
  have q := h (fun x3 M' v N => ∀ i : Nat, x3.toInt = i → i ≤ 3 → M' = M → (∀ q, i ≤ q → q < 3 → ltP M p2 q) → ∃ p, p ≤ 3 ∧ (∀ q, p ≤ q → q < 3 → ltP M p2 q) ∧ (∀ q, q + 1 = p → ¬ ltP M p2 q) ∧
    (∀ k, k < 3 → N 136 k = (if k < p then M 136 k else if k = p then p1 else M 136 (k - 1)) ∧ N 137 k = (if k < p then M 137 k else if k = p then p2 else M 137 (k - 1))) ∧ ∀ b, b ≠ 136 → b ≠ 137 → N b = M b,
    fun x3 x4 M' v N => ∀ p j : Nat, x3.toInt = p → x4.toInt = j → p ≤ 3 → (p < 3 → p ≤ j) → j < 3 → (p = 3 → j = 2) → (∀ k, k < 3 → M' 136 k = (if j < k ∧ p < k then M 136 (k - 1) else M 136 k) ∧ M' 137 k = (if j < k ∧ p < k then M 137 (k - 1) else M 137 k)) → (∀ b, b ≠ 136 → b ≠ 137 → M' b = M b) →
    (∀ k, k < 3 → N 136 k = (if k < p then M 136 k else if k = p then p1 else M 136 (k - 1)) ∧ N 137 k = (if k < p then M 137 k else if k = p then p2 else M 137 (k - 1))) ∧ ∀ b, b ≠ 136 → b ≠ 137 → N b = M b) ⟨?_, ?_⟩
  · exact q 3 rfl (Nat.le_refl _) rfl (fun q h1 h2 => by omega)
  · intro x3 M' v N hs i hi hi3 hM hq
    rw [hM] at hs
    have row : ∀ (p : Nat), (p = 3 → True) → ∀ k, k < 3 → M 136 k = (if 2 < k ∧ p < k then M 136 (k - 1) else M 136 k) ∧ M 137 k = (if 2 < k ∧ p < k then M 137 (k - 1) else M 137 k) := fun p _ k hk => by
      rw [if_neg (by omega), if_neg (by omega)]
      exact ⟨rfl, rfl⟩
    rcases hs with ⟨g, hs⟩ | ⟨g, _, hs⟩
    · rw [i_le, hi, i_0] at g
      have e : i = 0 := by omega
      subst e
      obtain ⟨a1, a2⟩ := hs 0 2 hi (kI_toInt (by decide) (by decide)) (by omega) (by omega) (by omega) (by omega) (row 0 (fun _ => trivial)) (fun _ _ _ => rfl)
      exact ⟨0, by omega, hq, fun q hq => by omega, a1, a2⟩
    · rw [i_le, hi, i_0] at g
      have i1 : x3.toInt = ((i - 1 + 1 : Nat) : Int) := by rw [hi]; omega
      rw [ix_of (dn2 i1)] at hs
      have down : ltP M p2 (i - 1) → ∀ q, i - 1 ≤ q → q < 3 → ltP M p2 q := fun h0 q h1 h2 => by
        by_cases r : q = i - 1
        · rw [r]; exact h0
        · exact hq q (by omega) h2
      rcases hs with ⟨g2, hs⟩ | ⟨g2, _, hs⟩
      · exact hs (i - 1) (dn1 i1) (by omega) rfl (down (Or.inl g2))
      · rcases hs with ⟨g3, hs⟩ | ⟨g3, hs⟩
        · obtain ⟨a1, a2⟩ := hs i 2 hi (kI_toInt (by decide) (by decide)) hi3 (by omega) (by omega) (by omega) (row i (fun _ => trivial)) (fun _ _ _ => rfl)
          refine ⟨i, hi3, hq, fun q hq2 hl => ?_, a1, a2⟩
          have eq : q = i - 1 := by omega
          rw [eq] at hl
          rcases hl with hl | hl
          · exact g2 hl
          · rw [i_lt] at hl
            rw [i_le] at g3
            omega
        · refine hs (i - 1) (dn1 i1) (by omega) rfl (down (Or.inr ?_))
          rw [i_lt]
          rw [i_le] at g3
          omega
  · intro x3 x4 M' v N hs p j hp hj hp3 hpj hj3 hpe hr hb
    rcases hs with ⟨g, hs⟩ | ⟨g, _, _, M1, e1, _, _, M2, e2, hs⟩
    · rw [i_le, hj, hp] at g
      rcases hs with ⟨g2, _, hN⟩ | ⟨g2, _, M1, e1, _, M2, e2, _, hN⟩
      · rw [i_le, hp, kI_toInt (by decide) (by decide)] at g2
        rw [hN]
        refine ⟨fun k hk => ?_, hb⟩
        obtain ⟨r1, r2⟩ := hr k hk
        rw [r1, r2, if_neg (show ¬ (j < k ∧ p < k) by omega), if_neg (show ¬ (j < k ∧ p < k) by omega), if_pos (show k < p by omega), if_pos (show k < p by omega)]
        exact ⟨rfl, rfl⟩
      · rw [i_le, hp, kI_toInt (by decide) (by decide)] at g2
        rw [ix_of hp] at e1 e2
        have ej : j = p := by have := hpj (by omega); omega
        rw [hN]
        refine ⟨fun k hk => ?_, fun b h1 h2 => ?_⟩
        · obtain ⟨r1, r2⟩ := hr k hk
          rw [e2, aPut_cell (by decide), e1, aPut_row, aPut_row, aPut_cell (by decide), r1, r2]
          by_cases c : k = p
          · rw [if_pos c, if_pos c, if_pos c, if_pos c, if_neg (show ¬ k < p by omega), if_neg (show ¬ k < p by omega)]
            exact ⟨rfl, rfl⟩
          · rw [if_neg c, if_neg c, if_neg c, if_neg c]
            by_cases d : k < p
            · rw [if_pos d, if_pos d, if_neg (show ¬ (j < k ∧ p < k) by omega), if_neg (show ¬ (j < k ∧ p < k) by omega)]
              exact ⟨rfl, rfl⟩
            · rw [if_neg d, if_neg d, if_pos (show j < k ∧ p < k by omega), if_pos (show j < k ∧ p < k by omega)]
              exact ⟨rfl, rfl⟩
        · rw [← hb b h1 h2, e2, e1]
          funext k
          rw [aPut_cell h2, aPut_cell h1]
    · rw [i_le, hj, hp] at g
      have j1 : x4.toInt = ((j - 1 + 1 : Nat) : Int) := by rw [hj]; omega
      rw [ix_of hj, ix_of (dn2 j1)] at e1 e2
      refine hs p (j - 1) hp (dn1 j1) hp3 (fun _ => by omega) (by omega) (fun e => by omega) (fun k hk => ?_) (fun b h1 h2 => ?_)
      · obtain ⟨r1, r2⟩ := hr k hk
        obtain ⟨s1, s2⟩ := hr (j - 1) (by omega)
        rw [if_neg (by omega)] at s1 s2
        rw [e2, aPut_cell (by decide), e1, aPut_row, aPut_row, aPut_cell (by decide), aPut_cell (by decide), r1, r2, s1, s2]
        by_cases c : k = j
        · rw [if_pos c, if_pos c, if_pos (by omega), if_pos (by omega), c]
          exact ⟨rfl, rfl⟩
        · rw [if_neg c, if_neg c]
          by_cases d : j < k ∧ p < k
          · rw [if_pos d, if_pos d, if_pos (by omega), if_pos (by omega)]
            exact ⟨rfl, rfl⟩
          · rw [if_neg d, if_neg d, if_neg (by omega), if_neg (by omega)]
            exact ⟨rfl, rfl⟩
      · rw [← hb b h1 h2, e2, e1]
        funext k
        rw [aPut_cell h2, aPut_cell h1]
