/-! what is put aside, and taken back: a counter at (188, c), a row bf, and where the i-th thing stands -/
def cpD (c bf N : Nat) (p : Int32) (M : pMem) (v : Int32) (M1 : pMem) : Prop := ∃ Ma, Ma = aPut M 188 c (M 188 c + kI 1) ∧ ((¬ Ma 188 69 = 0 ∧ pIn (Ma 188 c - kI 1) N ∧ v = p ∧ M1 = aPut Ma bf (ix (Ma 188 c - kI 1)) p) ∨ (Ma 188 69 = 0 ∧ pIn (Ma 188 c - kI 1) N ∧ v = Ma bf (ix (Ma 188 c - kI 1)) ∧ M1 = Ma))
theorem D_107_c {p v : Int32} {M M1 : pMem} (h : D_107 p M v M1) : cpD 68 222 1200 p M v M1 := by
  obtain ⟨Ma, e, h⟩ := h
  refine ⟨Ma, e, ?_⟩
  rcases h with ⟨g, g2, Mb, e2, hv, hN⟩ | ⟨g, g2, hv, hN⟩
  · exact Or.inl ⟨g, g2, hv, by rw [hN, e2]⟩
  · exact Or.inr ⟨Classical.not_not.mp g, g2, hv, hN⟩
theorem D_132_c {p v : Int32} {M M1 : pMem} (h : D_132 p M v M1) : cpD 79 229 8600 p M v M1 := by
  obtain ⟨Ma, e, h⟩ := h
  refine ⟨Ma, e, ?_⟩
  rcases h with ⟨g, g2, Mb, e2, hv, hN⟩ | ⟨g, g2, hv, hN⟩
  · exact Or.inl ⟨g, g2, hv, by rw [hN, e2]⟩
  · exact Or.inr ⟨Classical.not_not.mp g, g2, hv, hN⟩
/-- the first n are put aside (w), or taken back -/
def cpI (c bf : Nat) (P : Nat → Nat × Nat) (w : Prop) (M0 : pMem) (n : Nat) (M : pMem) : Prop :=
  (M 188 c).toInt = n ∧ (w ↔ ¬ M 188 69 = 0) ∧
  (w → (∀ i, M bf i = if i < n then M0 (P i).1 (P i).2 else M0 bf i) ∧ ∀ a j, a ≠ bf → ¬ (a = 188 ∧ j = c) → M a j = M0 a j) ∧
  (¬ w → (∀ i, M bf i = M0 bf i) ∧ (∀ i, i < n → M (P i).1 (P i).2 = M0 bf i) ∧ ∀ a j, (∀ i, i < n → ¬ ((P i).1 = a ∧ (P i).2 = j)) → ¬ (a = 188 ∧ j = c) → M a j = M0 a j)
theorem cp_step {c bf N n a j : Nat} {P : Nat → Nat × Nat} {w : Prop} {M0 M M1 : pMem} {v : Int32} (h : cpI c bf P w M0 n M) (hc : c ≠ 69) (hb : bf ≠ 188) (hN : N ≤ 8600) (hP : P n = (a, j)) (ha : a ≠ bf) (haj : ¬ (a = 188 ∧ (j = c ∨ j = 69))) (inj : ∀ i, i < n → ¬ P i = P n) (out : ∀ i, i ≤ n → (P i).1 ≠ bf ∧ ¬ ((P i).1 = 188 ∧ (P i).2 = c))
    (hD : cpD c bf N (M a j) M v M1) : cpI c bf P w M0 (n + 1) (aPut M1 a j v) := by
  obtain ⟨h1, h2, h3, h4⟩ := h
  obtain ⟨Ma, ea, hD⟩ := hD
  have rg := i_rg (M 188 c)
  have ma : Ma 188 c = M 188 c + kI 1 := by rw [ea, aPut_same]
  have ma69 : Ma 188 69 = M 188 69 := by rw [ea, aPut_at (Ne.symm hc)]
  have mo : ∀ b i, ¬ (b = 188 ∧ i = c) → Ma b i = M b i := fun b i hbi => by
    rw [ea]
    unfold aPut
    by_cases e : b = 188
    · rw [if_pos e, if_neg (fun q => hbi ⟨e, q⟩)]
    · rw [if_neg e]
  have hin : pIn (Ma 188 c - kI 1) N → (Ma 188 c).toInt = ((n + 1 : Nat) : Int) ∧ ix (Ma 188 c - kI 1) = n := by
    intro g
    obtain ⟨g1, g2⟩ := ix_in g
    have big : (M 188 c).toInt ≤ 2147483646 := by
      apply Classical.byContradiction
      intro q
      have e : (M 188 c).toInt = 2147483647 := by omega
      have e2 : M 188 c = kI 2147483647 := kI_inj e
      rw [ma, e2] at g
      exact absurd g (by
        have : kI 2147483647 + kI 1 - kI 1 = kI 2147483647 := by decide
        rw [this]
        rintro ⟨_, q2⟩
        rw [kI_toInt (by decide) (by decide)] at q2
        omega)
    have s1 : (Ma 188 c).toInt = ((n + 1 : Nat) : Int) := by rw [ma, i_add1 big, h1]; omega
    refine ⟨s1, ix_of ?_⟩
    rw [i_sub (by rw [s1, kI1]; omega) (by rw [s1, kI1]; omega), s1, kI1]
    omega
  have c188 : ∀ x, (aPut Ma a j x) 188 c = Ma 188 c := fun x => by
    unfold aPut
    by_cases e : 188 = a
    · rw [if_pos e, if_neg (fun q => haj ⟨e.symm, Or.inl q.symm⟩), e]
    · rw [if_neg e]
  have c69 : ∀ (X : pMem) x, (aPut X a j x) 188 69 = X 188 69 := fun X x => by
    unfold aPut
    by_cases e : 188 = a
    · rw [if_pos e, if_neg (fun q => haj ⟨e.symm, Or.inr q.symm⟩), e]
    · rw [if_neg e]
  have c188' : ∀ (X : pMem) x, (aPut X a j x) 188 c = X 188 c := fun X x => by
    unfold aPut
    by_cases e : 188 = a
    · rw [if_pos e, if_neg (fun q => haj ⟨e.symm, Or.inl q.symm⟩), e]
    · rw [if_neg e]
  have maj : Ma a j = M a j := mo a j (fun q => haj ⟨q.1, Or.inl q.2⟩)
  rcases hD with ⟨g, gi, hv, hM⟩ | ⟨g, gi, hv, hM⟩
  · -- put
    obtain ⟨s1, s2⟩ := hin gi
    rw [s2] at hM
    have hw : w := h2.mpr (by rw [← ma69]; exact g)
    obtain ⟨w1, w2⟩ := h3 hw
    have vv : M a j = M0 a j := w2 a j ha (fun q => haj ⟨q.1, Or.inl q.2⟩)
    refine ⟨?_, ⟨fun _ => ?_, fun _ => hw⟩, fun _ => ⟨fun i => ?_, fun b i hb1 hb2 => ?_⟩, fun q => absurd hw q⟩
    · rw [c188', hM, aPut_cell (Ne.symm hb), s1]
    · rw [c69, hM, aPut_cell (Ne.symm hb)]
      exact g
    · rw [aPut_cell (Ne.symm ha), hM, aPut_row]
      by_cases e : i = n
      · rw [if_pos e, if_pos (by omega), e, hP, vv]
      · rw [if_neg e, mo bf i (fun q => hb q.1), w1 i]
        by_cases l : i < n
        · rw [if_pos l, if_pos (by omega)]
        · rw [if_neg l, if_neg (by omega)]
    · by_cases e : b = a ∧ i = j
      · rw [e.1, e.2, aPut_same, hv, vv]
      · have e1 : aPut M1 a j v b i = M1 b i := by
          unfold aPut
          by_cases q : b = a
          · rw [if_pos q, if_neg (fun q2 => e ⟨q, q2⟩), q]
          · rw [if_neg q]
        rw [e1, hM, aPut_cell hb1, mo b i hb2]
        exact w2 b i hb1 hb2
  · -- back
    obtain ⟨s1, s2⟩ := hin gi
    rw [s2] at hv
    have hw : ¬ w := fun q => (h2.mp q) (by rw [← ma69]; exact g)
    obtain ⟨w1, w2, w3⟩ := h4 hw
    have vv : v = M0 bf n := by rw [hv, mo bf n (fun q => hb q.1), w1]
    refine ⟨?_, ⟨fun q => absurd q hw, fun q => absurd (by rw [c69, hM]; exact g) q⟩, fun q => absurd q hw, fun _ => ⟨fun i => ?_, fun i hi => ?_, fun b i hb1 hb2 => ?_⟩⟩
    · rw [c188', hM, s1]
    · rw [aPut_cell (Ne.symm ha), hM, mo bf i (fun q => hb q.1), w1]
    · by_cases e : i = n
      · rw [e, hP]
        show aPut M1 a j v a j = _
        rw [aPut_same, vv]
      · have ne := inj i (by omega)
        rw [hP] at ne
        have o := out i (by omega)
        have e1 : aPut M1 a j v (P i).1 (P i).2 = M1 (P i).1 (P i).2 := by
          unfold aPut
          by_cases q : (P i).1 = a
          · rw [if_pos q, if_neg (fun q2 => ne (Prod.ext q q2)), q]
          · rw [if_neg q]
        rw [e1, hM, mo _ _ o.2]
        exact w2 i (by omega)
    · have nn := hb1 n (by omega)
      rw [hP] at nn
      have e1 : aPut M1 a j v b i = M1 b i := by
        unfold aPut
        by_cases q : b = a
        · rw [if_pos q, if_neg (fun q2 => nn ⟨q.symm, q2.symm⟩), q]
        · rw [if_neg q]
      rw [e1, hM, mo b i hb2]
      exact w3 b i (fun k hk => hb1 k (by omega)) hb2
theorem cp_begin {c bf : Nat} {P : Nat → Nat × Nat} {w : Prop} {M : pMem} (h1 : M 188 c = kI 0) (h2 : w ↔ ¬ M 188 69 = 0) : cpI c bf P w M 0 M := by
  refine ⟨by rw [h1]; rfl, h2, fun _ => ⟨fun i => by rw [if_neg (Nat.not_lt_zero i)], fun _ _ _ _ => rfl⟩, fun _ => ⟨fun _ => rfl, fun i hi => absurd hi (Nat.not_lt_zero i), fun _ _ _ _ => rfl⟩⟩
/-! the reference's asides -/
def asP (i : Nat) : Nat × Nat := if i < 8 then (188, [1, 3, 4, 17, 18, 19, 20, 21].getD i 0) else if i < 18 then (196 + (i - 8) % 5, (i - 8) / 5) else if i < 66 then (191 + (i - 18) % 2, (i - 18) / 2) else if i < 642 then (194, i - 66) else (201, i - 642)
def asR (a j : Nat) : Nat := if a = 188 then (if j = 1 then 0 else if j < 5 then j - 2 else j - 14) else if a = 194 then j + 66 else if a = 201 then j + 642 else if a < 193 then 18 + 2 * j + (a - 191) else 8 + 5 * j + (a - 196)
theorem asR_ck : (List.range 1122).all (fun i => Nat.beq (asR (asP i).1 (asP i).2) i && (!Nat.beq (asP i).1 222 && !(Nat.beq (asP i).1 188 && (Nat.beq (asP i).2 68 || Nat.beq (asP i).2 69)))) = true := by decide +kernel
theorem as_i {i : Nat} (h : i < 1122) : asR (asP i).1 (asP i).2 = i ∧ (asP i).1 ≠ 222 ∧ ¬ ((asP i).1 = 188 ∧ ((asP i).2 = 68 ∨ (asP i).2 = 69)) := by
  have := List.all_eq_true.mp asR_ck i (List.mem_range.mpr h)
  simp only [Bool.and_eq_true, Bool.not_eq_true', Bool.and_eq_false_iff, Bool.or_eq_false_iff] at this
  obtain ⟨t1, t2, t3⟩ := this
  have q : ∀ {x y : Nat}, Nat.beq x y = false → ¬ x = y := fun h e => by rw [e, Nat.beq_refl] at h; cases h
  refine ⟨Nat.eq_of_beq_eq_true t1, q t2, ?_⟩
  rcases t3 with t | ⟨t, t'⟩
  · exact fun e => q t e.1
  · exact fun e => e.2.elim (q t) (q t')
theorem as_step {n a j : Nat} {w : Prop} {M0 M M1 M2 : pMem} {v : Int32} (h : cpI 68 222 asP w M0 n M) (hn : n < 1122) (hP : asP n = (a, j)) (hD : D_107 (M a j) M v M1) (e : M2 = aPut M1 a j v) : cpI 68 222 asP w M0 (n + 1) M2 := by
  obtain ⟨k1, k2, k3⟩ := as_i hn
  rw [hP] at k2 k3
  rw [e]
  refine cp_step h (by decide) (by decide) (by decide) hP k2 k3 (fun i hi e => ?_) (fun i hi => ?_) (D_107_c hD)
  · have q := (as_i (i := i) (by omega)).1
    rw [e, k1] at q
    omega
  · obtain ⟨_, q2, q3⟩ := as_i (i := i) (by omega)
    exact ⟨q2, fun e => q3 ⟨e.1, Or.inl e.2⟩⟩
theorem as_8 : ∀ x, x < 2 → asP (8 + 5 * x) = (196, x) ∧ asP (8 + 5 * x + 1) = (197, x) ∧ asP (8 + 5 * x + 2) = (198, x) ∧ asP (8 + 5 * x + 3) = (199, x) ∧ asP (8 + 5 * x + 4) = (200, x) := by decide +kernel
theorem as_18 : ∀ x, x < 24 → asP (18 + 2 * x) = (191, x) ∧ asP (18 + 2 * x + 1) = (192, x) := by decide +kernel
theorem as_66 {x : Nat} (h : x < 576) : asP (66 + x) = (194, x) := by
  unfold asP
  rw [if_neg (by omega), if_neg (by omega), if_neg (by omega), if_pos (by omega), show 66 + x - 66 = x by omega]
theorem as_642 {x : Nat} (h : x < 480) : asP (642 + x) = (201, x) := by
  unfold asP
  rw [if_neg (by omega), if_neg (by omega), if_neg (by omega), if_neg (by omega), show 642 + x - 642 = x by omega]
theorem D_108_w {p1 : Int32} {M : pMem} {v : Unit} {N : pMem} (h : D_108 p1 M v N) : ∃ M0, M0 = aPut (aPut M 188 69 p1) 188 68 (kI 0) ∧ cpI 68 222 asP (¬ p1 = 0) M0 1122 N := by
  obtain ⟨M1, e1, M2, e2, v1, M3, d1, M4, p1', v2, M5, d2, M6, p2', v3, M7, d3, M8, p3', v4, M9, d4, M10, p4', v5, M11, d5, M12, p5', v6, M13, d6, M14, p6', v7, M15, d7, M16, p7', v8, M17, d8, M18, p8', h⟩ := h
  refine ⟨M2, by rw [e2, e1], ?_⟩
  have i_0 : cpI 68 222 asP (¬ p1 = 0) M2 0 M2 := cp_begin (by rw [e2, aPut_same]) (by rw [e2, aPut_at (by decide), e1, aPut_same])
  have i1 := as_step i_0 (by decide) rfl d1 p1'
  have i2 := as_step i1 (by decide) rfl d2 p2'
  have i3 := as_step i2 (by decide) rfl d3 p3'
  have i4 := as_step i3 (by decide) rfl d4 p4'
  have i5 := as_step i4 (by decide) rfl d5 p5'
  have i6 := as_step i5 (by decide) rfl d6 p6'
  have i7 := as_step i6 (by decide) rfl d7 p7'
  have i8 := as_step i7 (by decide) rfl d8 p8'
  have go := h (fun x M v N => ∀ k : Nat, x.toInt = k → k ≤ 2 → cpI 68 222 asP (¬ p1 = 0) M2 (8 + 5 * k) M → cpI 68 222 asP (¬ p1 = 0) M2 1122 N,
    fun x M v N => ∀ k : Nat, x.toInt = k → k ≤ 24 → cpI 68 222 asP (¬ p1 = 0) M2 (18 + 2 * k) M → cpI 68 222 asP (¬ p1 = 0) M2 1122 N,
    fun x M v N => ∀ k : Nat, x.toInt = k → k ≤ 576 → cpI 68 222 asP (¬ p1 = 0) M2 (66 + k) M → cpI 68 222 asP (¬ p1 = 0) M2 1122 N,
    fun x M v N => ∀ k : Nat, x.toInt = k → k ≤ 480 → cpI 68 222 asP (¬ p1 = 0) M2 (642 + k) M → cpI 68 222 asP (¬ p1 = 0) M2 1122 N) ⟨?_, ?_, ?_, ?_⟩
  · exact go 0 rfl (by omega) i8
  · intro x M v N hs k hx hk hi
    rcases hs with ⟨g, hs⟩ | ⟨g, _, u1, N1, c1, _, N2, q1, _, u2, N3, c2, _, N4, q2, _, u3, N5, c3, _, N6, q3, _, u4, N7, c4, _, N8, q4, _, u5, N9, c5, _, N10, q5, hs⟩
    · rw [i_le, hx, kI_toInt (by decide) (by decide)] at g
      exact hs 0 rfl (by omega) (by rw [show k = 2 by omega] at hi; exact hi)
    · rw [i_le, hx, kI_toInt (by decide) (by decide)] at g
      rw [ix_of hx] at c1 q1 c2 q2 c3 q3 c4 q4 c5 q5
      obtain ⟨t1, t2, t3, t4, t5⟩ := as_8 k (by omega)
      have j1 := as_step hi (by omega) t1 c1 q1
      have j2 := as_step j1 (by omega) t2 c2 q2
      have j3 := as_step j2 (by omega) t3 c3 q3
      have j4 := as_step j3 (by omega) t4 c4 q4
      have j5 := as_step j4 (by omega) t5 c5 q5
      exact hs (k + 1) (by rw [i_add1 (by omega)]; omega) (by omega) (by rw [show 8 + 5 * (k + 1) = 8 + 5 * k + 4 + 1 by omega]; exact j5)
  · intro x M v N hs k hx hk hi
    rcases hs with ⟨g, hs⟩ | ⟨g, _, u1, N1, c1, _, N2, q1, _, u2, N3, c2, _, N4, q2, hs⟩
    · rw [i_le, hx, kI_toInt (by decide) (by decide)] at g
      exact hs 0 rfl (by omega) (by rw [show k = 24 by omega] at hi; exact hi)
    · rw [i_le, hx, kI_toInt (by decide) (by decide)] at g
      rw [ix_of hx] at c1 q1 c2 q2
      obtain ⟨t1, t2⟩ := as_18 k (by omega)
      have j1 := as_step hi (by omega) t1 c1 q1
      have j2 := as_step j1 (by omega) t2 c2 q2
      exact hs (k + 1) (by rw [i_add1 (by omega)]; omega) (by omega) (by rw [show 18 + 2 * (k + 1) = 18 + 2 * k + 1 + 1 by omega]; exact j2)
  · intro x M v N hs k hx hk hi
    rcases hs with ⟨g, hs⟩ | ⟨g, _, u1, N1, c1, _, N2, q1, hs⟩
    · rw [i_le, hx, kI_toInt (by decide) (by decide)] at g
      exact hs 0 rfl (by omega) (by rw [show k = 576 by omega] at hi; exact hi)
    · rw [i_le, hx, kI_toInt (by decide) (by decide)] at g
      rw [ix_of hx] at c1 q1
      have j1 := as_step hi (by omega) (as_66 (by omega)) c1 q1
      exact hs (k + 1) (by rw [i_add1 (by omega)]; omega) (by omega) (by rw [show 66 + (k + 1) = 66 + k + 1 by omega]; exact j1)
  · intro x M v N hs k hx hk hi
    rcases hs with ⟨g, _, hN⟩ | ⟨g, _, u1, N1, c1, _, N2, q1, hs⟩
    · rw [i_le, hx, kI_toInt (by decide) (by decide)] at g
      rw [show k = 480 by omega] at hi
      rw [hN]
      exact hi
    · rw [i_le, hx, kI_toInt (by decide) (by decide)] at g
      rw [ix_of hx] at c1 q1
      have j1 := as_step hi (by omega) (as_642 (by omega)) c1 q1
      exact hs (k + 1) (by rw [i_add1 (by omega)]; omega) (by omega) (by rw [show 642 + (k + 1) = 642 + k + 1 by omega]; exact j1)
/-- put aside: all stays, and stands aside -/
theorem D_108_put {p1 : Int32} {M : pMem} {v : Unit} {N : pMem} (h : D_108 p1 M v N) (hp : ¬ p1 = 0) : (∀ i, i < 1122 → N 222 i = M (asP i).1 (asP i).2) ∧ ∀ a j, a ≠ 222 → ¬ (a = 188 ∧ (j = 68 ∨ j = 69)) → N a j = M a j := by
  obtain ⟨M0, e0, _, _, c, _⟩ := D_108_w h
  obtain ⟨c1, c2⟩ := c hp
  have m0 : ∀ a j, ¬ (a = 188 ∧ (j = 68 ∨ j = 69)) → M0 a j = M a j := fun a j q => by
    rw [e0]
    by_cases ea : a = 188
    · subst ea
      rw [aPut_at (fun e => q ⟨rfl, Or.inl e⟩), aPut_at (fun e => q ⟨rfl, Or.inr e⟩)]
    · rw [aPut_cell ea, aPut_cell ea]
  refine ⟨fun i hi => ?_, fun a j h1 h2 => ?_⟩
  · rw [c1 i, if_pos hi]
    exact m0 _ _ (as_i hi).2.2
  · rw [c2 a j h1 (fun q => h2 ⟨q.1, Or.inl q.2⟩)]
    exact m0 a j h2
/-- taken back -/
theorem D_108_get {p1 : Int32} {M : pMem} {v : Unit} {N : pMem} (h : D_108 p1 M v N) (hp : p1 = 0) : (∀ i, i < 1122 → N (asP i).1 (asP i).2 = M 222 i) ∧ (∀ i, N 222 i = M 222 i) ∧ ∀ a j, (∀ i, i < 1122 → ¬ ((asP i).1 = a ∧ (asP i).2 = j)) → ¬ (a = 188 ∧ (j = 68 ∨ j = 69)) → N a j = M a j := by
  obtain ⟨M0, e0, _, _, _, c⟩ := D_108_w h
  obtain ⟨c1, c2, c3⟩ := c (nn hp)
  have m0 : ∀ a j, ¬ (a = 188 ∧ (j = 68 ∨ j = 69)) → M0 a j = M a j := fun a j q => by
    rw [e0]
    by_cases ea : a = 188
    · subst ea
      rw [aPut_at (fun e => q ⟨rfl, Or.inl e⟩), aPut_at (fun e => q ⟨rfl, Or.inr e⟩)]
    · rw [aPut_cell ea, aPut_cell ea]
  refine ⟨fun i hi => ?_, fun i => ?_, fun a j h1 h2 => ?_⟩
  · rw [c2 i hi]
    exact m0 222 i (by omega)
  · rw [c1 i]
    exact m0 222 i (by omega)
  · rw [c3 a j h1 (fun q => h2 ⟨q.1, Or.inl q.2⟩)]
    exact m0 a j h2
