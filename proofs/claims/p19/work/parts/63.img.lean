/-! the reference's image -/
theorem cp_val {c bf N n : Nat} {P : Nat → Nat × Nat} {w : Prop} {M0 M M1 : pMem} {p v : Int32} (h : cpI c bf P w M0 n M) (hc : c ≠ 69) (hb : bf ≠ 188) (hN : N ≤ 8600) (hD : cpD c bf N p M v M1) : (w → v = p) ∧ (¬ w → v = M0 bf n) := by
  obtain ⟨h1, h2, h3, h4⟩ := h
  obtain ⟨Ma, ea, hD⟩ := hD
  have rg := i_rg (M 188 c)
  have ma : Ma 188 c = M 188 c + kI 1 := by rw [ea, aPut_same]
  have ma69 : Ma 188 69 = M 188 69 := by rw [ea, aPut_at (Ne.symm hc)]
  have hin : pIn (Ma 188 c - kI 1) N → ix (Ma 188 c - kI 1) = n := by
    intro g
    have big : (M 188 c).toInt ≤ 2147483646 := by
      apply Classical.byContradiction
      intro q
      have e : (M 188 c).toInt = 2147483647 := by omega
      have e2 : M 188 c = kI 2147483647 := kI_inj e
      rw [ma, e2] at g
      exact absurd g (by
        have : kI 2147483647 + kI 1 - kI 1 = kI 2147483647 := by decide
        rw [this]
        rintro ⟨_, q2⟩
        rw [kI_toInt (by decide) (by decide)] at q2
        omega)
    have s1 : (Ma 188 c).toInt = ((n + 1 : Nat) : Int) := by rw [ma, i_add1 big, h1]; omega
    refine ix_of ?_
    rw [i_sub (by rw [s1, kI1]; omega) (by rw [s1, kI1]; omega), s1, kI1]
    omega
  rcases hD with ⟨g, gi, hv, hM⟩ | ⟨g, gi, hv, hM⟩
  · have hw : w := h2.mpr (by rw [← ma69]; exact g)
    exact ⟨fun _ => hv, fun q => absurd hw q⟩
  · have hw : ¬ w := fun q => (h2.mp q) (by rw [← ma69]; exact g)
    refine ⟨fun q => absurd q hw, fun _ => ?_⟩
    rw [hin gi] at hv
    rw [hv, ea, aPut_cell hb]
    exact (h4 hw).1 n
def imP (i : Nat) : Nat × Nat :=
  if i < 12 then ([204, 209, 213].getD (i % 3) 0, i / 3) else if i < 268 then (205 + (i - 12) % 4, (i - 12) / 4) else if i < 4268 then (210 + (i - 268) % 2, (i - 268) / 2) else if i < 4460 then (214 + (i - 4268) % 2, (i - 4268) / 2)
  else if i = 4460 then (188, 2) else if i = 4461 then (188, 71) else if i < 4467 then (223, i - 4462) else if i < 4587 then ([189, 190, 193, 226, 227].getD ((i - 4467) % 5) 0, (i - 4467) / 5) else (195, i - 4587)
def imR (a j : Nat) : Nat :=
  if a = 204 then 3 * j else if a = 209 then 3 * j + 1 else if a = 213 then 3 * j + 2 else if a = 188 then (if j = 2 then 4460 else 4461) else if a = 223 then 4462 + j else if a = 189 then 4467 + 5 * j else if a = 190 then 4468 + 5 * j else if a = 193 then 4469 + 5 * j
  else if a = 226 then 4470 + 5 * j else if a = 227 then 4471 + 5 * j else if a = 195 then 4587 + j else if a < 209 then 12 + 4 * j + (a - 205) else if a < 212 then 268 + 2 * j + (a - 210) else 4268 + 2 * j + (a - 214)
theorem imR_ck : (List.range 5163).all (fun i => Nat.beq (imR (imP i).1 (imP i).2) i && (!Nat.beq (imP i).1 229 && !(Nat.beq (imP i).1 188 && (Nat.beq (imP i).2 79 || Nat.beq (imP i).2 69)))) = true := by decide +kernel
theorem im_i {i : Nat} (h : i < 5163) : imR (imP i).1 (imP i).2 = i ∧ (imP i).1 ≠ 229 ∧ ¬ ((imP i).1 = 188 ∧ ((imP i).2 = 79 ∨ (imP i).2 = 69)) := by
  have := List.all_eq_true.mp imR_ck i (List.mem_range.mpr h)
  simp only [Bool.and_eq_true, Bool.not_eq_true', Bool.and_eq_false_iff, Bool.or_eq_false_iff] at this
  obtain ⟨t1, t2, t3⟩ := this
  have q : ∀ {x y : Nat}, Nat.beq x y = false → ¬ x = y := fun h e => by rw [e, Nat.beq_refl] at h; cases h
  refine ⟨Nat.eq_of_beq_eq_true t1, q t2, ?_⟩
  rcases t3 with t | ⟨t, t'⟩
  · exact fun e => q t e.1
  · exact fun e => e.2.elim (q t) (q t')
theorem im_step' {n a j : Nat} {w : Prop} {M0 M M1 M2 : pMem} {v x : Int32} (h : cpI 79 229 imP w M0 n M) (hn : n < 5163) (hP : imP n = (a, j)) (hx : x = M a j) (hD : D_132 x M v M1) (e : M2 = aPut M1 a j v) : cpI 79 229 imP w M0 (n + 1) M2 := by
  obtain ⟨k1, k2, k3⟩ := im_i hn
  rw [hP] at k2 k3
  rw [e]
  rw [hx] at hD
  refine cp_step h (by decide) (by decide) (by decide) hP k2 k3 (fun i hi e => ?_) (fun i hi => ?_) (D_132_c hD)
  · have q := (im_i (i := i) (by omega)).1
    rw [e, k1] at q
    omega
  · obtain ⟨_, q2, q3⟩ := im_i (i := i) (by omega)
    exact ⟨q2, fun e => q3 ⟨e.1, Or.inl e.2⟩⟩
theorem im_step {n a j : Nat} {w : Prop} {M0 M M1 M2 : pMem} {v : Int32} (h : cpI 79 229 imP w M0 n M) (hn : n < 5163) (hP : imP n = (a, j)) (hD : D_132 (M a j) M v M1) (e : M2 = aPut M1 a j v) : cpI 79 229 imP w M0 (n + 1) M2 := im_step' h hn hP rfl hD e
theorem im_0 : ∀ x, x < 4 → imP (3 * x) = (204, x) ∧ imP (3 * x + 1) = (209, x) ∧ imP (3 * x + 1 + 1) = (213, x) := by decide +kernel
theorem im_12 : ∀ x, x < 64 → imP (12 + 4 * x) = (205, x) ∧ imP (12 + 4 * x + 1) = (206, x) ∧ imP (12 + 4 * x + 1 + 1) = (207, x) ∧ imP (12 + 4 * x + 1 + 1 + 1) = (208, x) := by decide +kernel
theorem im_268 {x : Nat} (h : x < 2000) : imP (268 + 2 * x) = (210, x) ∧ imP (268 + 2 * x + 1) = (211, x) := by
  constructor
  · unfold imP
    rw [if_neg (by omega), if_neg (by omega), if_pos (by omega), show (268 + 2 * x - 268) % 2 = 0 by omega, show (268 + 2 * x - 268) / 2 = x by omega]
  · unfold imP
    rw [if_neg (by omega), if_neg (by omega), if_pos (by omega), show (268 + 2 * x + 1 - 268) % 2 = 1 by omega, show (268 + 2 * x + 1 - 268) / 2 = x by omega]
theorem im_4268 : ∀ x, x < 96 → imP (4268 + 2 * x) = (214, x) ∧ imP (4268 + 2 * x + 1) = (215, x) := by decide +kernel
theorem im_4462 : ∀ x, x < 5 → imP (4462 + x) = (223, x) := by decide +kernel
theorem im_4467 : ∀ x, x < 24 → imP (4467 + 5 * x) = (189, x) ∧ imP (4467 + 5 * x + 1) = (190, x) ∧ imP (4467 + 5 * x + 1 + 1) = (193, x) ∧ imP (4467 + 5 * x + 1 + 1 + 1) = (226, x) ∧ imP (4467 + 5 * x + 1 + 1 + 1 + 1) = (227, x) := by decide +kernel
theorem im_4587 {x : Nat} (h : x < 576) : imP (4587 + x) = (195, x) := by
  unfold imP
  rw [if_neg (by omega), if_neg (by omega), if_neg (by omega), if_neg (by omega), if_neg (by omega), if_neg (by omega), if_neg (by omega), if_neg (by omega), show 4587 + x - 4587 = x by omega]
theorem D_133_w {w : Prop} {M0 M : pMem} {v : Unit} {N : pMem} (hi : cpI 79 229 imP w M0 0 M) (h : D_133 M v N) : cpI 79 229 imP w M0 4460 N := by
  have go := h (fun x M v N => ∀ k : Nat, x.toInt = k → k ≤ 4 → cpI 79 229 imP w M0 (3 * k) M → cpI 79 229 imP w M0 4460 N,
    fun x M v N => ∀ k : Nat, x.toInt = k → k ≤ 64 → cpI 79 229 imP w M0 (12 + 4 * k) M → cpI 79 229 imP w M0 4460 N,
    fun x M v N => ∀ k : Nat, x.toInt = k → k ≤ 2000 → cpI 79 229 imP w M0 (268 + 2 * k) M → cpI 79 229 imP w M0 4460 N,
    fun x M v N => ∀ k : Nat, x.toInt = k → k ≤ 96 → cpI 79 229 imP w M0 (4268 + 2 * k) M → cpI 79 229 imP w M0 4460 N) ⟨?_, ?_, ?_, ?_⟩
  · exact go 0 rfl (by omega) hi
  · intro x M v N hs k hx hk hi
    rcases hs with ⟨g, hs⟩ | ⟨g, _, u1, N1, c1, _, N2, q1, _, u2, N3, c2, _, N4, q2, _, u3, N5, c3, _, N6, q3, hs⟩
    · rw [i_le, hx, kI_toInt (by decide) (by decide)] at g
      exact hs 0 rfl (by omega) (by rw [show k = 4 by omega] at hi; exact hi)
    · rw [i_le, hx, kI_toInt (by decide) (by decide)] at g
      rw [ix_of hx] at c1 q1 c2 q2 c3 q3
      obtain ⟨t1, t2, t3⟩ := im_0 k (by omega)
      have j1 := im_step hi (by omega) t1 c1 q1
      have j2 := im_step j1 (by omega) t2 c2 q2
      have j3 := im_step j2 (by omega) t3 c3 q3
      exact hs (k + 1) (by rw [i_add1 (by omega)]; omega) (by omega) (by rw [show 3 * (k + 1) = 3 * k + 1 + 1 + 1 by omega]; exact j3)
  · intro x M v N hs k hx hk hi
    rcases hs with ⟨g, hs⟩ | ⟨g, _, u1, N1, c1, _, N2, q1, _, u2, N3, c2, _, N4, q2, _, u3, N5, c3, _, N6, q3, _, u4, N7, c4, _, N8, q4, hs⟩
    · rw [i_le, hx, kI_toInt (by decide) (by decide)] at g
      exact hs 0 rfl (by omega) (by rw [show k = 64 by omega] at hi; exact hi)
    · rw [i_le, hx, kI_toInt (by decide) (by decide)] at g
      rw [ix_of hx] at c1 q1 c2 q2 c3 q3 c4 q4
      obtain ⟨t1, t2, t3, t4⟩ := im_12 k (by omega)
      have j1 := im_step hi (by omega) t1 c1 q1
      have j2 := im_step j1 (by omega) t2 c2 q2
      have j3 := im_step j2 (by omega) t3 c3 q3
      have j4 := im_step j3 (by omega) t4 c4 q4
      exact hs (k + 1) (by rw [i_add1 (by omega)]; omega) (by omega) (by rw [show 12 + 4 * (k + 1) = 12 + 4 * k + 1 + 1 + 1 + 1 by omega]; exact j4)
  · intro x M v N hs k hx hk hi
    rcases hs with ⟨g, hs⟩ | ⟨g, _, u1, N1, c1, _, N2, q1, _, u2, N3, c2, _, N4, q2, hs⟩
    · rw [i_le, hx, kI_toInt (by decide) (by decide)] at g
      exact hs 0 rfl (by omega) (by rw [show k = 2000 by omega] at hi; exact hi)
    · rw [i_le, hx, kI_toInt (by decide) (by decide)] at g
      rw [ix_of hx] at c1 q1 c2 q2
      obtain ⟨t1, t2⟩ := im_268 (x := k) (by omega)
      have j1 := im_step hi (by omega) t1 c1 q1
      have j2 := im_step j1 (by omega) t2 c2 q2
      exact hs (k + 1) (by rw [i_add1 (by omega)]; omega) (by omega) (by rw [show 268 + 2 * (k + 1) = 268 + 2 * k + 1 + 1 by omega]; exact j2)
  · intro x M v N hs k hx hk hi
    rcases hs with ⟨g, _, hN⟩ | ⟨g, _, u1, N1, c1, _, N2, q1, _, u2, N3, c2, _, N4, q2, hs⟩
    · rw [i_le, hx, kI_toInt (by decide) (by decide)] at g
      rw [show k = 96 by omega] at hi
      rw [hN]
      exact hi
    · rw [i_le, hx, kI_toInt (by decide) (by decide)] at g
      rw [ix_of hx] at c1 q1 c2 q2
      obtain ⟨t1, t2⟩ := im_4268 k (by omega)
      have j1 := im_step hi (by omega) t1 c1 q1
      have j2 := im_step j1 (by omega) t2 c2 q2
      exact hs (k + 1) (by rw [i_add1 (by omega)]; omega) (by omega) (by rw [show 4268 + 2 * (k + 1) = 4268 + 2 * k + 1 + 1 by omega]; exact j2)
theorem D_134_w {w : Prop} {M0 M : pMem} {v : Unit} {N : pMem} (hi : cpI 79 229 imP w M0 4460 M) (hb1 : w → ∀ b, b < 24 → bo (M0 226 b)) (hb2 : ¬ w → ∀ b, b < 24 → bo (M0 229 (4470 + 5 * b)) ∧ bo (M0 226 b)) (h : D_134 M v N) : cpI 79 229 imP w M0 5163 N := by
  obtain ⟨v1, M1, d1, M2, e1, v2, M3, d2, M4, e2, h⟩ := h
  have i1 := im_step hi (by decide) rfl d1 e1
  have i2 := im_step i1 (by decide) rfl d2 e2
  have go := h (fun x M v N => ∀ k : Nat, x.toInt = k → k ≤ 5 → cpI 79 229 imP w M0 (4462 + k) M → cpI 79 229 imP w M0 5163 N,
    fun x M v N => ∀ k : Nat, x.toInt = k → k ≤ 24 → cpI 79 229 imP w M0 (4467 + 5 * k) M → cpI 79 229 imP w M0 5163 N,
    fun x M v N => ∀ k : Nat, x.toInt = k → k ≤ 576 → cpI 79 229 imP w M0 (4587 + k) M → cpI 79 229 imP w M0 5163 N) ⟨?_, ?_, ?_⟩
  · exact go 0 rfl (by omega) i2
  · intro x M v N hs k hx hk hi
    rcases hs with ⟨g, hs⟩ | ⟨g, _, u1, N1, c1, _, N2, q1, hs⟩
    · rw [i_le, hx, kI_toInt (by decide) (by decide)] at g
      exact hs 0 rfl (by omega) (by rw [show k = 5 by omega] at hi; exact hi)
    · rw [i_le, hx, kI_toInt (by decide) (by decide)] at g
      rw [ix_of hx] at c1 q1
      have j1 := im_step hi (by omega) (im_4462 k (by omega)) c1 q1
      exact hs (k + 1) (by rw [i_add1 (by omega)]; omega) (by omega) (by rw [show 4462 + (k + 1) = 4462 + k + 1 by omega]; exact j1)
  · intro x M v N hs k hx hk hi
    rcases hs with ⟨g, hs⟩ | ⟨g, _, u1, N1, c1, _, N2, q1, _, u2, N3, c2, _, N4, q2, _, u3, N5, c3, _, N6, q3, _, hs⟩
    · rw [i_le, hx, kI_toInt (by decide) (by decide)] at g
      exact hs 0 rfl (by omega) (by rw [show k = 24 by omega] at hi; exact hi)
    · rw [i_le, hx, kI_toInt (by decide) (by decide)] at g
      rw [ix_of hx] at c1 q1 c2 q2 c3 q3 hs
      obtain ⟨t1, t2, t3, t4, t5⟩ := im_4467 k (by omega)
      have j1 := im_step hi (by omega) t1 c1 q1
      have j2 := im_step j1 (by omega) t2 c2 q2
      have j3 := im_step j2 (by omega) t3 c3 q3
      -- yes or no is as it was, at k
      have b6 : bo (N6 226 k) := by
        obtain ⟨_, _, w1, w2⟩ := j3
        by_cases hw : w
        · rw [(w1 hw).2 226 k (by decide) (by omega)]
          exact hb1 hw k (by omega)
        · rw [(w2 hw).2.2 226 k (fun i hi e => ?_) (by omega)]
          · exact (hb2 hw k (by omega)).2
          · have q := (im_i (i := i) (by omega)).1
            have q4 := (im_i (i := 4467 + 5 * k + 1 + 1 + 1) (by omega)).1
            rw [t4] at q4
            rw [e.1, e.2] at q
            rw [q4] at q
            omega
      have v4b : ∀ {x v4 : Int32} {N7 : pMem}, bo x → D_132 x N6 v4 N7 → bo v4 := fun hx hD => by
        obtain ⟨a1, a2⟩ := cp_val j3 (by decide) (by decide) (by decide) (D_132_c hD)
        by_cases hw : w
        · rw [a1 hw]; exact hx
        · rw [a2 hw, show 4467 + 5 * k + 1 + 1 + 1 = 4470 + 5 * k by omega]; exact (hb2 hw k (by omega)).1
      have fin : ∀ {y v4 v5 : Int32} {N7 N8 N9 N10 : pMem}, y = N6 226 k → D_132 y N6 v4 N7 → N8 = aPut N7 226 k v4 → D_132 (N8 227 k) N8 v5 N9 → N10 = aPut N9 227 k v5 → cpI 79 229 imP w M0 (4467 + 5 * (k + 1)) N10 := by
        intro y v4 v5 N7 N8 N9 N10 hy h7 e8 h9 e10
        have j4 := im_step' j3 (by omega) t4 hy h7 e8
        have j5 := im_step j4 (by omega) t5 h9 e10
        rw [show 4467 + 5 * (k + 1) = 4467 + 5 * k + 1 + 1 + 1 + 1 + 1 by omega]
        exact j5
      have nx : (x + kI 1).toInt = ((k + 1 : Nat) : Int) := by rw [i_add1 (by omega)]; omega
      have both : ∀ {y v4 : Int32} {N7 : pMem}, y = N6 226 k → bo y → D_132 y N6 v4 N7 → (tIf (¬ v4 = (kI 1)) (tGd (pIn x 24) <| tPut (aPut N7 226 k (kI 0)) fun M8 => tGd (pIn x 24) <| tCall (D_132 (M8 227 k) M8) fun v5 M9 => tGd (pIn x 24) <| tPut (aPut M9 227 k v5) fun M10 => fun (_ : Unit) N => ∀ k : Nat, (x + kI 1).toInt = k → k ≤ 24 → cpI 79 229 imP w M0 (4467 + 5 * k) M10 → cpI 79 229 imP w M0 5163 N)
          (tGd (pIn x 24) <| tPut (aPut N7 226 k (kI 1)) fun M8 => tGd (pIn x 24) <| tCall (D_132 (M8 227 k) M8) fun v5 M9 => tGd (pIn x 24) <| tPut (aPut M9 227 k v5) fun M10 => fun (_ : Unit) N => ∀ k : Nat, (x + kI 1).toInt = k → k ≤ 24 → cpI 79 229 imP w M0 (4467 + 5 * k) M10 → cpI 79 229 imP w M0 5163 N)) v N → cpI 79 229 imP w M0 5163 N := by
        intro y v4 N7 hy hby c4 hs
        rcases hs with ⟨g8, _, N8, e8, _, v5, N9, c5, _, N10, e10, hs⟩ | ⟨g8, _, N8, e8, _, v5, N9, c5, _, N10, e10, hs⟩
        · have v0 : v4 = kI 0 := (v4b hby c4).resolve_right g8
          exact hs (k + 1) nx (by omega) (fin hy c4 (by rw [v0]; exact e8) c5 e10)
        · have v1 : v4 = kI 1 := Classical.not_not.mp g8
          exact hs (k + 1) nx (by omega) (fin hy c4 (by rw [v1]; exact e8) c5 e10)
      rcases hs with ⟨g7, v4, N7, c4, hs⟩ | ⟨g7, v4, N7, c4, hs⟩
      · exact both (show kI 0 = N6 226 k from g7.symm) (Or.inl rfl) c4 hs
      · exact both (show kI 1 = N6 226 k from (b6.resolve_left g7).symm) (Or.inr rfl) c4 hs
  · intro x M v N hs k hx hk hi
    rcases hs with ⟨g, _, hN⟩ | ⟨g, _, u1, N1, c1, _, N2, q1, hs⟩
    · rw [i_le, hx, kI_toInt (by decide) (by decide)] at g
      rw [show k = 576 by omega] at hi
      rw [hN]
      exact hi
    · rw [i_le, hx, kI_toInt (by decide) (by decide)] at g
      rw [ix_of hx] at c1 q1
      have j1 := im_step hi (by omega) (im_4587 (by omega)) c1 q1
      exact hs (k + 1) (by rw [i_add1 (by omega)]; omega) (by omega) (by rw [show 4587 + (k + 1) = 4587 + k + 1 by omega]; exact j1)
theorem L_135_9_w {p1 : Int32} {M0 : pMem} {v : Int32} {N : pMem} (h : L_135_9 p1 (kI 0) M0 v N) : ∃ M M1 M2 u1 u2, (∀ k, k < 1200 → M 229 (7000 + k) = M0 222 k) ∧ (∀ a j, ¬ (a = 229 ∧ 7000 ≤ j) → M a j = M0 a j) ∧ D_133 (aPut M 188 79 (kI 0)) u1 M1 ∧ D_134 M1 u2 M2 ∧ v = kI 1 ∧ N = M2 := by
  have go := h (fun x M v N => True, fun x M v N => ∀ k : Nat, x.toInt = k → k ≤ 1200 → (∀ i, i < k → M 229 (7000 + i) = M0 222 i) → (∀ a j, ¬ (a = 229 ∧ 7000 ≤ j) → M a j = M0 a j) →
    ∃ M M1 M2 u1 u2, (∀ k, k < 1200 → M 229 (7000 + k) = M0 222 k) ∧ (∀ a j, ¬ (a = 229 ∧ 7000 ≤ j) → M a j = M0 a j) ∧ D_133 (aPut M 188 79 (kI 0)) u1 M1 ∧ D_134 M1 u2 M2 ∧ v = kI 1 ∧ N = M2) ⟨fun _ _ _ _ _ => trivial, ?_⟩
  · exact go 0 rfl (by omega) (fun i hi => absurd hi (Nat.not_lt_zero i)) (fun _ _ _ => rfl)
  · intro x M v N hs k hx hk h1 h2
    rcases hs with ⟨g, M1, e1, u1, M2, h133, u2, M3, h134, hv, hN⟩ | ⟨g, _, _, M1, e1, hs⟩
    · rw [i_le, hx, kI_toInt (by decide) (by decide)] at g
      rw [e1] at h133
      have : k = 1200 := by omega
      subst this
      exact ⟨M, M2, M3, u1, u2, h1, h2, h133, h134, hv, hN⟩
    · rw [i_le, hx, kI_toInt (by decide) (by decide)] at g
      have ei : ix (kI 7000 + x) = 7000 + k := ix_of (by rw [i_add (by rw [kI_toInt (by decide) (by decide)]; omega) (by rw [kI_toInt (by decide) (by decide)]; omega), kI_toInt (by decide) (by decide), hx]; omega)
      rw [ei, ix_of hx] at e1
      refine hs (k + 1) (by rw [i_add1 (by omega)]; omega) (by omega) (fun i hi => ?_) (fun a j hj => ?_)
      · rw [e1, aPut_row]
        by_cases q : i = k
        · rw [if_pos (by omega), q]
          exact h2 222 k (by omega)
        · rw [if_neg (by omega)]
          exact h1 i (by omega)
      · rw [e1]
        by_cases q : a = 229
        · subst q
          rw [aPut_at (by omega)]
          exact h2 229 j hj
        · rw [aPut_cell q]
          exact h2 a j hj
theorem L_135_5_w {p1 : Int32} {M0 : pMem} {v : Int32} {N : pMem} (h : L_135_5 p1 (kI 0) M0 v N) (hp : p1 = 0) : ∃ M M1 M2 M3 u1 u2 u3, (∀ k, k < 1200 → M 222 k = M0 229 (7000 + k)) ∧ (∀ a j, a ≠ 222 → M a j = M0 a j) ∧ D_108 p1 M u1 M1 ∧ D_133 (aPut M1 188 79 (kI 0)) u2 M2 ∧ D_134 M2 u3 M3 ∧ v = kI 1 ∧ N = M3 := by
  have go := h (fun x M v N => ∀ k : Nat, x.toInt = k → k ≤ 1200 → (∀ i, i < k → M 222 i = M0 229 (7000 + i)) → (∀ a j, a ≠ 222 → M a j = M0 a j) →
    ∃ M M1 M2 M3 u1 u2 u3, (∀ k, k < 1200 → M 222 k = M0 229 (7000 + k)) ∧ (∀ a j, a ≠ 222 → M a j = M0 a j) ∧ D_108 p1 M u1 M1 ∧ D_133 (aPut M1 188 79 (kI 0)) u2 M2 ∧ D_134 M2 u3 M3 ∧ v = kI 1 ∧ N = M3, fun x M v N => True) ⟨?_, fun _ _ _ _ _ => trivial⟩
  · exact go 0 rfl (by omega) (fun i hi => absurd hi (Nat.not_lt_zero i)) (fun _ _ _ => rfl)
  · intro x M v N hs k hx hk h1 h2
    rcases hs with ⟨g, u1, M1, h108, hs⟩ | ⟨g, _, _, M1, e1, hs⟩
    · rw [i_le, hx, kI_toInt (by decide) (by decide)] at g
      have : k = 1200 := by omega
      subst this
      obtain ⟨M2, e2, u2, M3, h133, u3, M4, h134, hv, hN⟩ := tIf_p hp hs
      rw [e2] at h133
      exact ⟨M, M1, M3, M4, u1, u2, u3, h1, h2, h108, h133, h134, hv, hN⟩
    · rw [i_le, hx, kI_toInt (by decide) (by decide)] at g
      have ei : ix (kI 7000 + x) = 7000 + k := ix_of (by rw [i_add (by rw [kI_toInt (by decide) (by decide)]; omega) (by rw [kI_toInt (by decide) (by decide)]; omega), kI_toInt (by decide) (by decide), hx]; omega)
      rw [ei, ix_of hx] at e1
      refine hs (k + 1) (by rw [i_add1 (by omega)]; omega) (by omega) (fun i hi => ?_) (fun a j hj => ?_)
      · rw [e1, aPut_row]
        by_cases q : i = k
        · rw [if_pos q, q]
          exact h2 229 _ (by omega)
        · rw [if_neg q]
          exact h1 i (by omega)
      · rw [e1, aPut_cell hj]
        exact h2 a j hj
/-- a place that the image's own counters and rows don't take -/
def imN (a j : Nat) : Prop := a ≠ 222 ∧ a ≠ 229 ∧ ¬ (a = 188 ∧ (j = 0 ∨ j = 68 ∨ j = 69 ∨ j = 77 ∨ j = 79))
theorem imN_as {i : Nat} (h : i < 1122) : imN (asP i).1 (asP i).2 := by
  have ck : (List.range 1122).all (fun i => (!Nat.beq (asP i).1 222 && !Nat.beq (asP i).1 229) && !(Nat.beq (asP i).1 188 && (Nat.beq (asP i).2 0 || (Nat.beq (asP i).2 68 || (Nat.beq (asP i).2 69 || (Nat.beq (asP i).2 77 || Nat.beq (asP i).2 79)))))) = true := by decide +kernel
  have := List.all_eq_true.mp ck i (List.mem_range.mpr h)
  have q : ∀ {x y : Nat}, Nat.beq x y = false → ¬ x = y := fun h e => by rw [e, Nat.beq_refl] at h; cases h
  simp only [Bool.and_eq_true, Bool.not_eq_true', Bool.and_eq_false_iff, Bool.or_eq_false_iff] at this
  obtain ⟨⟨t1, t2⟩, t3⟩ := this
  refine ⟨q t1, q t2, fun e => ?_⟩
  rcases t3 with t | ⟨a1, a2, a3, a4, a5⟩
  · exact q t e.1
  · rcases e.2 with e | e | e | e | e
    · exact q a1 e
    · exact q a2 e
    · exact q a3 e
    · exact q a4 e
    · exact q a5 e
theorem imN_im {i : Nat} (h : i < 5163) : imN (imP i).1 (imP i).2 := by
  have ck : (List.range 5163).all (fun i => (!Nat.beq (imP i).1 222 && !Nat.beq (imP i).1 229) && !(Nat.beq (imP i).1 188 && (Nat.beq (imP i).2 0 || (Nat.beq (imP i).2 68 || (Nat.beq (imP i).2 69 || (Nat.beq (imP i).2 77 || Nat.beq (imP i).2 79)))))) = true := by decide +kernel
  have := List.all_eq_true.mp ck i (List.mem_range.mpr h)
  have q : ∀ {x y : Nat}, Nat.beq x y = false → ¬ x = y := fun h e => by rw [e, Nat.beq_refl] at h; cases h
  simp only [Bool.and_eq_true, Bool.not_eq_true', Bool.and_eq_false_iff, Bool.or_eq_false_iff] at this
  obtain ⟨⟨t1, t2⟩, t3⟩ := this
  refine ⟨q t1, q t2, fun e => ?_⟩
  rcases t3 with t | ⟨a1, a2, a3, a4, a5⟩
  · exact q t e.1
  · rcases e.2 with e | e | e | e | e
    · exact q a1 e
    · exact q a2 e
    · exact q a3 e
    · exact q a4 e
    · exact q a5 e
/-- the image is taken -/
theorem D_135_put {p1 : Int32} {M : pMem} {v : Int32} {N : pMem} (h : D_135 p1 M v N) (hp : ¬ p1 = 0) (hb : ∀ b, b < 24 → bo (M 226 b)) : v = kI 1 ∧ N 188 77 = kI 1 ∧ (∀ i, i < 5163 → N 229 i = M (imP i).1 (imP i).2) ∧ (∀ i, i < 1122 → N 229 (7000 + i) = M (asP i).1 (asP i).2) ∧ ∀ a j, imN a j → N a j = M a j := by
  obtain ⟨M1, e1, h⟩ := h
  obtain ⟨M2, e2, h⟩ := tIf_p hp h
  obtain ⟨u, M3, h108, h⟩ := tIf_p hp h
  have h := tIf_n hp h
  obtain ⟨M4, M5, M6, u1, u2, b1, b2, h133, h134, hv, hN⟩ := L_135_9_w h
  obtain ⟨a1, a2⟩ := D_108_put h108 hp
  have m2 : ∀ a j, imN a j → M2 a j = M a j := fun a j q => by
    obtain ⟨q1, q2, q3⟩ := q
    by_cases ea : a = 188
    · subst ea
      rw [e2, aPut_at (by omega), e1, aPut_at (by omega)]
    · rw [e2, aPut_cell ea, e1, aPut_cell ea]
  have m3 : ∀ a j, imN a j → M3 a j = M a j := fun a j q => by
    rw [a2 a j q.1 (fun e => q.2.2 ⟨e.1, by omega⟩)]
    exact m2 a j q
  have m4 : ∀ a j, imN a j → M4 a j = M a j := fun a j q => by
    rw [b2 a j (fun e => q.2.1 e.1)]
    exact m3 a j q
  have m4' : ∀ a j, imN a j → aPut M4 188 79 (kI 0) a j = M a j := fun a j q => by
    rw [← m4 a j q]
    by_cases ea : a = 188
    · subst ea
      exact aPut_at (fun e => q.2.2 ⟨rfl, by omega⟩)
    · exact aPut_cell ea
  have f69 : ¬ M4 188 69 = 0 := by
    rw [b2 188 69 (by omega)]
    obtain ⟨M0, e0, _, c, _⟩ := D_108_w h108
    exact c.mp hp
  have i_0 : cpI 79 229 imP (¬ p1 = 0) (aPut M4 188 79 (kI 0)) 0 (aPut M4 188 79 (kI 0)) := cp_begin aPut_same (by rw [aPut_at (by decide)]; exact ⟨fun _ => f69, fun _ => hp⟩)
  have i1 := D_133_w i_0 h133
  have i2 := D_134_w i1 (fun _ b hb' => by rw [m4' 226 b ⟨by decide, by decide, by omega⟩]; exact hb b hb') (fun q => absurd hp q) h134
  obtain ⟨_, _, c, _⟩ := i2
  obtain ⟨c1, c2⟩ := c hp
  rw [hN]
  refine ⟨hv, ?_, fun i hi => ?_, fun i hi => ?_, fun a j q => ?_⟩
  · rw [c2 188 77 (by decide) (by omega), aPut_at (by decide), b2 188 77 (by omega), a2 188 77 (by decide) (by omega), e2, aPut_same]
  · rw [c1 i, if_pos hi]
    exact m4' _ _ (imN_im hi)
  · rw [c1, if_neg (by omega), aPut_cell (by decide), b1 i (by omega), a1 i hi]
    exact m2 _ _ (imN_as hi)
  · rw [c2 a j q.2.1 (fun e => q.2.2 ⟨e.1, by omega⟩)]
    exact m4' a j q
/-- gone back to it -/
theorem D_135_get {p1 : Int32} {M : pMem} {v : Int32} {N : pMem} (h : D_135 p1 M v N) (hp : p1 = 0) (ht : ¬ M 188 77 = 0) (hb : ∀ b, b < 24 → bo (M 226 b) ∧ bo (M 229 (4470 + 5 * b))) : v = kI 1 ∧ N 188 77 = kI 1 ∧ (∀ i, i < 5163 → N (imP i).1 (imP i).2 = M 229 i) ∧ (∀ i, i < 1122 → N (asP i).1 (asP i).2 = M 229 (7000 + i)) ∧ (∀ i, N 229 i = M 229 i) ∧ ∀ a j, imN a j → (∀ i, i < 5163 → ¬ ((imP i).1 = a ∧ (imP i).2 = j)) → (∀ i, i < 1122 → ¬ ((asP i).1 = a ∧ (asP i).2 = j)) → N a j = M a j := by
  obtain ⟨M1, e1, h⟩ := h
  have h := tIf_n (nn hp) h
  have h := tIf_p (by rw [e1, aPut_at (by decide)]; exact ht) h
  obtain ⟨M2, e2, h⟩ := h
  have h := tIf_n (nn hp) h
  obtain ⟨M3, M4, M5, M6, u1, u2, u3, b1, b2, h108, h133, h134, hv, hN⟩ := L_135_5_w h hp
  obtain ⟨a1, a2, a3⟩ := D_108_get h108 hp
  have m2 : ∀ a j, imN a j → M2 a j = M a j := fun a j q => by
    obtain ⟨q1, q2, q3⟩ := q
    by_cases ea : a = 188
    · subst ea
      rw [e2, aPut_at (by omega), e1, aPut_at (by omega)]
    · rw [e2, aPut_cell ea, e1, aPut_cell ea]
  have m2i : ∀ j, M2 229 j = M 229 j := fun j => by rw [e2, aPut_cell (by decide), e1, aPut_cell (by decide)]
  have ra : ∀ i, i < 1122 → (asP i).1 ≠ 229 ∧ (asP i).1 ≠ 226 ∧ ¬ ((asP i).1 = 188 ∧ (asP i).2 = 69) := fun i hi => by
    have ck : (List.range 1122).all (fun i => (!Nat.beq (asP i).1 229 && !Nat.beq (asP i).1 226) && !(Nat.beq (asP i).1 188 && Nat.beq (asP i).2 69)) = true := by decide +kernel
    have := List.all_eq_true.mp ck i (List.mem_range.mpr hi)
    have q : ∀ {x y : Nat}, Nat.beq x y = false → ¬ x = y := fun h e => by rw [e, Nat.beq_refl] at h; cases h
    simp only [Bool.and_eq_true, Bool.not_eq_true', Bool.and_eq_false_iff] at this
    refine ⟨q this.1.1, q this.1.2, fun e => ?_⟩
    rcases this.2 with t | t
    · exact q t e.1
    · exact q t e.2
  have m4i : ∀ j, M4 229 j = M 229 j := fun j => by
    rw [a3 229 j (fun i hi e => (ra i hi).1 e.1) (by omega), b2 229 j (by decide), m2i]
  have m4b : ∀ j, M4 226 j = M 226 j := fun j => by
    rw [a3 226 j (fun i hi e => (ra i hi).2.1 e.1) (by omega), b2 226 j (by decide), m2 226 j ⟨by decide, by decide, by omega⟩]
  have m4' : ∀ a j, ¬ (a = 188 ∧ j = 79) → aPut M4 188 79 (kI 0) a j = M4 a j := fun a j q => by
    by_cases ea : a = 188
    · subst ea
      exact aPut_at (fun e => q ⟨rfl, e⟩)
    · exact aPut_cell ea
  have f69 : M4 188 69 = 0 := by
    obtain ⟨M0, e0, _, c, _⟩ := D_108_w h108
    exact Classical.byContradiction fun q => absurd hp (c.mpr q)
  have i_0 : cpI 79 229 imP (¬ p1 = 0) (aPut M4 188 79 (kI 0)) 0 (aPut M4 188 79 (kI 0)) := cp_begin aPut_same (by rw [aPut_at (by decide)]; exact ⟨fun q => absurd hp q, fun q => absurd f69 q⟩)
  have i1 := D_133_w i_0 h133
  have i2 := D_134_w i1 (fun q => absurd hp q) (fun _ b hb' => by rw [m4' 229 _ (by omega), m4' 226 _ (by omega), m4i, m4b]; exact ⟨(hb b hb').2, (hb b hb').1⟩) h134
  obtain ⟨_, _, _, c⟩ := i2
  obtain ⟨c1, c2, c3⟩ := c (nn hp)
  -- no place is of both
  have dj : ∀ i, i < 1122 → ∀ k, k < 5163 → ¬ ((imP k).1 = (asP i).1 ∧ (imP k).2 = (asP i).2) := by
    intro i hi k hk e
    have ck : (List.range 1122).all (fun i => !(Nat.beq (asP i).1 204 || (Nat.beq (asP i).1 209 || (Nat.beq (asP i).1 213 || (Nat.beq (asP i).1 223 || (Nat.beq (asP i).1 189 || (Nat.beq (asP i).1 190 || (Nat.beq (asP i).1 193 || (Nat.beq (asP i).1 226 || (Nat.beq (asP i).1 227 || (Nat.beq (asP i).1 195 || (Nat.ble 205 (asP i).1 || (Nat.beq (asP i).1 188 && (Nat.beq (asP i).2 2 || Nat.beq (asP i).2 71)))))))))))))) = true := by decide +kernel
    have ck2 : (List.range 5163).all (fun i => (Nat.beq (imP i).1 204 || (Nat.beq (imP i).1 209 || (Nat.beq (imP i).1 213 || (Nat.beq (imP i).1 223 || (Nat.beq (imP i).1 189 || (Nat.beq (imP i).1 190 || (Nat.beq (imP i).1 193 || (Nat.beq (imP i).1 226 || (Nat.beq (imP i).1 227 || (Nat.beq (imP i).1 195 || (Nat.ble 205 (imP i).1 || (Nat.beq (imP i).1 188 && (Nat.beq (imP i).2 2 || Nat.beq (imP i).2 71)))))))))))))) = true := by decide +kernel
    have t1 := List.all_eq_true.mp ck i (List.mem_range.mpr hi)
    have t2 := List.all_eq_true.mp ck2 k (List.mem_range.mpr hk)
    rw [e.1, e.2] at t2
    rw [t2] at t1
    cases t1
  rw [hN]
  refine ⟨hv, ?_, fun i hi => ?_, fun i hi => ?_, fun i => ?_, fun a j q q1 q2 => ?_⟩
  · have n77 : ∀ i, i < 5163 → ¬ ((imP i).1 = 188 ∧ (imP i).2 = 77) := fun i hi e => (imN_im hi).2.2 ⟨e.1, by omega⟩
    have n77' : ∀ i, i < 1122 → ¬ ((asP i).1 = 188 ∧ (asP i).2 = 77) := fun i hi e => (imN_as hi).2.2 ⟨e.1, by omega⟩
    rw [c3 188 77 n77 (by omega), m4' 188 77 (by omega), a3 188 77 n77' (by omega), b2 188 77 (by decide), e2, aPut_same]
  · rw [c2 i hi, m4' 229 i (by omega), m4i]
  · rw [c3 _ _ (fun k hk => dj i hi k hk) (fun e => (imN_as hi).2.2 ⟨e.1, by omega⟩), m4' _ _ (fun e => (imN_as hi).2.2 ⟨e.1, by omega⟩), a1 i hi, b1 i (by omega), m2i]
  · rw [c1 i, m4' 229 i (by omega), m4i]
  · rw [c3 a j q1 (fun e => q.2.2 ⟨e.1, by omega⟩), m4' a j (fun e => q.2.2 ⟨e.1, by omega⟩), a3 a j q2 (fun e => q.2.2 ⟨e.1, by omega⟩), b2 a j q.1]
    exact m2 a j q
/-- no image: nothing -/
theorem D_135_no {p1 : Int32} {M : pMem} {v : Int32} {N : pMem} (h : D_135 p1 M v N) (hp : p1 = 0) (ht : M 188 77 = 0) : v = kI 0 ∧ N = aPut M 188 0 (kI 0) := by
  obtain ⟨M1, e1, h⟩ := h
  have h := tIf_n (nn hp) h
  obtain ⟨hv, hN⟩ := tIf_n (by rw [e1, aPut_at (by decide)]; exact nn ht) h
  exact ⟨hv, hN.trans e1⟩
