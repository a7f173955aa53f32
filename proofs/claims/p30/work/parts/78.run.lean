/-! what the constructors leave; the whole run -/
theorem gFr_of {X : aX} {G : aH → Prop} {pS : Nat} {h0 h : aH} {ρ0 ρ : Nat → Int} {n : Nat} {σ : zS} {K : zK} {E : List zE} {ls : List zV} (hg : zGa X gPA G pS h0 ρ0 ρ n σ K E h) (hk : gKcC0 n σ K E ls = true) : gHs (fun _ => 0) 0 h := by
  unfold gKcC0 at hk
  obtain ⟨k0, hk⟩ := zAnd hk
  obtain ⟨kA, kB⟩ := zAnd k0
  obtain ⟨k1, hk⟩ := zAnd hk
  obtain ⟨kC, kD⟩ := zAnd k1
  obtain ⟨kF, hk⟩ := zAnd hk
  obtain ⟨kW, hk⟩ := zAnd hk
  obtain ⟨k2, kE⟩ := zAnd hk
  obtain ⟨k3, k4⟩ := zAnd k2
  obtain ⟨-, ⟨g1, g2, g3⟩, hE, -⟩ := hg
  have n1 : h.1 = 230 := g1.trans (zbe kA)
  have n2 : h.2.1 = 108808 := g2.trans (zbe kB)
  have cell : ∀ s b, gCell K s b = true → zGk (gP []) h b (gK s) := fun s b k => by
    have k' := k
    unfold gCell gCellC at k'
    obtain ⟨c1, -⟩ := zAnd k'
    obtain ⟨c1, c2⟩ := zAnd c1
    have c1 := zbt c1
    exact gCell_s k (g3 b b (Or.inl ⟨by omega, rfl⟩) (zbt c2))
  have hK : zGK (gP []) (230, 108808, []) h := by
    refine ⟨n1, n2, fun s b hc hlt => ?_⟩
    have hlt : (gK s).1 < 900 := hlt
    show zGk (gP []) h b (gK s)
    rcases hc with ⟨c1, c2⟩ | ⟨c1, c2, c3⟩ | ⟨c1, c2⟩
    · subst c2
      have m := List.all_eq_true.mp gK_mid b (List.mem_range.mpr (by omega))
      rcases Bool.or_eq_true _ _ ▸ m with m | m
      · have m := zbt m
        have k := List.all_eq_true.mp kC b (List.mem_range.mpr m)
        rcases Bool.or_eq_true _ _ ▸ k with k | k
        · have := zbl k; omega
        · exact cell b b k
      · rcases Bool.or_eq_true _ _ ▸ m with m | m
        · have := zbl m; omega
        · have := zbl m; omega
    · have c3 : b ∈ gPs s := c3
      obtain ⟨q, q1, q2, q3⟩ := gPs_m c3
      have k := List.all_eq_true.mp kD q q1
      rcases Bool.or_eq_true _ _ ▸ k with k | k
      · have := zbl k
        rw [q2] at this
        omega
      · have k := List.all_eq_true.mp k b q3
        rw [q2] at k
        exact cell s b k
    · rw [gK_out c1] at hlt
      omega
  have hks := gKs_of hK
  have zMn : ∀ (p i : Nat), p % 128 ≠ 127 → zM h p i = zM h p 0 := fun p i q => by
    unfold zM
    rw [if_neg q, if_neg q]
  have hI : zGI (gP []) h := by
    intro p i hp hi
    have hp1 : p / 128 < h.1 := hp.1
    have hp3 := hp.2.2
    rw [n1] at hp1
    have hp2 : p < 29440 := by omega
    show (gF p).1 ≤ (zM h p i).toInt ∧ (zM h p i).toInt ≤ (gF p).2
    have k := List.all_eq_true.mp gFz_ok p (List.mem_range.mpr hp2)
    rcases Bool.or_eq_true _ _ ▸ k with k | k
    · obtain ⟨k1, k2⟩ := zAnd k
      have k1 : (gF p).1 ≤ -2147483648 := zl k1
      have k2 : (2147483647 : Int) ≤ (gF p).2 := zl k2
      have := iG (zM h p i)
      omega
    · obtain ⟨t, ht, hq⟩ := List.any_eq_true.mp k
      obtain ⟨q1, hq⟩ := zAnd hq
      obtain ⟨q2, q3⟩ := zAnd hq
      have q1 := zbe q1
      have q2 := zl q2
      have q3 := zl q3
      have c := List.all_eq_true.mp kF t ht
      rw [q1] at c
      by_cases m : p % 128 = 127
      · rw [if_pos m] at hp3
        rw [show Nat.beq (p % 128) 127 = true from Nat.beq_eq.mpr m, cond_true] at c
        have hi := hi m
        obtain ⟨s1, s2, _⟩ := hks (p / 128) hp1
        rw [s1] at hp3
        rw [s2 hp3] at hi
        have := gCov_s hE hp2 c (fun z => absurd m z) hi
        omega
      · rw [show Nat.beq (p % 128) 127 = false from by rw [Bool.eq_false_iff]; exact fun z => m (Nat.eq_of_beq_eq_true z), cond_false] at c
        rw [zMn p i m]
        have := gCov_s (i := 0) hE hp2 c (fun _ => rfl) (by decide)
        omega
  have at0 : ∀ (p i : Nat), p < 29440 → p % 128 = 127 → gAtE E p i (.ofNat 0) (.ofNat 0) = true → (h.2.2.2 (p / 128) i).toInt = 0 := fun p i hp hm k => by
    have := (gAtE_s hE hp k (fun z => absurd hm z)).2
    unfold zM at this
    rw [if_pos hm] at this
    have e : (Int.ofNat 0) = 0 := rfl
    omega
  have hR : gRm h.2.2.2 := by
    have r0 : ∀ k, k < 4 → (h.2.2.2 204 k).toInt = 0 ∧ (h.2.2.2 229 (3 * k)).toInt = 0 := fun k hk => by
      obtain ⟨c1, c2⟩ := zAnd (List.all_eq_true.mp k3 k (List.mem_range.mpr hk))
      exact ⟨at0 26239 k (by decide) rfl c1, at0 29439 (3 * k) (by decide) rfl c2⟩
    have s0 : ∀ i, i < 96 → (h.2.2.2 214 i).toInt = 0 ∧ (h.2.2.2 229 (2 * i + 4268)).toInt = 0 := fun i hi => by
      obtain ⟨c1, c2⟩ := zAnd (List.all_eq_true.mp k4 i (List.mem_range.mpr hi))
      exact ⟨at0 27519 i (by decide) rfl c1, by rw [Nat.add_comm]; exact at0 29439 (4268 + 2 * i) (by decide) rfl c2⟩
    have t10 : ∀ x : Int32, x.toInt = 0 → x = 10 → False := fun x h1 h2 => by
      rw [h2] at h1
      exact absurd h1 (by decide)
    refine ⟨fun j hj => ?_, fun k l hk hl => ?_, fun i hi hw => ?_, fun k l hk hl => ?_, fun i hi hw => ?_⟩
    · have c := gAtE_s hE (by decide) (List.all_eq_true.mp kW j (List.mem_range.mpr hj)) (fun z => absurd rfl z)
      have c2 : gWd.getD j 0 ≤ (h.2.2.2 203 j).toInt ∧ (h.2.2.2 203 j).toInt ≤ gWd.getD j 0 := c.2
      rw [iE (h.2.2.2 203 j), show (h.2.2.2 203 j).toInt = gWd.getD j 0 by omega]
    · have := (r0 k hk).1
      omega
    · exact (t10 _ (s0 i hi).1 hw).elim
    · have := (r0 k hk).2
      have hl : (l : Int) < (h.2.2.2 229 (3 * k)).toInt := hl
      omega
    · exact (t10 _ (s0 i hi).2 hw).elim
  refine ⟨rfl, fun j b hj => ?_, fun e he => ?_, hI, hK, hR⟩
  · have a : ∀ b ∈ gLSg, b.1 ≤ 0 ∧ 0 ≤ b.2 := by decide
    exact a b (List.mem_of_getElem? hj)
  · have k := List.all_eq_true.mp kE e he
    obtain ⟨c1, k⟩ := zAnd k
    obtain ⟨c1, c2⟩ := zAnd c1
    have c1 := zbt c1
    have c2 := zbt c2
    have go : ∀ lo hi, ((List.range (e.2.2.1 - e.2.1)).all fun i => gAtE E e.1 (e.2.1 + i) lo hi) = true → zPl h e.1 ∧ ∀ i, e.2.1 ≤ i → i < e.2.2.1 → (e.1 % 128 ≠ 127 → i = 0) → lo ≤ (zM h e.1 i).toInt ∧ (zM h e.1 i).toInt ≤ hi := fun lo hi c => by
      have one : ∀ i, e.2.1 ≤ i → i < e.2.2.1 → gAtE E e.1 i lo hi = true := fun i i1 i2 => by
        have := List.all_eq_true.mp c (i - e.2.1) (List.mem_range.mpr (by omega))
        rwa [show e.2.1 + (i - e.2.1) = i by omega] at this
      refine ⟨?_, fun i i1 i2 i3 => (gAtE_s hE c1 (one i i1 i2) i3).2⟩
      have c3 := one e.2.1 (Nat.le_refl _) c2
      obtain ⟨d, hd, hq⟩ := List.any_eq_true.mp c3
      obtain ⟨q1, hq⟩ := zAnd hq
      have q1 := zbe q1
      have hh := hE d hd
      unfold zGe at hh
      rw [if_neg (by omega), if_neg (by omega), q1] at hh
      exact hh.1
    rcases Bool.or_eq_true _ _ ▸ k with k | k
    · obtain ⟨d1, d3⟩ := zAnd k
      obtain ⟨d1, d2⟩ := zAnd d1
      have d1 := zbe d1
      obtain ⟨p1, p2⟩ := go _ _ d3
      refine ⟨p1, fun i i1 i2 i3 => Or.inl ⟨d1, ?_, ?_⟩⟩
      · rcases Bool.or_eq_true _ _ ▸ d2 with d2 | d2
        · exact Or.inl (zeq_iff.mp d2)
        · exact Or.inr (zbt d2)
      · have := p2 i i1 i2 i3
        rw [Int.mul_zero, Int.add_zero]
        omega
    · obtain ⟨d1, d3⟩ := zAnd k
      have d1 := zbe d1
      obtain ⟨p1, p2⟩ := go _ _ d3
      exact ⟨p1, fun i i1 i2 i3 => Or.inr ⟨d1, p2 i i1 i2 i3⟩⟩
theorem zNc0 {ρ : Nat → Int} {n : Nat} {x : Int} (h : zN ρ n 0 (0, .ofNat 0, .ofNat 0, 0) x) : x = 0 := by
  rcases h with ⟨_, _, q⟩ | ⟨q, _⟩
  · have q : x = 0 + 0 * ρ 0 := q
    omega
  · cases q
theorem gValA : zVal gPA := ⟨(gB []).1, fun s b f _ _ hb => (by cases hb), ⟨Int.le_refl _, Int.le_refl _⟩, fun _ h => h, fun _ => ⟨fun _ => rfl, fun _ => ⟨Int.le_refl _, Int.le_refl _⟩⟩, fun s b hb => (by cases hb)⟩
theorem gGIA (h : aH) : zGI gPA h := fun p i _ _ => zI32_rg _
theorem gExC_s {h : aH} {e : zC} {a : Nat} (hk : gExC e a = true) (g : zGk gPA h a e) : (h.2.2.1 a).1 = (pC a).1 ∧ (100 ≤ (pC a).1 → (h.2.2.1 a).2.1 = (pC a).2.1) ∧ ∀ j r, (pC a).2.2[j]? = some r → r < 230 → (h.2.2.1 a).2.2 j = some r := by
  unfold gExC at hk
  obtain ⟨h1, h5⟩ := zAnd hk
  obtain ⟨h3, h4⟩ := zAnd h1
  have h3 := zbe h3
  obtain ⟨g1, g2, g3, g4, g5, g6⟩ := g
  refine ⟨g3.trans h3, fun q => ?_, fun j r hj hr => ?_⟩
  · rcases Bool.or_eq_true _ _ ▸ h4 with k | k
    · have := zbt k; omega
    · rw [← zbe k]; exact g4 (by omega)
  · have hl : j < (pC a).2.2.length := (List.getElem?_eq_some_iff.mp hj).1
    have er : (pC a).2.2.getD j 999 = r := by rw [List.getD_eq_getElem?_getD, hj]; rfl
    have k := List.all_eq_true.mp h5 j (List.mem_range.mpr hl)
    rw [er] at k
    rcases Bool.or_eq_true _ _ ▸ k with k | k
    · have := zbl k; omega
    · have k := zbe k
      obtain ⟨r', r1, r2⟩ := g5 j (by omega)
      have er : r' = zAt e.2.2.1 j := by
        rcases r2 with ⟨_, q⟩ | ⟨q, _⟩ | ⟨q, _⟩
        · exact q
        · omega
        · omega
      rw [r1, er, k]
theorem gS_of {X : aX} {G : aH → Prop} {pS0 : Nat} {h0 h : aH} {ρ0 ρ : Nat → Int} {n : Nat} {σ : zS} {K : zK} {E : List zE} (hg : zGa X gPA G pS0 h0 ρ0 ρ n σ K E h) (hk : gKcR K E = true) : pS h.2.2.1 := by
  unfold gKcR at hk
  obtain ⟨k1, -⟩ := zAnd hk
  obtain ⟨-, ⟨g1, g2, g3⟩, -, -⟩ := hg
  intro a ha
  obtain ⟨c1, c2⟩ := zAnd (List.all_eq_true.mp k1 a (List.mem_range.mpr ha))
  exact gExC_s c2 (g3 a a (Or.inl ⟨by omega, rfl⟩) (zbt c1))
theorem gWd_x : ∀ j, j < 156 → gWd.getD j 0 = xWd0.getD j 0 := by decide +kernel
theorem gA_of {X : aX} {G : aH → Prop} {pS0 : Nat} {h0 h : aH} {ρ0 ρ : Nat → Int} {n : Nat} {σ : zS} {K : zK} {E : List zE} (hg : zGa X gPA G pS0 h0 ρ0 ρ n σ K E h) (hk : gKcR K E = true) (hG : gG h) : rA h.2.2.2 := by
  unfold gKcR at hk
  obtain ⟨-, hk⟩ := zAnd hk
  obtain ⟨k1, hk⟩ := zAnd hk
  obtain ⟨k2, hk⟩ := zAnd hk
  obtain ⟨k3, hk⟩ := zAnd hk
  obtain ⟨k4, hk⟩ := zAnd hk
  obtain ⟨k5, k6⟩ := zAnd hk
  obtain ⟨-, -, hE, -⟩ := hg
  have z0 : ∀ x : Int32, x.toInt = 0 → x = 0 := fun x hx => Int32.toInt_inj.mp hx
  have fd : ∀ a f, 128 * a + f < 29440 → f < 127 → gZr E (128 * a + f) 0 = true → h.2.2.2 a f = 0 := fun a f hp hf k => by
    have q := (gAtE_s hE hp k (fun _ => rfl)).2
    unfold zM at q
    rw [if_neg (by omega), show (128 * a + f) / 128 = a by omega, show (128 * a + f) % 128 = f by omega] at q
    exact z0 _ (by have e : (Int.ofNat 0) = 0 := rfl; omega)
  have ar : ∀ a i, 128 * a + 127 < 29440 → gZr E (128 * a + 127) i = true → h.2.2.2 a i = 0 := fun a i hp k => by
    have q := (gAtE_s hE hp k (fun z => absurd (by omega) z)).2
    unfold zM at q
    rw [if_pos (by omega), show (128 * a + 127) / 128 = a by omega] at q
    exact z0 _ (by have e : (Int.ofNat 0) = 0 := rfl; omega)
  have f1 : ∀ a f, (128 * a + f) ∈ gZrF → 128 * a + f < 29440 → f < 127 → h.2.2.2 a f = 0 := fun a f m hp hf => fd a f hp hf (List.all_eq_true.mp k1 _ m)
  have cv : ∀ a l i, 128 * a + 127 < 29440 → gCov E (128 * a + 127) l (.ofNat 0) (.ofNat 0) = true → i < l → h.2.2.2 a i = 0 := fun a l i hp k hi => by
    have q := gCov_s hE hp k (fun z => absurd (by omega) z) hi
    unfold zM at q
    rw [if_pos (by omega), show (128 * a + 127) / 128 = a by omega] at q
    exact z0 _ (by have e : (Int.ofNat 0) = 0 := rfl; omega)
  have r2 : ∀ i, i < 500 → h.2.2.2 2 i = 0 ∧ h.2.2.2 202 i = 0 := fun i hi => by
    obtain ⟨c1, c2⟩ := zAnd k2
    exact ⟨cv 2 500 i (by decide) c1 hi, cv 202 500 i (by decide) c2 hi⟩
  have r3 : ∀ k, k < 4 → h.2.2.2 (37 + 11 * k) 0 = 0 ∧ h.2.2.2 (93 + 11 * k) 0 = 0 ∧ h.2.2.2 213 k = 0 ∧ h.2.2.2 229 (3 * k + 2) = 0 := fun k hk => by
    obtain ⟨c1, c2⟩ := zAnd (List.all_eq_true.mp k3 k (List.mem_range.mpr hk))
    exact ⟨fd _ 0 (by omega) (by decide) c1, fd _ 0 (by omega) (by decide) c2, cv 213 4 k (by decide) k4 hk, cv 229 8600 _ (by decide) k6 (by omega)⟩
  have r4 : ∀ b, b < 24 → h.2.2.2 226 b = 0 ∧ h.2.2.2 229 (4470 + 5 * b) = 0 := fun b hb =>
    ⟨cv 226 24 b (by decide) k5 hb, cv 229 8600 _ (by decide) k6 (by omega)⟩
  have i1 := cv 229 8600 4460 (by decide) k6 (by decide)
  have i2 := cv 229 8600 7000 (by decide) k6 (by decide)
  have i3 := cv 229 8600 7001 (by decide) k6 (by decide)
  have a0 := f1 19 0 (by decide) (by decide) (by decide)
  have a4 := f1 19 4 (by decide) (by decide) (by decide)
  have a5 := f1 19 5 (by decide) (by decide) (by decide)
  have b1 := f1 188 1 (by decide) (by decide) (by decide)
  have b2 := f1 188 2 (by decide) (by decide) (by decide)
  have b3 := f1 188 3 (by decide) (by decide) (by decide)
  have b24 := f1 188 24 (by decide) (by decide) (by decide)
  have b77 := f1 188 77 (by decide) (by decide) (by decide)
  have c0 := f1 75 0 (by decide) (by decide) (by decide)
  have c4 := f1 75 4 (by decide) (by decide) (by decide)
  have c5 := f1 75 5 (by decide) (by decide) (by decide)
  have d8 := f1 0 8 (by decide) (by decide) (by decide)
  have t0 := f1 1 0 (by decide) (by decide) (by decide)
  have pl : ∀ (pl b : Nat) (m : Int32) (W A : Nat → Int32), h.2.2.2 pl 0 = 0 → m = 0 → rPlan h.2.2.2 pl m W A b := fun pl b m W A h1 h2 =>
    ⟨[], by decide, by rw [h2]; rfl, fun i w hi => (by cases hi), by rw [h1]; rfl, fun i x hi => (by cases hi)⟩
  refine ⟨⟨by rw [t0, b24], fun i hi => by rw [(r2 i hi).1, (r2 i hi).2], by rw [t0]; decide, by rw [t0]; decide, fun i hi => by rw [(r2 i hi).2]; decide, fun j hj => ?_⟩, ⟨by rw [a0, b2], by rw [a4, b3], by rw [a5, b1], by rw [a0]; decide, by rw [a4]; decide⟩,
    ⟨by rw [c0, i1], by rw [c4, i3], by rw [c5, i2], by rw [c0]; decide, by rw [c4]; decide⟩, ⟨by rw [d8, b77], Or.inl d8⟩, fun k hk => pl _ _ _ _ _ (r3 k hk).1 (r3 k hk).2.2.1, fun k hk => pl _ _ _ _ _ (r3 k hk).2.1 (r3 k hk).2.2.2, fun b hb => ⟨Or.inl (r4 b hb).1, Or.inl (r4 b hb).2⟩⟩
  have := hG.2.1 j hj
  rw [this, gWd_x j hj]
theorem gF_of {X : aX} {G : aH → Prop} {pS0 : Nat} {h0 h : aH} {ρ0 ρ : Nat → Int} {n : Nat} {σ : zS} {K : zK} {E : List zE} (hg : zGa X gPA G pS0 h0 ρ0 ρ n σ K E h) (hk : gKcF E = true) : rT 18 h.2.2.2 h.2.2.2 ∧ h.2.2.2 0 8 = 0 := by
  unfold gKcF at hk
  obtain ⟨k1, k2⟩ := zAnd hk
  obtain ⟨-, -, hE, -⟩ := hg
  have fd : ∀ (a f : Nat) (x : Int), (a, f, x) ∈ gKf1 → 128 * a + f < 29440 → f < 127 → h.2.2.2 a f = kI x := fun a f x m hp hf => by
    have k : gAtE E (128 * a + f) 0 x x = true := List.all_eq_true.mp k1 (a, f, x) m
    have q := (gAtE_s hE hp k (fun _ => rfl)).2
    unfold zM at q
    rw [if_neg (by omega), show (128 * a + f) / 128 = a by omega, show (128 * a + f) % 128 = f by omega] at q
    exact kI_inj (by omega)
  have ar : ∀ (a l : Nat) (x : Int), (a, l, x) ∈ gKf2 → 128 * a + 127 < 29440 → ∀ i, i < l → h.2.2.2 a i = kI x := fun a l x m hp i hi => by
    have k : gCov E (128 * a + 127) l x x = true := List.all_eq_true.mp k2 (a, l, x) m
    have q := gCov_s hE hp k (fun z => absurd (by omega) z) hi
    unfold zM at q
    rw [if_pos (by omega), show (128 * a + 127) / 128 = a by omega] at q
    exact kI_inj (by omega)
  have m1 : ∀ j, j < 9 → (19, j, (0 : Int)) ∈ gKf1 := by decide
  have m2 : ∀ k, k < 4 → (30 + 11 * k, 0, (0 : Int)) ∈ gKf1 := by decide
  exact ⟨rT_start (fun j hj => fd 19 j 0 (m1 j hj) (by omega) (by omega)) ⟨fd 19 9 (-1) (by decide) (by decide) (by decide), fd 19 10 (-1) (by decide) (by decide) (by decide)⟩ (fun i hi => ⟨ar 20 24 0 (by decide) (by decide) i hi, ar 21 24 0 (by decide) (by decide) i hi, ar 29 24 0 (by decide) (by decide) i hi, ar 28 24 (-100) (by decide) (by decide) i hi⟩) (fun i hi => ar 22 576 0 (by decide) (by decide) i hi) (fun i hi => ar 23 18 0 (by decide) (by decide) i hi) (fun i hi => ar 26 480 0 (by decide) (by decide) i hi)
    (fun k hk => fd (30 + 11 * k) 0 0 (m2 k hk) (by omega) (by decide)) ⟨fd 18 7 0 (by decide) (by decide) (by decide), fd 18 8 0 (by decide) (by decide) (by decide)⟩ (fun j hj => by rcases hj with rfl | rfl | rfl | rfl | rfl | rfl | rfl | rfl <;> exact fd 188 _ 0 (by decide) (by decide) (by decide)) ⟨fd 188 20 (-1) (by decide) (by decide) (by decide), fd 188 21 (-1) (by decide) (by decide) (by decide)⟩
    (fun i hi => ⟨ar 189 24 0 (by decide) (by decide) i hi, ar 190 24 0 (by decide) (by decide) i hi, ar 191 24 0 (by decide) (by decide) i hi, ar 192 24 0 (by decide) (by decide) i hi, ar 193 24 0 (by decide) (by decide) i hi, ar 226 24 0 (by decide) (by decide) i hi⟩) (fun i hi => ⟨ar 194 576 0 (by decide) (by decide) i hi, ar 195 576 0 (by decide) (by decide) i hi⟩) (fun i hi => ⟨ar 196 2 0 (by decide) (by decide) i hi, ar 197 2 0 (by decide) (by decide) i hi, ar 198 2 0 (by decide) (by decide) i hi, ar 199 2 0 (by decide) (by decide) i hi, ar 200 2 0 (by decide) (by decide) i hi⟩) (fun i hi => ar 201 480 0 (by decide) (by decide) i hi) (fun i hi => ⟨ar 204 4 0 (by decide) (by decide) i hi, ar 209 4 0 (by decide) (by decide) i hi⟩), fd 0 8 0 (by decide) (by decide) (by decide)⟩
def gQ1 (rv : Option Value) (h' : aH) : Prop := rv = some (.int 1) ∧ h'.1 ≤ 600000 ∧ h'.2.1 ≤ 7302250
theorem gRel {L : Nat} {xs : Nat → Int32} {h : aH} (hS : pS h.2.2.1) (hA : rF h.2.2.2) (h1 : h.1 = 230) (h2 : h.2.1 = 108808) (k : zW (L, xs) 60 241 1 [.iload 3, .aload 0, .arraylength, .bipush 6, .isub, .if_icmp .gt 52] [.ref 90000, .ref 0, .ref 188, iv 0] [] h gQ) : zW (L, xs) 60 241 1 [.iload 3, .aload 0, .arraylength, .bipush 6, .isub, .if_icmp .gt 52] [.ref 90000, .ref 0, .ref 188, iv 0] [] h gQ1 := by
  obtain ⟨rv, h', ⟨_, b1, b2⟩, F0, e⟩ := k
  have eh : pH h.2.2.1 h.2.2.2 = h := by
    show (230, 108808, h.2.2.1, h.2.2.2) = h
    rw [← h1, ← h2]
  have H : pm (L, xs) F0 60 241 F0 1 [.iload 3, .aload 0, .arraylength, .bipush 6, .isub, .if_icmp .gt 52] [.ref 90000, .ref 0, .ref 188, .int (Int32.ofInt 0)] [] (pH h.2.2.1 h.2.2.2) (rv, h') := by
    rw [eh]
    exact e F0 F0 (Nat.le_refl _) (Nat.le_refl _)
  obtain ⟨N, e1⟩ := lw_rel hS hA H
  exact ⟨rv, h', ⟨(Prod.mk.inj e1).1, b1, b2⟩, F0, e⟩
theorem gHIA {L : Nat} {xs : Nat → Int32} (hL : L ≤ 3072) {pS : Nat} {h0 : aH} {ρ0 : Nat → Int} : zHI (L, xs) gPA (fun _ => True) pS h0 ρ0 0 60 241 gQ1 := by
  intro v hv n σ K E ls ρ h lsC hg hl hk hc
  obtain rfl := List.mem_singleton.mp hv
  have hc : (gKcC0 n σ K E ls && (gKcR K E && gKcF E)) = true := hc
  obtain ⟨hc, hcR⟩ := zAnd hc
  obtain ⟨hcR, hcF⟩ := zAnd hcR
  have hF : gHs (fun _ => 0) 0 h := gFr_of (n := n) (σ := σ) (ls := ls) hg hc
  have hk : zHeadF gPA (1, [], [], [(4, (.ofNat 0), (.ofNat 0), 90000), (4, (.ofNat 0), (.ofNat 0), 0), (4, (.ofNat 0), (.ofNat 0), 188), (0, (.ofNat 0), (.ofNat 0), 0)], [], []) ls σ E [] = true := hk
  obtain ⟨k1, -⟩ := zAnd hk
  have a := zFitL_s (r := fun _ => 0) (th := []) gValA hg.1 (fun i v h => by cases h) hl k1
  obtain ⟨u0, u1, u2, u3, rfl, g0, g1, g2, g3⟩ := gGl4 a
  obtain rfl := gRefx g0 (Or.inr (by decide))
  obtain rfl := gRefx g1 (Or.inl (by decide))
  obtain rfl := gRefx g2 (Or.inl (by decide))
  obtain ⟨x, rfl, hx⟩ := zG_int g3 (Or.inl rfl)
  have hx := zNc0 hx
  have e0 : x = Int32.ofInt 0 := by rw [iE x, hx]
  rw [e0]
  have hG : gG h := hF.2.2.2.2
  exact ⟨_, gLb1, gRel (gS_of hg hcR) ⟨gA_of hg hcR hG, (gF_of hg hcF).1, fun e => absurd (e.symm.trans (gF_of hg hcF).2) (by decide)⟩ hG.1.1 hG.1.2.1 (gLoop hL L (fun _ => 0) 0 h hF (Int.le_refl _) (by omega))⟩
theorem tAll_run {L : Nat} {xs : Nat → Int32} (hL : L ≤ 3072) : ∃ F hF, aE (L, xs) (aM (L, xs) F 60) 2 (aMC 241) F 0 (aEn [.ref 90000] 4) [] aH0 = some (some (.int 1), hF) ∧ hF.1 ≤ 600000 ∧ hF.2.1 ≤ 7302250 := by
  have hb2 : 0 < (aMC 241).length := by rw [gLen]; decide
  have e1 : (zBk 241).getD 0 [] = zEnB ((aMC 241)[0]) := by
    rw [gBk, List.getD_eq_getElem?_getD, List.getElem?_map, List.getElem?_eq_getElem hb2]
    rfl
  have run := gR_c
  rw [e1] at run
  have hg : zGa (L, xs) gPA (fun _ => True) 0 aH0 (fun _ => 0) (fun _ => 0) 0 [] (0, 0, []) [] aH0 := ⟨fun e he => (by cases he), ⟨rfl, rfl, fun s b _ hlt => absurd hlt (by show ¬ ((999 : Nat) < 900); decide)⟩, fun e he => (by cases he), gGIA _, fun al => (by cases al), fun i hi => rfl, Nat.le_refl _⟩
  have hl : zGl gPA (fun _ => 0) 0 [(4, .ofNat 0, .ofNat 0, 90000), (6, .ofNat 0, .ofNat 0, 0), (6, .ofNat 0, .ofNat 0, 0), (6, .ofNat 0, .ofNat 0, 0)] (aEn [.ref 90000] 4) := ⟨zGr (Or.inr (Or.inr ⟨by decide, rfl⟩)), zGd, zGd, zGd, trivial⟩
  have hw : zW (L, xs) 60 241 0 ((aMC 241)[0]) (aEn [.ref 90000] 4) [] aH0 gQ1 := zGoX_s (G := fun _ => True) gValA (fun h M' al _ _ _ => trivial) (gHIA hL) (fun n σ K E rv ρ h rvC hk _ _ => (by cases hk)) (fun q c hc => (by cases hc)) 10000000 0 [] _ [] ([], 60, 241, 0) _ _ [] run (fun _ => 0) aH0 [] _ _ [] hg trivial ⟨rfl, rfl⟩ rfl hl trivial
  obtain ⟨rv, hF, ⟨rfl, q1, q2⟩, F0, e⟩ := hw
  refine ⟨F0 + 1, hF, ?_, q1, q2⟩
  have := e (F0 + 1) F0 (by omega) (Nat.le_refl _)
  rw [gRT] at this
  unfold zBE at this
  unfold aE
  rw [List.getElem?_eq_getElem hb2]
  dsimp only
  split at this
  · rename_i q hq
    rw [hq]
    exact this
  · rename_i r hr
    rw [hr]
    exact this
  · cases this
