/-! least, back: days of one kind in thought, on both sides -/
/-- the reference's days apart, then against, till there is a fight -/
def rAp : Nat → pMem → pMem → Prop
  | 0, V, U => U = V
  | n + 1, V, U => ∃ u V1, D_101 (kI 0) (kI 0) (kI (-1)) V u V1 ∧ rAp n V1 U
def rFig : Nat → Nat → pMem → Int32 → Prop
  | 0, _, _, v => v = kI (-1)
  | r + 1, n, V, v => ∃ u V1, D_101 (kI 1) (kI 5) (kI (-1)) V u V1 ∧ ((V1 188 54 = 0 ∧ rFig r (n + 1) V1 v) ∨ (¬ V1 188 54 = 0 ∧ v = kI (n : Nat)))
theorem L_111_v {p1 p2 x : Int32} {q : Nat} (hq : p2.toInt = q) (hq9 : q ≤ 9) {V : pMem} {v : Int32} {N : pMem} (h : L_111_4 p1 p2 x V v N) : ∀ i : Nat, x.toInt = i → i ≤ q → ∃ U, rAp (q - i) V U ∧ rFig 20 1 U v := by
  refine h (fun x V v N => ∀ i : Nat, x.toInt = i → i ≤ q → ∃ U, rAp (q - i) V U ∧ rFig 20 1 U v,
    fun x y V v N => ∀ n : Nat, y.toInt = n → 1 ≤ n → n ≤ 21 → (¬ x = kI (-1) → v = x) ∧ (x = kI (-1) → rFig (21 - n) n V v)) ⟨?_, ?_⟩
  · intro x V v N hs i hx hi
    rcases hs with ⟨g, hs⟩ | ⟨g, u, V1, h101, hs⟩
    · rw [i_le, hq, hx] at g
      rw [show q - i = 0 by omega]
      exact ⟨V, rfl, (hs 1 rfl (by decide) (by decide)).2 rfl⟩
    · rw [i_le, hq, hx] at g
      obtain ⟨U, r1, r2⟩ := hs (i + 1) (n_add1 hx (by omega)) (by omega)
      rw [show q - i = q - (i + 1) + 1 by omega]
      exact ⟨U, ⟨u, V1, h101, r1⟩, r2⟩
  · intro x y V v N hs n hy h1 h21
    rcases hs with ⟨g, _, M1, _, hv, _⟩ | ⟨g, hs⟩
    · rw [i_lt, hy, kI_toInt (by decide) (by decide)] at g
      have e : n = 21 := by omega
      rw [e]
      exact ⟨fun _ => hv, fun q => (hv.trans q : v = kI (-1))⟩
    · rw [i_lt, hy, kI_toInt (by decide) (by decide)] at g
      rcases hs with ⟨g2, _, M1, _, hv, _⟩ | ⟨g2, u, V1, h101, hs⟩
      · exact ⟨fun _ => hv, fun q => absurd q g2⟩
      · refine ⟨fun q => absurd q g2, fun q => ?_⟩
        have n1 : (y + kI 1).toInt = ((n + 1 : Nat) : Int) := n_add1 hy (by omega)
        rw [show 21 - n = 21 - (n + 1) + 1 by omega]
        rcases hs with ⟨g3, hs⟩ | ⟨g3, hs⟩
        · exact ⟨u, V1, h101, Or.inl ⟨g3, (hs (n + 1) n1 (by omega) (by omega)).2 q⟩⟩
        · have ne : ¬ y = kI (-1) := fun e => by rw [e, kI_toInt (by decide) (by decide)] at hy; omega
          exact ⟨u, V1, h101, Or.inr ⟨g3, ((hs (n + 1) n1 (by omega) (by omega)).1 ne).trans (kI_inj hy)⟩⟩
def lQ9 (kl k q : Nat) (o : List Cd) (L : List Ln) (x : Int32) (M : pMem) (v : Int32) (_ : pMem) : Prop := ∀ i : Nat, x.toInt = i → i ≤ q → ∀ V U u, rTg (30 + 11 * kl) k o L M V → (0 ≤ (V 188 3).toInt ∧ (V 188 3).toInt ≤ 60 + (i : Int)) → rAp (q - i) V U → rFig 20 1 U u → v = u
def lQ9b (kl k : Nat) (o : List Cd) (L : List Ln) (x : Int32) (M : pMem) (v : Int32) (_ : pMem) : Prop := ∀ n : Nat, x.toInt = n → 1 ≤ n → n ≤ 21 → ∀ V u, rTg (30 + 11 * kl) k o L M V → (0 ≤ (V 188 3).toInt ∧ (V 188 3).toInt ≤ 70 + (n : Int)) → rFig (21 - n) n V u → v = u
theorem L_209_v {kl k q : Nat} (hkl : kl < 4) {p3 x : Int32} (hq : p3.toInt = q) (hq9 : q ≤ 9) {o : List Cd} {L : List Ln} {M : pMem} {v : Int32} {N : pMem} (h : L_209_1 (30 + 11 * kl) p3 x M v N) : lQ9 kl k q o L x M v N := by
  refine h (lQ9 kl k q o L, lQ9b kl k o L) ⟨?_, ?_⟩
  · intro x M v N hs i hx hi V U u hg hd hA hF
    rcases hs with ⟨g, hs⟩ | ⟨g, v1, M1, h138, hs⟩
    · rw [i_le, hq, hx] at g
      rw [show q - i = 0 by omega] at hA
      have e : U = V := hA
      rw [e] at hF
      exact hs 1 rfl (by decide) (by decide) V u hg ⟨hd.1, by omega⟩ hF
    · rw [i_le, hq, hx] at g
      rw [show q - i = q - (i + 1) + 1 by omega] at hA
      obtain ⟨w, V1, h101, hA⟩ := hA
      obtain ⟨g1, _, d3, _⟩ := day_tg (law_pK hkl) hg ⟨hd.1, by omega⟩ h138 h101
      have n3 : (V1 188 3).toInt = (V 188 3).toInt + 1 := by rw [d3, i_add1 (by omega)]
      exact hs (i + 1) (n_add1 hx (by omega)) (by omega) V1 U u g1 ⟨by omega, by omega⟩ hA hF
  · intro x M v N hs n hx h1 h21 V u hg hd hF
    rcases hs with ⟨g, hv, _⟩ | ⟨g, v1, M1, h138, hs⟩
    · rw [i_lt, hx, kI_toInt (by decide) (by decide)] at g
      rw [show 21 - n = 0 by omega] at hF
      have e : u = kI (-1) := hF
      rw [hv, e]
    · rw [i_lt, hx, kI_toInt (by decide) (by decide)] at g
      rw [show 21 - n = 21 - (n + 1) + 1 by omega] at hF
      obtain ⟨w, V1, h101, hF⟩ := hF
      obtain ⟨g1, ev, d3, _, _, _, _, _, c4⟩ := day_tg (law_pK hkl) hg ⟨hd.1, by omega⟩ h138 h101
      have n3 : (V1 188 3).toInt = (V 188 3).toInt + 1 := by rw [d3, i_add1 (by omega)]
      rcases hs with ⟨g2, hs⟩ | ⟨g2, hv, _⟩
      · rw [ev] at g2
        rcases hF with ⟨_, hF⟩ | ⟨g3, _⟩
        · exact hs (n + 1) (n_add1 hx (by omega)) (by omega) (by omega) V1 u g1 ⟨by omega, by omega⟩ hF
        · exact absurd (c4.mp g2) g3
      · rw [ev] at g2
        rcases hF with ⟨g3, _⟩ | ⟨_, hu⟩
        · exact absurd (c4.mpr g3) g2
        · rw [hv, hu]
          exact kI_inj hx
theorem op_least_v {p1 p2 v u : Int32} {M M1 M2 : pMem} (h : rF M) (h1 : D_18 p1 p2 M v M1) (h2 : D_111 p1 p2 M1 u M2) : v = u := by
  have c8 := fr_188 (F_18 h1) (by decide +kernel)
  obtain ⟨R0, e0, h2⟩ := h2
  have k9 : (kI 9).toInt = 9 := kI_toInt (by decide) (by decide)
  by_cases g1 : 0 ≤ p1.toInt ∧ p1.toInt < 4
  · have h1 := tIf_n (f_33_iff.mpr g1) h1
    have h2 := tIf_n (f_109_iff.mpr g1) h2
    obtain ⟨kl, hkl⟩ : ∃ k : Nat, p1.toInt = k := ⟨p1.toInt.toNat, by omega⟩
    by_cases g2 : 0 ≤ p2.toInt ∧ p2.toInt ≤ 9
    · have h1 := tIf_n (show ¬ p2 < 0 by rw [i_lt, i_0]; omega) h1
      have h1 := tIf_p (show p2 ≤ kI 9 by rw [i_le, k9]; omega) h1
      have h2 := tIf_p (f_42_iff.mpr ⟨by rw [i_le, kI_toInt (by decide) (by decide)]; exact g2.1, by rw [i_le, k9]; exact g2.2⟩) h2
      obtain ⟨q, hq⟩ : ∃ k : Nat, p2.toInt = k := ⟨p2.toInt.toNat, by omega⟩
      obtain ⟨_, v1, X, h209, hv, _⟩ := h1
      rw [ix_of hkl] at h209
      obtain ⟨_, X1, h207, h209⟩ := h209
      obtain ⟨_, R2, h108, R3, e3, h2⟩ := h2
      have hB := thB_of (x := kI 0) hkl (Or.inr e0) h108 c8
      rw [← e3] at hB
      obtain ⟨o, L, hg, _⟩ := th_start (by omega) h.2.1 hB h207
      obtain ⟨U, r1, r2⟩ := L_111_v hq (by omega) h2 0 rfl (Nat.zero_le _)
      have d3 : R3 188 3 = M 188 3 := (thB_V hB).1.2.2.1
      have dd := h.2.1.1.2.2
      rw [hv]
      exact L_209_v (by omega) hq (by omega) h209 0 rfl (Nat.zero_le _) R3 U u hg (by rw [d3]; exact ⟨dd.1, by have := dd.2; omega⟩) r1 r2
    · have h2 := tIf_n (fun q => g2 (by
        obtain ⟨q1, q2⟩ := f_42_iff.mp q
        rw [i_le, kI_toInt (by decide) (by decide)] at q1
        rw [i_le, k9] at q2
        exact ⟨q1, q2⟩)) h2
      rcases h1 with ⟨_, hv, _⟩ | ⟨g3, h1⟩
      · rw [hv, h2.1]
      · rcases h1 with ⟨g4, _⟩ | ⟨_, hv, _⟩
        · rw [i_lt, i_0] at g3
          rw [i_le, k9] at g4
          exact absurd ⟨by omega, g4⟩ g2
        · rw [hv, h2.1]
  · have h1 := tIf_p (Classical.not_not.mp fun q => g1 (f_33_iff.mp q)) h1
    have h2 := tIf_p (Classical.not_not.mp fun q => g1 (f_109_iff.mp q)) h2
    rw [h1.1, h2.1]
/-! back -/
/-- the reference's days together: r are left, n went by -/
def rBk : Nat → Nat → pMem → Int32 → Prop
  | 0, n, V, v => ∃ w V1, D_55 V w V1 ∧ ((w < 0 ∧ v = kI (-1)) ∨ (¬ w < 0 ∧ v = kI (n : Nat)))
  | r + 1, n, V, v => ∃ w V1, D_55 V w V1 ∧ ((0 ≤ w ∧ ∃ w2 V2, D_55 V1 w2 V2 ∧ ((w2 < 0 ∧ v = kI (-1)) ∨ (¬ w2 < 0 ∧ v = kI (n : Nat)))) ∨
      (¬ 0 ≤ w ∧ ∃ u V2, D_101 (kI 3) (kI 0) (kI (-1)) V1 u V2 ∧ rBk r (n + 1) V2 v))
theorem L_112_v {p1 x : Int32} {V : pMem} {v : Int32} {N : pMem} (h : L_112_3 p1 x V v N) : ∀ n : Nat, x.toInt = n → n ≤ 30 → rBk (30 - n) n V v := by
  refine h (fun x V v N => ∀ n : Nat, x.toInt = n → n ≤ 30 → rBk (30 - n) n V v) ?_
  intro x V v N hs n hx hn
  have ex : x = kI (n : Nat) := kI_inj hx
  rcases hs with ⟨g, w, V1, h55, hs⟩ | ⟨g, w, V1, h55, hs⟩
  · rw [i_le, hx, kI_toInt (by decide) (by decide)] at g
    rw [show 30 - n = 0 by omega]
    refine ⟨w, V1, h55, ?_⟩
    rcases hs with ⟨g2, _, _, _, hv, _⟩ | ⟨g2, _, _, _, hv, _⟩
    · exact Or.inl ⟨g2, hv⟩
    · exact Or.inr ⟨g2, hv.trans ex⟩
  · rw [i_le, hx, kI_toInt (by decide) (by decide)] at g
    rw [show 30 - n = 30 - (n + 1) + 1 by omega]
    refine ⟨w, V1, h55, ?_⟩
    rcases hs with ⟨g2, w2, V2, h55b, hs⟩ | ⟨g2, u, V2, h101, hs⟩
    · refine Or.inl ⟨g2, w2, V2, h55b, ?_⟩
      rcases hs with ⟨g3, _, _, _, hv, _⟩ | ⟨g3, _, _, _, hv, _⟩
      · exact Or.inl ⟨g3, hv⟩
      · exact Or.inr ⟨g3, hv.trans ex⟩
    · exact Or.inr ⟨g2, u, V2, h101, hs (n + 1) (n_add1 hx (by omega)) (by omega)⟩
def lQ10 (kl k : Nat) (d0 : Int32) (o : List Cd) (L : List Ln) (x : Int32) (M : pMem) (v : Int32) (_ : pMem) : Prop := ∀ n : Nat, x.toInt = n → n ≤ 30 → ∀ V u, rTg (30 + 11 * kl) k o L M V → (0 ≤ (V 188 3).toInt ∧ (V 188 3).toInt ≤ 60 + (n : Int)) → V 188 3 = d0 + kI (n : Nat) → M 19 4 = d0 → rBk (30 - n) n V u → v = u
theorem lt_le0 {w : Int32} : w < 0 ↔ ¬ 0 ≤ w := by
  rw [i_lt, i_le, i_0]
  omega
theorem L_210_v {kl k : Nat} (hkl : kl < 4) {x d0 : Int32} {o : List Cd} {L : List Ln} {M : pMem} {v : Int32} {N : pMem} (h : L_210_1 (30 + 11 * kl) x M v N) : lQ10 kl k d0 o L x M v N := by
  refine h (lQ10 kl k d0 o L) ?_
  intro x M v N hs n hx hn V u hg hd h3 h19 hB
  have e4 : M 143 4 = V 188 3 := hg.2.1.2.2.2.2.1.1
  have ed : V 188 3 - d0 = kI (n : Nat) := by rw [h3]; exact i_asc
  rcases hs with ⟨g, v1, M1, h230, hs⟩ | ⟨g, v1, M1, h230, hs⟩
  · rw [i_le, hx, kI_toInt (by decide) (by decide)] at g
    rw [show 30 - n = 0 by omega] at hB
    obtain ⟨w, V1, h55, hB⟩ := hB
    obtain ⟨z1, z2, z3⟩ := cross_tg hg.1 hg.2.1 h230 h55
    rw [z1, z2] at hs
    rcases hs with ⟨g2, hv, _⟩ | ⟨g2, hv, _⟩
    · rcases hB with ⟨g3, _⟩ | ⟨_, hu⟩
      · exact absurd g2 (lt_le0.mp g3)
      · rw [hv, hu, e4, h19, ed]
    · rcases hB with ⟨_, hu⟩ | ⟨g3, _⟩
      · rw [hv, hu]
      · exact absurd (lt_le0.mpr g2) g3
  · rw [i_le, hx, kI_toInt (by decide) (by decide)] at g
    rw [show 30 - n = 30 - (n + 1) + 1 by omega] at hB
    obtain ⟨w, V1, h55, hB⟩ := hB
    obtain ⟨z1, z2, z3⟩ := cross_tg hg.1 hg.2.1 h230 h55
    rw [z1, z2] at hs
    rw [z3] at hB
    rcases hs with ⟨g2, v2, M2, h230b, hs⟩ | ⟨g2, v2, M2, h138, hs⟩
    · rcases hB with ⟨_, w2, V2, h55b, hB⟩ | ⟨g3, _⟩
      · obtain ⟨y1, y2, y3⟩ := cross_tg hg.1 hg.2.1 h230b h55b
        rw [y1, y2] at hs
        rcases hs with ⟨g4, hv, _⟩ | ⟨g4, hv, _⟩
        · rcases hB with ⟨g5, _⟩ | ⟨_, hu⟩
          · exact absurd g4 (lt_le0.mp g5)
          · rw [hv, hu, e4, h19, ed]
        · rcases hB with ⟨_, hu⟩ | ⟨g5, _⟩
          · rw [hv, hu]
          · exact absurd (lt_le0.mpr g4) g5
      · exact absurd g2 g3
    · rcases hB with ⟨g3, _⟩ | ⟨_, u1, V2, h101, hB⟩
      · exact absurd g3 g2
      · obtain ⟨g1, _, d3, fr, _⟩ := day_tg (law_pK hkl) hg ⟨hd.1, by omega⟩ h138 h101
        have n3 : (V2 188 3).toInt = (V 188 3).toInt + 1 := by rw [d3, i_add1 (by omega)]
        have m19 : M2 19 = M 19 := fr 19 (fun j hj => by omega) (by decide) (by omega)
        refine hs (n + 1) (n_add1 hx (by omega)) (by omega) V2 u g1 ⟨by omega, by omega⟩ ?_ (by rw [m19]; exact h19) hB
        have e1 : kI ((n + 1 : Nat) : Int) = kI (n : Nat) + kI 1 := kI_n1
        rw [d3, h3, e1, Int32.add_assoc]
theorem op_back_v {p1 v u : Int32} {M M1 M2 : pMem} (h : rF M) (h1 : D_19 p1 M v M1) (h2 : D_112 p1 M1 u M2) : v = u := by
  have c8 := fr_188 (F_19 h1) (by decide +kernel)
  obtain ⟨R0, e0, h2⟩ := h2
  by_cases g1 : 0 ≤ p1.toInt ∧ p1.toInt < 4
  · have h1 := tIf_n (f_33_iff.mpr g1) h1
    have h2 := tIf_p (f_109_iff.mpr g1) h2
    obtain ⟨kl, hkl⟩ : ∃ k : Nat, p1.toInt = k := ⟨p1.toInt.toNat, by omega⟩
    obtain ⟨_, v1, X, h210, hv, _⟩ := h1
    rw [ix_of hkl] at h210
    obtain ⟨_, X1, h207, h210⟩ := h210
    obtain ⟨_, R2, h108, R3, e3, h2⟩ := h2
    have hB := thB_of (x := kI 0) hkl (Or.inr e0) h108 c8
    rw [← e3] at hB
    obtain ⟨o, L, hg, hX1⟩ := th_start (by omega) h.2.1 hB h207
    have r := L_112_v h2 0 rfl (Nat.zero_le _)
    have d3 : R3 188 3 = M 188 3 := (thB_V hB).1.2.2.1
    have dd := h.2.1.1.2.2
    have e19 : M 19 4 = M 188 3 := h.2.1.2.1.1.2.2.2.2.1.1
    rw [hv]
    refine L_210_v (d0 := M 188 3) (by omega) h210 0 rfl (Nat.zero_le _) R3 u hg (by rw [d3]; exact ⟨dd.1, by have := dd.2; omega⟩) ?_ (by rw [hX1 19 (by decide)]; exact e19) r
    rw [d3]
    exact (Int32.add_zero _).symm
  · have h1 := tIf_p (Classical.not_not.mp fun q => g1 (f_33_iff.mp q)) h1
    have h2 := tIf_n (fun q => g1 (f_109_iff.mp q)) h2
    rw [h1.1, h2.1]
