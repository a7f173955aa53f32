/-! new cells; all instructions that end no block and call nothing -/
section ZAL
variable {X : aX} {P : zP} {G : aH → Prop} {pS : Nat} {h0 h h' : aH} {ρ0 ρ ρ' : Nat → Int} {n n' : Nat} {σ : zS} {K : zK} {E E' : List zE} {v : zV} {u : Value} {ls st : List zV} {lsC stC : List Value}
  {k : Nat → zS → zK → List zE → List zV → List zV → Bool} {C : List Value → List Value → aH → Prop}
theorem aNew_old {m sl b : Nat} {f : Nat → aK} (hb : b < h.1) : (aNew h m sl f).2.2.1 b = h.2.2.1 b ∧ (aNew h m sl f).2.2.2 b = h.2.2.2 b := by
  unfold aNew
  dsimp only
  refine ⟨if_neg (by omega), ?_⟩
  funext i
  exact if_neg (by omega)
theorem aNew_new {m sl b : Nat} {f : Nat → aK} (hb : h.1 ≤ b) : (aNew h m sl f).2.2.1 b = f b ∧ ∀ i, (aNew h m sl f).2.2.2 b i = 0 := by
  unfold aNew
  dsimp only
  exact ⟨if_pos hb, fun i => if_pos hb⟩
theorem zGa.alloc {m sl : Nat} {f : Nat → aK} {ov : List (Nat × zC)} (hV : zVal P) (al : P.al = true) (hg : zGa X P G pS h0 ρ0 ρ n σ K E h)
    (hK : ∀ s0, (zCe P (K.1 + m, K.2.1 + sl, ov) s0 = zCe P K s0) ∨ (h.1 ≤ s0 ∧ s0 < h.1 + m ∧ zGk P (aNew h m sl f) s0 (zCe P (K.1 + m, K.2.1 + sl, ov) s0)))
    (hE : ∀ e ∈ E', e ∈ E ∨ (zPl (aNew h m sl f) e.1 ∧ h.1 ≤ e.1 / 128 ∧ e.2.2.2 = zc 0 z0)) : zGa X P G pS h0 ρ0 ρ n σ (K.1 + m, K.2.1 + sl, ov) E' (aNew h m sl f) := by
  obtain ⟨g1, g2, g3, g4, g5, g6⟩ := hg
  refine ⟨g1, ⟨by show h.1 + m = K.1 + m; rw [g2.1], by show h.2.1 + sl = K.2.1 + sl; rw [g2.2.1], fun s0 b hc hlt => ?_⟩, fun e he => ?_, fun p i hp hi => ?_, fun q => (by rw [al] at q; cases q), g6⟩
  · have eb := zNoPs hV al hc
    rcases hK s0 with hs | ⟨h1, h2, hs⟩
    · rw [hs] at hlt ⊢
      obtain ⟨b1, b2, b3, b4, b5, b6⟩ := g2.2.2 s0 b hc hlt
      have e := (aNew_old (m := m) (sl := sl) (f := f) b1).1
      refine ⟨by show b < h.1 + m; omega, b2, ?_, ?_, ?_, ?_⟩
      · rw [e]; exact b3
      · rw [e]; exact b4
      · rw [e]; exact b5
      · rw [e]; exact b6
    · rw [eb]
      exact hs
  · rcases hE e he with h1 | ⟨h1, h2, h3⟩
    · have k0 := g3 e h1
      unfold zGe at k0 ⊢
      by_cases c1 : e.1 = 11520001
      · rw [if_pos c1] at k0 ⊢
        exact k0
      · rw [if_neg c1] at k0 ⊢
        by_cases c2 : e.1 = 11520002
        · rw [if_pos c2] at k0 ⊢
          exact k0
        · rw [if_neg c2] at k0 ⊢
          obtain ⟨⟨p1, p2, p3⟩, k1⟩ := k0
          have e2 := aNew_old (m := m) (sl := sl) (f := f) p1
          refine ⟨⟨by show e.1 / 128 < h.1 + m; omega, p2, by rw [e2.1]; exact p3⟩, fun i q1 q2 q3 => ?_⟩
          have e3 : zM (aNew h m sl f) e.1 i = zM h e.1 i := by
            unfold zM
            rw [e2.2]
          rw [e3]
          exact k1 i q1 q2 q3
    · refine (zGe_pl h1).mpr (fun i _ _ _ => ?_)
      have e3 : zM (aNew h m sl f) e.1 i = 0 := (aNew_new h2).2 _
      rw [e3, h3]
      exact znC rfl
  · have := (hV.2.2.2.2.1 al).2 p
    have r := zI32_rg (zM (aNew h m sl f) p i)
    exact ⟨by omega, by omega⟩
theorem zLk_new {a b : Nat} {c d : zC} {ov : List (Nat × zC)} : zLk ((a, c) :: ov) b d = if a = b then c else zLk ov b d := by
  show (bif Nat.beq a b then c else zLk ov b d) = _
  by_cases e : a = b
  · rw [if_pos e, e, Nat.beq_refl]
    rfl
  · rw [if_neg e]
    have : Nat.beq a b = false := by
      cases hb : Nat.beq a b
      · rfl
      · exact absurd (zbe hb) e
    rw [this]
    rfl
theorem zAt_rep {m j : Nat} : zAt (List.replicate m 99999) j = 99999 := by
  induction m generalizing j with
  | zero => rfl
  | succ m ih =>
    cases j with
    | zero => rfl
    | succ j => exact ih
theorem zMay_s (hg : zGa X P G pS h0 ρ0 ρ n σ K E h) (hl : zGl P ρ n ls lsC) (hs : zGl P ρ n st stC) (hh : zMay P K ls st = true) : P.al = true ∧ h.1 < 690 ∧ ((lsC ++ stC).all (aOkv h.1) && decide (h.1 < 80000)) = true := by
  unfold zMay at hh
  obtain ⟨c1, c2⟩ := zAnd hh
  obtain ⟨c2, c3⟩ := zAnd c2
  obtain ⟨c3, c4⟩ := zAnd c3
  have c2 := zbt c2
  rw [← hg.2.1.1] at c2 c3 c4
  refine ⟨c1, c2, ?_⟩
  rw [List.all_append, zAll_s (by omega) hl c3, zAll_s (by omega) hs c4, decide_eq_true (show h.1 < 80000 by omega)]
  rfl
theorem zZero_m {a m : Nat} {e : zE} (he : e ∈ zZero a m E) : e ∈ E ∨ ∃ f, f < m ∧ e = (a * 128 + f, 0, 1, zc 0 z0) := by
  induction m with
  | zero => exact Or.inl he
  | succ m ih =>
    unfold zZero at he
    rcases List.mem_cons.mp he with rfl | he
    · exact Or.inr ⟨m, Nat.lt_succ_self m, rfl⟩
    · rcases ih he with h1 | ⟨f, h1, h2⟩
      · exact Or.inl h1
      · exact Or.inr ⟨f, by omega, h2⟩
theorem zS_new {c : Nat} (hV : zVal P) (hc : c < 100) (hk : zNew P c n σ K E ls st k = true) (hg : zGa X P G pS h0 ρ0 ρ n σ K E h) (hl : zGl P ρ n ls lsC) (hs : zGl P ρ n st stC)
    (hC : ((lsC ++ stC).all (aOkv h.1) && decide (h.1 < 80000)) = true → C lsC (.ref h.1 :: stC) (aNew h 1 (aNF c) (fun _ => (c, 0, fun _ => none)))) : zNext X P G pS h0 ρ0 ρ n h k C := by
  unfold zNew at hk
  rcases zCd hk with ⟨c1, hk⟩ | ⟨-, hk⟩
  · obtain ⟨c1, c2⟩ := zAnd c1
    have c2 := zbl c2
    obtain ⟨al, hlt, hall⟩ := zMay_s hg hl hs c1
    have e1 : h.1 = K.1 := hg.2.1.1
    refine zNy2 (stC := .ref h.1 :: stC) hk (zGa.alloc (f := fun _ => (c, 0, fun _ => none)) hV al hg (fun s0 => ?_) (fun e he => ?_)) hl ⟨zGr (Or.inl ⟨by omega, e1⟩), hs⟩ (Nat.le_add_right _ _) (hC hall)
    · unfold zCe
      rw [show ((K.1 + 1, K.2.1 + aNF c, (K.1, c, 0, List.replicate (aNF c) 99999, 0) :: K.2.2) : zK).2.2 = (K.1, c, 0, List.replicate (aNF c) 99999, 0) :: K.2.2 from rfl, zLk_new]
      by_cases e : K.1 = s0
      · rw [if_pos e]
        have kn := (aNew_new (h := h) (m := 1) (sl := aNF c) (b := s0) (f := fun _ => (c, 0, fun _ => none)) (by omega)).1
        refine Or.inr ⟨by omega, by omega, by show s0 < h.1 + 1; omega, by omega, by rw [kn], fun _ => by rw [kn], fun j hj => ?_, fun q => absurd q (by show ¬ 700 ≤ 0; omega)⟩
        have hj : zAt (List.replicate (aNF c) 99999) j < 99999 := hj
        rw [zAt_rep] at hj
        omega
      · rw [if_neg e]
        exact Or.inl rfl
    · rcases zZero_m he with h1 | ⟨f, h1, rfl⟩
      · exact Or.inl h1
      · refine Or.inr ⟨?_, by show h.1 ≤ (K.1 * 128 + f) / 128; omega, rfl⟩
        have kn := (aNew_new (h := h) (m := 1) (sl := aNF c) (b := K.1) (f := fun _ => (c, 0, fun _ => none)) (by omega)).1
        exact zPlf (by omega) (by show K.1 < h.1 + 1; omega) (by omega) (by rw [kn]; exact hc)
  · cases hk
theorem zLen_s {kk : Nat → Bool} (hs : zSok ρ n σ) (hu : zG P ρ n v u) (h : zLen σ v kk = true) : ∃ x : Int32, u = .int x ∧ aInR x 100001 = true ∧ kk x.toNatClampNeg = true := by
  unfold zLen at h
  obtain ⟨x, rfl, hx⟩ := zG_rgi hu h
  obtain ⟨lo, hi, h1, h2, h⟩ := zRg_s hs hx h
  rcases zCd h with ⟨c, h⟩ | ⟨-, h⟩
  · obtain ⟨c1, c2⟩ := zAnd c
    obtain ⟨c2, c3⟩ := zAnd c2
    have c1 := ze c1
    have c2 := zl c2
    have c3 := zl c3
    rw [z0_eq] at c2
    have e : Int.ofNat 100000 = 100000 := rfl
    rw [e] at c3
    refine ⟨x, rfl, decide_eq_true ⟨by omega, by omega⟩, ?_⟩
    have : lo.toNat = x.toNatClampNeg := by
      show lo.toNat = x.toInt.toNat
      omega
    rwa [this] at h
  · cases h
theorem zS_newA {kd : Nat} (hV : zVal P) (hkd : 100 ≤ kd) (hk : zNewA P kd n σ K E ls st k = true) (hg : zGa X P G pS h0 ρ0 ρ n σ K E h) (hl : zGl P ρ n ls lsC) (hs : zGl P ρ n st stC)
    (hC : ∀ (x : Int32) q, stC = .int x :: q → ((lsC ++ stC).all (aOkv h.1) && decide (h.1 < 80000)) = true → aInR x 100001 = true → C lsC (.ref h.1 :: q) (aNew h 1 x.toNatClampNeg (fun _ => (kd, x.toNatClampNeg, fun _ => none)))) : zNext X P G pS h0 ρ0 ρ n h k C := by
  match st, hk, hs with
  | [], hk, _ => cases hk
  | v :: t, hk, hs =>
    obtain ⟨u, q, rfl, h1, hs1⟩ := zGl_cons hs
    have hk : (bif zMay P K ls (v :: t) then zLen σ v (zNewV kd n σ K E ls t k) else false) = true := hk
    rcases zCd hk with ⟨c1, hk⟩ | ⟨-, hk⟩
    · obtain ⟨al, hlt, hall⟩ := zMay_s hg hl hs c1
      obtain ⟨x, rfl, x1, hk⟩ := zLen_s hg.1 h1 hk
      unfold zNewV at hk
      have e1 : h.1 = K.1 := hg.2.1.1
      refine zNy2 (stC := .ref h.1 :: q) hk (zGa.alloc (f := fun _ => (kd, x.toNatClampNeg, fun _ => none)) hV al hg (fun s0 => ?_) (fun e he => ?_)) hl ⟨zGr (Or.inl ⟨by omega, e1⟩), hs1⟩ (Nat.le_add_right _ _) (hC x q rfl hall x1)
      · unfold zCe
        dsimp only
        rw [zLk_new]
        by_cases e : K.1 = s0
        · rw [if_pos e]
          have kn := (aNew_new (h := h) (m := 1) (sl := x.toNatClampNeg) (b := s0) (f := fun _ => (kd, x.toNatClampNeg, fun _ => none)) (by omega)).1
          refine Or.inr ⟨by omega, by omega, by show s0 < h.1 + 1; omega, by omega, by rw [kn], fun _ => by rw [kn], fun j hj => ?_, fun q => absurd q (by show ¬ 700 ≤ 0; omega)⟩
          have hj : zAt (List.replicate (bif Nat.ble 102 kd then x.toNatClampNeg else 0) 99999) j < 99999 := hj
          rw [zAt_rep] at hj
          omega
        · rw [if_neg e]
          exact Or.inl rfl
      · rcases List.mem_cons.mp he with rfl | he
        · refine Or.inr ⟨?_, by show h.1 ≤ (K.1 * 128 + 127) / 128; omega, rfl⟩
          have kn := (aNew_new (h := h) (m := 1) (sl := x.toNatClampNeg) (b := K.1) (f := fun _ => (kd, x.toNatClampNeg, fun _ => none)) (by omega)).1
          exact zPla (by show K.1 < h.1 + 1; omega) (by omega) (by rw [kn]; exact hkd)
        · exact Or.inl he
    · cases hk
theorem zSeq_at {i m j : Nat} : zAt (zSeq i m) j = if j < m then i + j else 99999 := by
  induction m generalizing i j with
  | zero =>
    rw [if_neg (by omega)]
    rfl
  | succ m ih =>
    cases j with
    | zero =>
      rw [if_pos (by omega)]
      rfl
    | succ j =>
      show zAt (zSeq (i + 1) m) j = _
      rw [ih]
      by_cases q : j < m
      · rw [if_pos q, if_pos (by omega)]
        omega
      · rw [if_neg q, if_neg (by omega)]
theorem zRows_at {N0 y x b : Nat} {ov : List (Nat × zC)} {d : zC} : zLk (zRows N0 y x ov) b d = if N0 + 1 ≤ b ∧ b < N0 + 1 + x then (100, y, [], 0) else zLk ov b d := by
  induction x with
  | zero =>
    rw [if_neg (by omega)]
    rfl
  | succ x ih =>
    show zLk ((N0 + 1 + x, 100, y, [], 0) :: zRows N0 y x ov) b d = _
    rw [zLk_new, ih]
    by_cases q : N0 + 1 + x = b
    · rw [if_pos q, if_pos (by omega)]
    · rw [if_neg q]
      by_cases q2 : N0 + 1 ≤ b ∧ b < N0 + 1 + x
      · rw [if_pos q2, if_pos (by omega)]
      · rw [if_neg q2, if_neg (by omega)]
theorem zRowE_m {N0 y x : Nat} {e : zE} (he : e ∈ zRowE N0 y x E) : e ∈ E ∨ ∃ j, j < x ∧ e = ((N0 + 1 + j) * 128 + 127, 0, y, zc 0 z0) := by
  induction x with
  | zero => exact Or.inl he
  | succ x ih =>
    unfold zRowE at he
    rcases List.mem_cons.mp he with rfl | he
    · exact Or.inr ⟨x, Nat.lt_succ_self x, rfl⟩
    · rcases ih he with h1 | ⟨j, h1, h2⟩
      · exact Or.inl h1
      · exact Or.inr ⟨j, by omega, h2⟩
theorem zS_newM (hV : zVal P) (hk : zNewM P n σ K E ls st k = true) (hg : zGa X P G pS h0 ρ0 ρ n σ K E h) (hl : zGl P ρ n ls lsC) (hs : zGl P ρ n st stC)
    (hC : ∀ (y x : Int32) q, stC = .int y :: .int x :: q → ((lsC ++ stC).all (aOkv h.1) && decide (h.1 < 80000)) = true → (aInR x 1001 && aInR y 100001) = true → C lsC (.ref h.1 :: q) (aNew h (1 + x.toNatClampNeg) (x.toNatClampNeg + x.toNatClampNeg * y.toNatClampNeg)
        (fun b => if b = h.1 then (105, x.toNatClampNeg, fun j => if j < x.toNatClampNeg then some (h.1 + 1 + j) else none) else (100, y.toNatClampNeg, fun _ => none)))) : zNext X P G pS h0 ρ0 ρ n h k C := by
  match st, hk, hs with
  | [], hk, _ => cases hk
  | [_], hk, _ => cases hk
  | v :: w :: t, hk, hs =>
    obtain ⟨u, q0, rfl, h1, hs0⟩ := zGl_cons hs
    obtain ⟨u2, q, rfl, h2, hs1⟩ := zGl_cons hs0
    have hk : (bif zMay P K ls (v :: w :: t) then zLen σ v fun y => zLen σ w (zNewW n σ K E ls t k y) else false) = true := hk
    rcases zCd hk with ⟨c1, hk⟩ | ⟨-, hk⟩
    · obtain ⟨al, hlt, hall⟩ := zMay_s hg hl hs c1
      obtain ⟨y, rfl, y1, hk⟩ := zLen_s hg.1 h1 hk
      obtain ⟨x, rfl, x1, hk⟩ := zLen_s hg.1 h2 hk
      unfold zNewW at hk
      rcases zCd hk with ⟨c2, hk⟩ | ⟨-, hk⟩
      · have c2 := zbl c2
        have e1 : h.1 = K.1 := hg.2.1.1
        have xr : aInR x 1001 = true := by
          have h9 := of_decide_eq_true x1
          refine decide_eq_true ⟨h9.1, ?_⟩
          have : x.toInt.toNat ≤ 690 := by
            have : x.toInt.toNat = x.toNatClampNeg := rfl
            omega
          omega
        have kn := fun b hb => (aNew_new (h := h) (m := 1 + x.toNatClampNeg) (sl := x.toNatClampNeg + x.toNatClampNeg * y.toNatClampNeg) (b := b) (f := fun b => if b = h.1 then (105, x.toNatClampNeg, fun j => if j < x.toNatClampNeg then some (h.1 + 1 + j) else none) else (100, y.toNatClampNeg, fun _ => none)) hb).1
        refine zNy2 (stC := .ref h.1 :: q) hk (zGa.alloc (f := fun b => if b = h.1 then (105, x.toNatClampNeg, fun j => if j < x.toNatClampNeg then some (h.1 + 1 + j) else none) else (100, y.toNatClampNeg, fun _ => none)) hV al hg (fun s0 => ?_) (fun e he => ?_)) hl ⟨zGr (Or.inl ⟨by omega, e1⟩), hs1⟩ (Nat.le_add_right _ _) (hC y x q rfl hall (by rw [xr, y1]; rfl))
        · unfold zCe
          dsimp only
          rw [zLk_new]
          by_cases e : K.1 = s0
          · rw [if_pos e]
            have kb := kn s0 (by omega)
            rw [if_pos (by omega)] at kb
            refine Or.inr ⟨by omega, by omega, by show s0 < h.1 + (1 + x.toNatClampNeg); omega, by omega, by rw [kb], fun _ => by rw [kb], fun j hj => ?_, fun q => absurd q (by show ¬ 700 ≤ 0; omega)⟩
            have hj : zAt (zSeq (K.1 + 1) x.toNatClampNeg) j < 99999 := hj
            rw [zSeq_at] at hj
            by_cases q : j < x.toNatClampNeg
            · refine ⟨h.1 + 1 + j, by rw [kb]; exact if_pos q, Or.inl ⟨?_, ?_⟩⟩
              · show zAt (zSeq (K.1 + 1) x.toNatClampNeg) j < 700
                rw [zSeq_at, if_pos q]
                omega
              · show h.1 + 1 + j = zAt (zSeq (K.1 + 1) x.toNatClampNeg) j
                rw [zSeq_at, if_pos q]
                omega
            · rw [if_neg q] at hj
              omega
          · rw [if_neg e, zRows_at]
            by_cases q : K.1 + 1 ≤ s0 ∧ s0 < K.1 + 1 + x.toNatClampNeg
            · rw [if_pos q]
              have kb := kn s0 (by omega)
              rw [if_neg (by omega)] at kb
              refine Or.inr ⟨by omega, by omega, by show s0 < h.1 + (1 + x.toNatClampNeg); omega, by omega, by rw [kb], fun _ => by rw [kb], fun j hj => ?_, fun q => absurd q (by show ¬ 700 ≤ 0; omega)⟩
              have hj : zAt [] j < 99999 := hj
              have : zAt [] j = 99999 := rfl
              omega
            · rw [if_neg q]
              exact Or.inl rfl
        · rcases zRowE_m he with h1 | ⟨j, h1, rfl⟩
          · exact Or.inl h1
          · refine Or.inr ⟨?_, by show h.1 ≤ ((K.1 + 1 + j) * 128 + 127) / 128; omega, rfl⟩
            have kb := kn (K.1 + 1 + j) (by omega)
            rw [if_neg (by omega)] at kb
            exact zPla (by show K.1 + 1 + j < h.1 + (1 + x.toNatClampNeg); omega) (by omega) (by rw [kb]; show 100 ≤ 100; omega)
      · cases hk
    · cases hk
end ZAL
