/-! woods: both count the same ways -/
def wI (n : Int32) : Nat → Int64 × Int64
  | 0 => (Int64.ofNat 0, Int64.ofNat 1)
  | i + 1 => ((wI n i).1 + (wI n i).2, ((wI n i).2 * Int32.toInt64 (n - kI i)) / Int32.toInt64 (kI i + kI 1))
theorem wI_rg : ∀ n, n < 61 → ∀ k, k < 10 → 0 ≤ (wI (kI (n : Nat)) (k + 1)).1.toInt ∧ (wI (kI (n : Nat)) (k + 1)).1.toInt ≤ 1000000000000 := by decide +kernel
theorem w_pow : ∀ n, n < 61 → ((Int64.ofNat 1) <<< (Int32.toInt64 (kI (n : Nat)) &&& 63)).toInt = (2 : Int) ^ n ∧ (((Int64.ofNat 1) <<< (Int32.toInt64 (kI (n : Nat)) &&& 63)) - (Int64.ofNat 1)).toInt = (2 : Int) ^ n - 1 ∧ (2 : Int) ^ n ≤ 1152921504606846976 ∧ (1 : Int) ≤ (2 : Int) ^ n := by decide +kernel
theorem lg_t (a b : Int64) : lg_cmp a b = if b.toInt < a.toInt then 1 else if a.toInt = b.toInt then 0 else -1 := by
  unfold lg_cmp
  simp only [gt_iff_lt, Int64.lt_iff_toInt_lt, ← Int64.toInt_inj]
theorem lg_0 {a b : Int64} : 0 ≤ lg_cmp a b ↔ b.toInt ≤ a.toInt := by
  rw [lg_t]
  by_cases h1 : b.toInt < a.toInt
  · rw [if_pos h1]
    exact ⟨fun _ => by omega, fun _ => by decide⟩
  · rw [if_neg h1]
    by_cases h2 : a.toInt = b.toInt
    · rw [if_pos h2]
      exact ⟨fun _ => by omega, fun _ => by decide⟩
    · rw [if_neg h2]
      exact ⟨fun q => absurd q (by decide), fun q => absurd q (by omega)⟩
theorem lg_1 {a b : Int64} : 0 < lg_cmp a b ↔ b.toInt < a.toInt := by
  rw [lg_t]
  by_cases h1 : b.toInt < a.toInt
  · rw [if_pos h1]
    exact ⟨fun _ => h1, fun _ => by decide⟩
  · rw [if_neg h1]
    by_cases h2 : a.toInt = b.toInt
    · rw [if_pos h2]
      exact ⟨fun q => absurd q (by decide), fun q => absurd q h1⟩
    · rw [if_neg h2]
      exact ⟨fun q => absurd q (by decide), fun q => absurd q h1⟩
/-- the same sign to stop -/
theorem w_stop {n k : Nat} (hn : n < 61) (hk : k < 10) {m : Int32} (h1 : 2 ≤ m.toInt) (h2 : m.toInt ≤ 100000) :
    (0 ≤ lg_cmp ((wI (kI (n : Nat)) (k + 1)).1 * Int32.toInt64 m) ((Int64.ofNat 1) <<< (Int32.toInt64 (kI (n : Nat)) &&& 63))) ↔ 0 < lg_cmp (wI (kI (n : Nat)) (k + 1)).1 ((((Int64.ofNat 1) <<< (Int32.toInt64 (kI (n : Nat)) &&& 63)) - (Int64.ofNat 1)) / Int32.toInt64 m) := by
  obtain ⟨c1, c2⟩ := wI_rg n hn k hk
  obtain ⟨p1, p2, p3, p4⟩ := w_pow n hn
  rw [lg_0, lg_1, Int64.toInt_mul, Int64.toInt_div, p1, p2, Int32.toInt_toInt64]
  generalize (wI (kI (n : Nat)) (k + 1)).1.toInt = c at *
  generalize (2 : Int) ^ n = P at *
  generalize m.toInt = d at *
  have d0 : 0 < d := by omega
  have cm1 : 0 ≤ c * d := Int.mul_nonneg c1 (by omega)
  have cm2 : c * d ≤ 1000000000000 * 100000 := Int.mul_le_mul c2 h2 (by omega) (by decide)
  have q1 : 0 ≤ (P - 1) / d := Int.ediv_nonneg (by omega) (by omega)
  have q2 : (P - 1) / d ≤ P - 1 := Int.ediv_le_self _ (by omega)
  have e1 : (c * d).bmod (2 ^ 64) = c * d := Int.bmod_eq_of_le (by omega) (by omega)
  have e2 : (P - 1).tdiv d = (P - 1) / d := Int.tdiv_eq_ediv_of_nonneg (by omega)
  have e3 : ((P - 1) / d).bmod (2 ^ 64) = (P - 1) / d := Int.bmod_eq_of_le (by omega) (by omega)
  rw [e1, e2, e3, Int.ediv_lt_iff_lt_mul d0]
  omega
theorem D_40_w {n k : Nat} (hn : n < 61) (hk : k < 10) {p0 p1 : Int32} (h0 : p0 = kI n) (h1 : p1 = kI k) {M : pMem} {v : Int64} {N : pMem} (h : D_40 p0 p1 M v N) : v = (wI (kI n) (k + 1)).1 ∧ N = M := by
  refine h (fun a c x M' v N => M' = M → ∀ i : Nat, x = kI i → i ≤ k + 1 → (a, c) = wI (kI n) i → v = (wI (kI n) (k + 1)).1 ∧ N = M) ?_ rfl 0 rfl (by omega) rfl
  intro a c x M' v N hs hM i hx hi hac
  have xt : x.toInt = i := by rw [hx, kI_toInt (by omega) (by omega)]
  have kt : p1.toInt = k := by rw [h1, kI_toInt (by omega) (by omega)]
  have ea : a = (wI (kI n) i).1 := congrArg Prod.fst hac
  have ec : c = (wI (kI n) i).2 := congrArg Prod.snd hac
  rcases hs with ⟨g, hv, hN⟩ | ⟨g, _, hs⟩
  · rw [i_lt, xt, kt] at g
    rw [hv, hN, ea, show i = k + 1 by omega]
    exact ⟨rfl, hM⟩
  · rw [i_lt, xt, kt] at g
    refine hs hM (i + 1) ?_ (by omega) ?_
    · exact kI_inj (by rw [i_add1 (by omega), xt]; omega)
    · rw [h0, hx, ea, ec]
      rfl
theorem op_woods {p1 p2 v u : Int32} {M M1 M2 : pMem} (h : rA M) (h1 : D_27 p1 p2 M v M1) (h2 : D_131 p1 p2 M1 u M2) : v = u ∧ rA M2 := by
  refine ⟨?_, op_frame h (F_27 h1) (F_131 h2) (by decide +kernel) (by decide +kernel)⟩
  obtain ⟨Ma, _, h2⟩ := h2
  have q1 : ¬ f_42 p1 (kI 0) (kI 9) = 0 ↔ 0 ≤ p1.toInt ∧ p1.toInt ≤ 9 := by rw [f_42_iff, i_le, i_le, kI0, kI_toInt (by decide) (by decide)]
  have q2 : ¬ f_42 p2 (kI 2) (kI 100000) = 0 ↔ 2 ≤ p2.toInt ∧ p2.toInt ≤ 100000 := by rw [f_42_iff, i_le, i_le, kI_toInt (by decide) (by decide), kI_toInt (by decide) (by decide)]
  have a1 : p1 < 0 ↔ p1.toInt < 0 := by rw [i_lt, i_0]
  have a2 : kI 9 < p1 ↔ 9 < p1.toInt := by rw [i_lt, kI_toInt (by decide) (by decide)]
  have a3 : p2 < kI 2 ↔ p2.toInt < 2 := by rw [i_lt, kI_toInt (by decide) (by decide)]
  have a4 : p2 ≤ kI 100000 ↔ p2.toInt ≤ 100000 := by rw [i_le, kI_toInt (by decide) (by decide)]
  by_cases c : (0 ≤ p1.toInt ∧ p1.toInt ≤ 9) ∧ 2 ≤ p2.toInt ∧ p2.toInt ≤ 100000
  · obtain ⟨c1, c2⟩ := c
    have h1 := tIf_n (fun q => by have := a1.mp q; omega) h1
    have h1 := tIf_n (fun q => by have := a2.mp q; omega) h1
    have h1 := tIf_n (fun q => by have := a3.mp q; omega) h1
    have h1 := tIf_p (a4.mpr c2.2) h1
    have h2 := tIf_n (q1.mpr c1) h2
    have h2 := tIf_p (q2.mpr c2) h2
    obtain ⟨k, hk⟩ : ∃ k : Nat, p1.toInt = k := ⟨p1.toInt.toNat, by omega⟩
    have ek : p1 = kI k := kI_inj hk
    -- where it stops, of those from n on
    have A : ∀ {x : Int32} {M : pMem} {v : Int32} {N : pMem}, L_27_6 p1 p2 x M v N → ∀ n : Nat, x = kI n → 1 ≤ n → n ≤ 61 → (v = kI (-1) ∧ ∀ i : Nat, n ≤ i → i < 61 → 0 ≤ lg_cmp ((wI (kI i) (k + 1)).1 * Int32.toInt64 p2) ((Int64.ofNat 1) <<< (Int32.toInt64 (kI i) &&& 63))) ∨
        ∃ j : Nat, n ≤ j ∧ j < 61 ∧ v = kI j ∧ (¬ 0 ≤ lg_cmp ((wI (kI j) (k + 1)).1 * Int32.toInt64 p2) ((Int64.ofNat 1) <<< (Int32.toInt64 (kI j) &&& 63))) ∧ ∀ i : Nat, n ≤ i → i < j → 0 ≤ lg_cmp ((wI (kI i) (k + 1)).1 * Int32.toInt64 p2) ((Int64.ofNat 1) <<< (Int32.toInt64 (kI i) &&& 63)) := by
      intro x M v N h
      refine h (fun x M v N => ∀ n : Nat, x = kI n → 1 ≤ n → n ≤ 61 → (v = kI (-1) ∧ ∀ i : Nat, n ≤ i → i < 61 → 0 ≤ lg_cmp ((wI (kI i) (k + 1)).1 * Int32.toInt64 p2) ((Int64.ofNat 1) <<< (Int32.toInt64 (kI i) &&& 63))) ∨
        ∃ j : Nat, n ≤ j ∧ j < 61 ∧ v = kI j ∧ (¬ 0 ≤ lg_cmp ((wI (kI j) (k + 1)).1 * Int32.toInt64 p2) ((Int64.ofNat 1) <<< (Int32.toInt64 (kI j) &&& 63))) ∧ ∀ i : Nat, n ≤ i → i < j → 0 ≤ lg_cmp ((wI (kI i) (k + 1)).1 * Int32.toInt64 p2) ((Int64.ofNat 1) <<< (Int32.toInt64 (kI i) &&& 63))) ?_
      intro x M v N hs n hx h1 h2
      have xt : x.toInt = n := by rw [hx, kI_toInt (by omega) (by omega)]
      rcases hs with ⟨g, hv, _⟩ | ⟨g, v1, M1, h40, hs⟩
      · rw [i_lt, xt, kI_toInt (by decide) (by decide)] at g
        exact Or.inl ⟨hv, fun i hi hi2 => absurd hi2 (by omega)⟩
      · rw [i_lt, xt, kI_toInt (by decide) (by decide)] at g
        obtain ⟨ev, _⟩ := D_40_w (n := n) (k := k) (by omega) (by omega) hx ek h40
        rw [ev, hx] at hs
        rcases hs with ⟨g2, hs⟩ | ⟨g2, hv, _⟩
        · rcases hs (n + 1) (kI_inj (by rw [← hx, i_add1 (by omega), xt]; omega)) (by omega) (by omega) with ⟨e1, e2⟩ | ⟨j, j1, j2, j3, j4, j5⟩
          · refine Or.inl ⟨e1, fun i hi hi2 => ?_⟩
            by_cases e : i = n
            · rw [e]; exact g2
            · exact e2 i (by omega) hi2
          · refine Or.inr ⟨j, by omega, j2, j3, j4, fun i hi hi2 => ?_⟩
            by_cases e : i = n
            · rw [e]; exact g2
            · exact j5 i (by omega) hi2
        · exact Or.inr ⟨n, Nat.le_refl _, by omega, hv, g2, fun i hi hi2 => absurd hi2 (by omega)⟩
    have B : ∀ {x : Int32} {M : pMem} {v : Int32} {N : pMem}, L_131_4 p1 p2 x M v N → ∀ n : Nat, x = kI n → 1 ≤ n → n ≤ 61 → (v = kI (-1) ∧ ∀ i : Nat, n ≤ i → i < 61 → 0 ≤ lg_cmp ((wI (kI i) (k + 1)).1 * Int32.toInt64 p2) ((Int64.ofNat 1) <<< (Int32.toInt64 (kI i) &&& 63))) ∨
        ∃ j : Nat, n ≤ j ∧ j < 61 ∧ v = kI j ∧ (¬ 0 ≤ lg_cmp ((wI (kI j) (k + 1)).1 * Int32.toInt64 p2) ((Int64.ofNat 1) <<< (Int32.toInt64 (kI j) &&& 63))) ∧ ∀ i : Nat, n ≤ i → i < j → 0 ≤ lg_cmp ((wI (kI i) (k + 1)).1 * Int32.toInt64 p2) ((Int64.ofNat 1) <<< (Int32.toInt64 (kI i) &&& 63)) := by
      intro x M v N h
      refine h (fun x M v N => ∀ n : Nat, x = kI n → 1 ≤ n → n ≤ 61 → (v = kI (-1) ∧ ∀ i : Nat, n ≤ i → i < 61 → 0 ≤ lg_cmp ((wI (kI i) (k + 1)).1 * Int32.toInt64 p2) ((Int64.ofNat 1) <<< (Int32.toInt64 (kI i) &&& 63))) ∨
        ∃ j : Nat, n ≤ j ∧ j < 61 ∧ v = kI j ∧ (¬ 0 ≤ lg_cmp ((wI (kI j) (k + 1)).1 * Int32.toInt64 p2) ((Int64.ofNat 1) <<< (Int32.toInt64 (kI j) &&& 63))) ∧ ∀ i : Nat, n ≤ i → i < j → 0 ≤ lg_cmp ((wI (kI i) (k + 1)).1 * Int32.toInt64 p2) ((Int64.ofNat 1) <<< (Int32.toInt64 (kI i) &&& 63)),
        fun x a c y M v N => ∀ n i : Nat, x = kI n → 1 ≤ n → n < 61 → y = kI i → i ≤ k + 1 → (a, c) = wI (kI n) i → (v = kI (-1) ∧ ∀ i : Nat, n ≤ i → i < 61 → 0 ≤ lg_cmp ((wI (kI i) (k + 1)).1 * Int32.toInt64 p2) ((Int64.ofNat 1) <<< (Int32.toInt64 (kI i) &&& 63))) ∨
        ∃ j : Nat, n ≤ j ∧ j < 61 ∧ v = kI j ∧ (¬ 0 ≤ lg_cmp ((wI (kI j) (k + 1)).1 * Int32.toInt64 p2) ((Int64.ofNat 1) <<< (Int32.toInt64 (kI j) &&& 63))) ∧ ∀ i : Nat, n ≤ i → i < j → 0 ≤ lg_cmp ((wI (kI i) (k + 1)).1 * Int32.toInt64 p2) ((Int64.ofNat 1) <<< (Int32.toInt64 (kI i) &&& 63))) ⟨?_, ?_⟩
      · intro x M v N hs n hx h1 h2
        have xt : x.toInt = n := by rw [hx, kI_toInt (by omega) (by omega)]
        rcases hs with ⟨g, hv, _⟩ | ⟨g, hs⟩
        · rw [i_lt, xt, kI_toInt (by decide) (by decide)] at g
          exact Or.inl ⟨hv, fun i hi hi2 => absurd hi2 (by omega)⟩
        · rw [i_lt, xt, kI_toInt (by decide) (by decide)] at g
          exact hs n 0 hx h1 (by omega) rfl (by omega) rfl
      · intro x a c' y M v N hs n i hx h1 h2 hy hi hac
        have xt : x.toInt = n := by rw [hx, kI_toInt (by omega) (by omega)]
        have yt : y.toInt = i := by rw [hy, kI_toInt (by omega) (by omega)]
        have ea : a = (wI (kI n) i).1 := congrArg Prod.fst hac
        have ec : c' = (wI (kI n) i).2 := congrArg Prod.snd hac
        rcases hs with ⟨g, _, hs⟩ | ⟨g, _, hs⟩
        · rw [i_lt, yt, hk] at g
          have eik : i = k + 1 := by omega
          rw [ea, eik, hx] at hs
          have st := w_stop (n := n) (k := k) h2 (by omega) c2.1 c2.2
          rcases hs with ⟨g2, hs⟩ | ⟨g2, hv, _⟩
          · have g2 := st.mpr g2
            rcases hs (n + 1) (kI_inj (by rw [← hx, i_add1 (by omega), xt]; omega)) (by omega) (by omega) with ⟨e1, e2⟩ | ⟨j, j1, j2, j3, j4, j5⟩
            · refine Or.inl ⟨e1, fun i hi hi2 => ?_⟩
              by_cases e : i = n
              · rw [e]; exact g2
              · exact e2 i (by omega) hi2
            · refine Or.inr ⟨j, by omega, j2, j3, j4, fun i hi hi2 => ?_⟩
              by_cases e : i = n
              · rw [e]; exact g2
              · exact j5 i (by omega) hi2
          · exact Or.inr ⟨n, Nat.le_refl _, h2, hv, fun q => g2 (st.mp q), fun i hi hi2 => absurd hi2 (by omega)⟩
        · rw [i_lt, yt, hk] at g
          refine hs n (i + 1) hx h1 h2 (kI_inj (by rw [i_add1 (by omega), yt]; omega)) (by omega) ?_
          rw [hx, hy, ea, ec]
          rfl
    rcases A h1 1 rfl (by omega) (by omega) with ⟨a1, a2⟩ | ⟨j, j1, j2, j3, j4, j5⟩
    · rcases B h2 1 rfl (by omega) (by omega) with ⟨b1, b2⟩ | ⟨i, i1, i2, i3, i4, i5⟩
      · rw [a1, b1]
      · exact absurd (a2 i i1 i2) i4
    · rcases B h2 1 rfl (by omega) (by omega) with ⟨b1, b2⟩ | ⟨i, i1, i2, i3, i4, i5⟩
      · exact absurd (b2 j j1 j2) j4
      · have e : i = j := by
          apply Classical.byContradiction
          intro q
          by_cases l : i < j
          · exact i4 (j5 i i1 l)
          · exact j4 (i5 j j1 (by omega))
        rw [j3, i3, e]
  · have hv : v = kI (-1) := by
      rcases h1 with ⟨_, hv, _⟩ | ⟨g1, h1⟩
      · exact hv
      · rcases h1 with ⟨_, hv, _⟩ | ⟨g2, h1⟩
        · exact hv
        · rcases h1 with ⟨_, hv, _⟩ | ⟨g3, h1⟩
          · exact hv
          · rcases h1 with ⟨g4, _⟩ | ⟨_, hv, _⟩
            · rw [a1] at g1
              rw [a2] at g2
              rw [a3] at g3
              rw [a4] at g4
              exact absurd ⟨⟨by omega, by omega⟩, by omega, g4⟩ c
            · exact hv
    have hu : u = kI (-1) := by
      rcases h2 with ⟨_, hu, _⟩ | ⟨g1, h2⟩
      · exact hu
      · rcases h2 with ⟨g2, _⟩ | ⟨_, hu, _⟩
        · exact absurd ⟨q1.mp g1, q2.mp g2⟩ c
        · exact hu
    rw [hv, hu]
