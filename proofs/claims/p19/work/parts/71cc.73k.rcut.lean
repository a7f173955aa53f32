/-! cut: the reference's ways -/
theorem i_dn {x : Int32} {n : Int} (h : x.toInt = n) (h0 : 0 ≤ n) : (x + kI (-1)).toInt = n - 1 := by
  have r := i_rg x
  have k : (kI (-1)).toInt = -1 := kI_toInt (by decide) (by decide)
  rw [i_add (by rw [k]; omega) (by rw [k]; omega), k, h]
  omega
def xnV (V : pMem) (i : Nat) : Nat := (V 193 i).toInt.toNat
def okN (V : pMem) : Prop := ∀ i, i < 24 → 0 ≤ (V 193 i).toInt ∧ (V 193 i).toInt ≤ 99
theorem xnV_i {V : pMem} (h : okN V) {i : Nat} (hi : i < 24) : (V 193 i).toInt = (xnV V i : Nat) ∧ xnV V i ≤ 99 := by
  have q := h i hi
  unfold xnV
  omega
theorem ix_2380 {x y : Int32} {q s : Nat} (hx : x.toInt = q) (hy : y.toInt = s) (hq : q ≤ 25) (hs : s < 2380) : (kI 2380 * x + y).toInt = ((2380 * q + s : Nat) : Int) := by
  have k : (kI 2380).toInt = 2380 := kI_toInt (by decide) (by decide)
  have m : (kI 2380 * x).toInt = 2380 * q := by rw [i_mul (by rw [k, hx]; omega) (by rw [k, hx]; omega), k, hx]
  rw [i_add (by rw [m, hy]; omega) (by rw [m, hy]; omega), m, hy]
  omega
theorem i_dq {x : Int32} {q : Nat} (h : x.toInt = ((q + 1 : Nat) : Int)) : (x + kI (-1)).toInt = q := by
  rw [i_dn h (by omega)]
  omega
theorem i_mq {x : Int32} {q : Nat} (h : x.toInt = ((q + 1 : Nat) : Int)) (hq : q ≤ 100000) : (x - kI 1).toInt = q := by
  rw [i_sub (by rw [h, kI1]; omega) (by rw [h, kI1]; omega), h, kI1]
  omega
theorem i_dr {x : Int32} {r : Nat} (h : x.toInt = ((r + 1 : Nat) : Int) - 1) : x.toInt = (r : Nat) := by
  rw [h]
  omega
theorem ix_sub {x y : Int32} {a b : Nat} (hx : x.toInt = a) (hy : y.toInt = b) (h : b ≤ a) (ha : a ≤ 1000000) : ix (x - y) = a - b := by
  refine ix_of ?_
  rw [i_sub (by rw [hx, hy]; omega) (by rw [hx, hy]; omega), hx, hy]
  omega
theorem ix_a {x y : Int32} {q s : Nat} (hx : x.toInt = q) (hy : y.toInt = s) (hq : q ≤ 25) (hs : s < 2380) : ix (kI 2380 * x + y) = 2380 * q + s := ix_of (ix_2380 hx hy hq hs)
theorem ix_b {x y z : Int32} {q s X : Nat} (hx : x.toInt = ((q + 1 : Nat) : Int)) (hy : y.toInt = s) (hz : z.toInt = X) (hX : X ≤ s) (hq : q ≤ 25) (hs : s < 2380) : ix (kI 2380 * (x - kI 1) + y - z) = 2380 * q + (s - X) := by
  rw [ix_sub (ix_2380 (i_mq hx (by omega)) hy hq hs) hz (by omega) (by omega)]
  omega
section RC
variable (V : pMem)
def wwV (W : Nat → Int32) (i : Nat) : Prop := ∀ c s, c ≤ 24 → s < 2380 → W (2380 * c + s) = kI (wyB (thV V) (xnV V) i c s : Nat)
def wX (W : Nat → Int32) (i q : Nat) : Prop := ∀ c s, c ≤ 24 → s < 2380 → W (2380 * c + s) = kI (wyB (thV V) (xnV V) (if q < c then i + 1 else i) c s : Nat)
def wY (W : Nat → Int32) (i q r : Nat) : Prop := ∀ c s, c ≤ 24 → s < 2380 → W (2380 * c + s) = kI (wyB (thV V) (xnV V) (if q < c ∨ (c = q ∧ r ≤ s) then i + 1 else i) c s : Nat)
end RC
theorem wX_0 {V : pMem} {W : Nat → Int32} {i : Nat} (h : wwV V W i) : wX V W i (cN (thV V) i + 1) := fun c s hc hs => by
  rw [h c s hc hs]
  by_cases q : cN (thV V) i + 1 < c
  · have z1 : wyB (thV V) (xnV V) i c s = 0 := wy_0 (Or.inl (by omega))
    have z2 : wyB (thV V) (xnV V) (i + 1) c s = 0 := wy_0 (Or.inl (by rw [cN_s]; split <;> omega))
    rw [if_pos q, z1, z2]
  · rw [if_neg q]
theorem wX_z {V : pMem} {W : Nat → Int32} {i : Nat} (h : wX V W i 0) : wwV V W (i + 1) := fun c s hc hs => by
  rw [h c s hc hs]
  by_cases q : 0 < c
  · rw [if_pos q]
  · have e : wyB (thV V) (xnV V) (i + 1) c s = wyB (thV V) (xnV V) i c s := by
      rw [wy_s, if_neg (fun z => q z.2.1)]
      exact Nat.add_zero _
    rw [if_neg q, e]
theorem wY_0 {V : pMem} {W : Nat → Int32} {i q : Nat} (h : wX V W i q) : wY V W i q 2380 := fun c s hc hs => by
  rw [h c s hc hs]
  by_cases g : q < c
  · rw [if_pos g, if_pos (Or.inl g)]
  · rw [if_neg g, if_neg (fun z => by omega)]
theorem wY_z {V : pMem} {W : Nat → Int32} {i q r : Nat} (h : wY V W i (q + 1) r) (hr : r ≤ xnV V i) : wX V W i q := fun c s hc hs => by
  rw [h c s hc hs]
  by_cases g : q + 1 < c ∨ (c = q + 1 ∧ r ≤ s)
  · rw [if_pos g, if_pos (by omega)]
  · rw [if_neg g]
    by_cases g2 : q < c
    · have e : wyB (thV V) (xnV V) (i + 1) c s = wyB (thV V) (xnV V) i c s := by
        rw [wy_s, if_neg (fun z => by have := z.2.2; omega)]
        exact Nat.add_zero _
      rw [if_pos g2, e]
    · rw [if_neg g2]
theorem wY_s {V : pMem} {W W' : Nat → Int32} {i q s0 : Nat} (h : wY V W i (q + 1) (s0 + 1)) (t : thV V i = true) (hq : q + 1 ≤ 24) (hs0 : s0 < 2380) (hX : xnV V i ≤ s0) (e : ∀ j, W' j = if j = 2380 * (q + 1) + s0 then W (2380 * (q + 1) + s0) + W (2380 * q + (s0 - xnV V i)) else W j) : wY V W' i (q + 1) s0 := fun c s hc hs => by
  rw [e]
  by_cases g : 2380 * c + s = 2380 * (q + 1) + s0
  · have g1 : c = q + 1 := by omega
    have g2 : s = s0 := by omega
    have a := h (q + 1) s0 hq hs0
    have b := h q (s0 - xnV V i) (by omega) (by omega)
    rw [if_neg (by omega)] at a
    rw [if_neg (by omega)] at b
    have w : wyB (thV V) (xnV V) (i + 1) (q + 1) s0 = wyB (thV V) (xnV V) i (q + 1) s0 + wyB (thV V) (xnV V) i q (s0 - xnV V i) := by
      rw [wy_s, if_pos ⟨t, by omega, hX⟩]
      rfl
    rw [if_pos g, a, b, g1, g2, if_pos (by omega), w, kI_n1]
  · rw [if_neg g, h c s hc hs]
    by_cases g1 : q + 1 < c ∨ (c = q + 1 ∧ s0 + 1 ≤ s)
    · rw [if_pos g1, if_pos (by omega)]
    · rw [if_neg g1, if_neg (by omega)]
theorem wwV_no {V : pMem} {W : Nat → Int32} {i : Nat} (h : wwV V W i) (t : thV V i = false) : wwV V W (i + 1) := fun c s hc hs => by
  have e : wyB (thV V) (xnV V) (i + 1) c s = wyB (thV V) (xnV V) i c s := by
    rw [wy_s, if_neg (fun z => by rw [t] at z; cases z.1)]
    exact Nat.add_zero _
  rw [h c s hc hs, e]
theorem D_129_w {M : pMem} {n : Nat} (hn : rNb M n) (hk : okN M) {v : Unit} {N : pMem} (h : D_129 M v N) : wwV M (N 228) n ∧ ∀ b, b ≠ 228 → N b = M b := by
  obtain ⟨n24, hn2, _⟩ := hn
  refine h (fun x1 M' v N => ∀ k : Nat, x1.toInt = k → k ≤ 59500 → (∀ j, j < k → M' 228 j = 0) → (∀ b, b ≠ 228 → M' b = M b) → wwV M (N 228) n ∧ ∀ b, b ≠ 228 → N b = M b,
    fun x1 x2 M' v N => ∀ i : Nat, x2.toInt = i → i ≤ n → x1.toInt = (cN (thV M) i : Nat) → wwV M (M' 228) i → (∀ b, b ≠ 228 → M' b = M b) → wwV M (N 228) n ∧ ∀ b, b ≠ 228 → N b = M b,
    fun x1 x2 x3 M' v N => ∀ i q : Nat, x2.toInt = i → i < n → thV M i = true → x1.toInt = ((cN (thV M) i + 1 : Nat) : Int) → x3.toInt = q → q ≤ cN (thV M) i + 1 → wX M (M' 228) i q → (∀ b, b ≠ 228 → M' b = M b) → wwV M (N 228) n ∧ ∀ b, b ≠ 228 → N b = M b,
    fun x1 x2 x3 x4 M' v N => ∀ i q r : Nat, x2.toInt = i → i < n → thV M i = true → x1.toInt = ((cN (thV M) i + 1 : Nat) : Int) → x3.toInt = ((q + 1 : Nat) : Int) → q + 1 ≤ cN (thV M) i + 1 → x4.toInt = (r : Int) - 1 → r ≤ 2380 → wY M (M' 228) i (q + 1) r → (∀ b, b ≠ 228 → M' b = M b) → wwV M (N 228) n ∧ ∀ b, b ≠ 228 → N b = M b) ⟨?_, ?_, ?_, ?_⟩ 0 rfl (Nat.zero_le _) (fun j hj => absurd hj (Nat.not_lt_zero j)) (fun _ _ => rfl)
  · intro x1 M' v N hs k hx hk5 hz hb
    rcases hs with ⟨g, _, M1, e1, hs⟩ | ⟨g, _, M1, e1, hs⟩
    · rw [i_le, hx, kI_toInt (by decide) (by decide)] at g
      refine hs 0 rfl (Nat.zero_le _) rfl (fun c s hc hs => ?_) (fun b hb2 => by rw [e1, apR hb2]; exact hb b hb2)
      rw [e1, aPut_row, show ix (kI 0) = 0 from rfl]
      show _ = kI ((if c = 0 ∧ s = 0 then 1 else 0 : Nat) : Int)
      by_cases q : c = 0 ∧ s = 0
      · rw [if_pos (by omega), if_pos q]
        rfl
      · rw [if_neg (by omega), if_neg q, hz _ (by omega)]
        rfl
    · rw [i_le, hx, kI_toInt (by decide) (by decide)] at g
      rw [ix_of hx] at e1
      refine hs (k + 1) (n_add1 hx (by omega)) (by omega) (fun j hj => ?_) (fun b hb2 => by rw [e1, apR hb2]; exact hb b hb2)
      rw [e1, aPut_row]
      by_cases e : j = k
      · rw [if_pos e]
        rfl
      · rw [if_neg e]
        exact hz j (by omega)
  · intro x1 x2 M' v N hs i hx2 hi hx1 hw hb
    have cl := cN_le (p := thV M) (n := i)
    rcases hs with ⟨g, _, hN⟩ | ⟨g, _, hs⟩
    · rw [hb 188 (by decide), i_le, hn2, hx2] at g
      have e : i = n := by omega
      rw [hN, ← e]
      exact ⟨hw, hb⟩
    · rw [hb 188 (by decide), i_le, hn2, hx2] at g
      rw [ix_of hx2, hb 191 (by decide)] at hs
      rcases hs with ⟨g2, hs⟩ | ⟨g2, hs⟩
      · have t : thV M i = true := by
          unfold thV
          rw [decide_eq_false g2]
          rfl
        exact hs i (cN (thV M) i + 1) hx2 (by omega) t (n_add1 hx1 (by omega)) (n_add1 hx1 (by omega)) (Nat.le_refl _) (wX_0 hw) hb
      · have t : thV M i = false := by
          unfold thV
          rw [decide_eq_true (Classical.not_not.mp g2)]
          rfl
        refine hs (i + 1) (n_add1 hx2 (by omega)) (by omega) ?_ (wwV_no hw t) hb
        rw [cN_s, if_neg (by rw [t]; decide)]
        exact hx1
  · intro x1 x2 x3 M' v N hs i q hx2 hi t hx1 hx3 hq hw hb
    rcases hs with ⟨g, hs⟩ | ⟨g, hs⟩
    · rw [i_le, hx3, i_0] at g
      have e : q = 0 := by omega
      rw [e] at hw
      refine hs (i + 1) (n_add1 hx2 (by omega)) (by omega) ?_ (wX_z hw) hb
      rw [cN_s, if_pos t]
      exact hx1
    · rw [i_le, hx3, i_0] at g
      obtain ⟨p, rfl⟩ : ∃ p, q = p + 1 := ⟨q - 1, by omega⟩
      exact hs i p 2380 hx2 hi t hx1 hx3 hq (kI_toInt (by decide) (by decide)) (Nat.le_refl _) (wY_0 hw) hb
  · intro x1 x2 x3 x4 M' v N hs i q r hx2 hi t hx1 hx3 hq hx4 hr hw hb
    have cl := cN_le (p := thV M) (n := i)
    obtain ⟨hX, hX9⟩ := xnV_i hk (i := i) (by omega)
    obtain ⟨_, hs⟩ := hs
    rw [ix_of hx2, hb 193 (by decide)] at hs
    rcases hs with ⟨g, hs⟩ | ⟨g, _, _, _, _, M1, e1, hs⟩
    · rw [i_lt, hx4, hX] at g
      exact hs i q hx2 hi t hx1 (i_dq hx3) (by omega) (wY_z hw (by omega)) hb
    · rw [i_lt, hx4, hX] at g
      obtain ⟨s0, rfl⟩ : ∃ s0, r = s0 + 1 := ⟨r - 1, by omega⟩
      have X0 : xnV M i ≤ s0 := by omega
      have q24 : q + 1 ≤ 24 := by omega
      have s23 : s0 < 2380 := by omega
      rw [ix_a hx3 (i_dr hx4) (by omega) s23, ix_b hx3 (i_dr hx4) hX X0 (by omega) s23] at e1
      refine hs i q s0 hx2 hi t hx1 hx3 hq (i_dn (i_dr hx4) (Int.natCast_nonneg _)) (Nat.le_of_lt s23) (wY_s hw t q24 s23 X0 fun j => ?_) (fun b hb2 => by rw [e1, apR hb2]; exact hb b hb2)
      rw [e1, aPut_row]
/-- cut, by the reference -/
def ctA (V : pMem) : Nat := cN (inL V (kI 0)) 24
def ctO (V : pMem) : Nat := smT (inL V (kI 0)) (xnV V) 24
def ctF (V : pMem) (s : Nat) : Nat := wyB (thV V) (xnV V) 24 (ctA V) s
theorem th_ext {V : pMem} {n : Nat} (hn : rNb V n) : ∀ i, n ≤ i → i < 24 → thV V i = false := fun i h1 h2 => thV_0 hn h1 h2
theorem L_130_v {R : pMem} {n : Nat} (hn : rNb R n) (hb : ∀ i, i < 24 → bo (R 191 i)) (hk : okN R) (hW : wwV R (R 228) n) {p1 x2 x3 x4 : Int32} {v : Int32} {N : pMem} (h : L_130_3 p1 x2 x3 x4 R v N) (h2 : x2.toInt = (ctA R : Nat)) (h3 : x3.toInt = 0) (h4 : x4.toInt = 0) :
    (p1 = 0 → v = kI (nF (ctF R) (ctO R) 2380 : Nat)) ∧ (p1 = kI 1 → v = kI (nS (ctF R) 2380 : Nat)) ∧ (¬ p1 = 0 → ¬ p1 = kI 1 → v = Int64.toInt32 (((Int64.ofInt 1000) * (Int32.toInt64 (kI (nF (ctF R) (ctO R) 2380 : Nat)))) / (Int32.toInt64 (kI (nS (ctF R) 2380 : Nat))))) := by
  obtain ⟨n24, hn2, hn3⟩ := id hn
  have a24 : ctA R ≤ 24 := cN_le
  have oN : smT (inL R (kI 0)) (xnV R) n = ctO R := (smT_ext (T := inL R (kI 0)) n24 fun i q1 q2 => inL_0 hn q1 q2).symm
  have hW24 : ∀ s, s < 2380 → R 228 (2380 * ctA R + s) = kI (ctF R s : Nat) := fun s hs => by
    rw [hW (ctA R) s a24 hs]
    unfold ctF
    rw [wy_ext (T := thV R) n24 (th_ext hn)]
  have oB : ∀ i, i ≤ 24 → smT (inL R (kI 0)) (xnV R) i ≤ 99 * 24 := fun i hi => by
    have q1 := smT_le (T := inL R (kI 0)) (X := xnV R) (B := 99) (fun i hi => (xnV_i hk hi).2) (n := i) hi
    have q2 : cN (inL R (kI 0)) i ≤ i := cN_le
    omega
  have r := h (fun x2 x3 x4 M' v N => ∀ i : Nat, x4.toInt = i → i ≤ n → M' = R → x2.toInt = (ctA R : Nat) → x3.toInt = (smT (inL R (kI 0)) (xnV R) i : Nat) →
      (p1 = 0 → v = kI (nF (ctF R) (ctO R) 2380 : Nat)) ∧ (p1 = kI 1 → v = kI (nS (ctF R) 2380 : Nat)) ∧ (¬ p1 = 0 → ¬ p1 = kI 1 → v = Int64.toInt32 (((Int64.ofInt 1000) * (Int32.toInt64 (kI (nF (ctF R) (ctO R) 2380 : Nat)))) / (Int32.toInt64 (kI (nS (ctF R) 2380 : Nat))))),
    fun x2 x3 x4 x5 x6 M' v N => ∀ k : Nat, x6.toInt = k → k ≤ 2380 → M' = R → x2.toInt = (ctA R : Nat) → x3.toInt = (ctO R : Nat) → x4 = kI (nS (ctF R) k : Nat) → x5 = kI (nF (ctF R) (ctO R) k : Nat) →
      (p1 = 0 → v = kI (nF (ctF R) (ctO R) 2380 : Nat)) ∧ (p1 = kI 1 → v = kI (nS (ctF R) 2380 : Nat)) ∧ (¬ p1 = 0 → ¬ p1 = kI 1 → v = Int64.toInt32 (((Int64.ofInt 1000) * (Int32.toInt64 (kI (nF (ctF R) (ctO R) 2380 : Nat)))) / (Int32.toInt64 (kI (nS (ctF R) 2380 : Nat)))))) ⟨?_, ?_⟩
  · exact r 0 h4 (Nat.zero_le _) rfl h2 h3
  · intro x2 x3 x4 M' v N hs i hx hi hM h2 h3
    rw [hM] at hs
    rcases hs with ⟨g, hs⟩ | ⟨g, _, hs⟩
    · rw [i_le, hn2, hx] at g
      have e : i = n := by omega
      rw [e, oN] at h3
      exact hs 0 rfl (Nat.zero_le _) rfl h2 h3 rfl rfl
    · rw [i_le, hn2, hx] at g
      rw [ix_of hx] at hs
      have no : inL R (kI 0) i = false → x3.toInt = (smT (inL R (kI 0)) (xnV R) (i + 1) : Nat) := fun e => by
        rw [h3, smT_s, if_neg (by rw [e]; decide)]
        rfl
      rcases hs with ⟨g2, hs⟩ | ⟨g2, _, hs⟩
      · refine hs (i + 1) (n_add1 hx (by omega)) (by omega) rfl h2 (no ?_)
        have e : R 191 i = 0 := (hb i (by omega)).resolve_right g2
        unfold inL thV
        rw [decide_eq_true e]
        rfl
      · rcases hs with ⟨g3, hs⟩ | ⟨g3, _, hs⟩
        · refine hs (i + 1) (n_add1 hx (by omega)) (by omega) rfl h2 (no ?_)
          unfold inL
          rw [decide_eq_false (show ¬ R 189 i = kI 0 from g3), Bool.and_false]
        · refine hs (i + 1) (n_add1 hx (by omega)) (by omega) rfl h2 ?_
          have e : inL R (kI 0) i = true := by
            unfold inL thV
            rw [decide_eq_true (show R 189 i = kI 0 from Classical.not_not.mp g3), Classical.not_not.mp g2]
            decide
          obtain ⟨y1, y2⟩ := xnV_i hk (i := i) (by omega)
          have yb := oB i (by omega)
          rw [smT_s, if_pos e, i_add (by rw [h3, y1]; omega) (by rw [h3, y1]; omega), h3, y1]
          omega
  · intro x2 x3 x4 x5 x6 M' v N hs k hx hk2 hM h2 h3 h4 h5
    rw [hM] at hs
    rcases hs with ⟨g, hs⟩ | ⟨g, _, hs⟩
    · rw [i_le, hx, kI_toInt (by decide) (by decide)] at g
      have e : k = 2380 := by omega
      rw [e] at h4 h5
      rcases hs with ⟨g2, hs⟩ | ⟨g2, hv, _⟩
      · rcases hs with ⟨g3, _, hv, _⟩ | ⟨g3, hv, _⟩
        · exact ⟨fun q => absurd q g2, fun q => absurd q g3, fun _ _ => by rw [hv, h4, h5]⟩
        · exact ⟨fun q => absurd q g2, fun _ => by rw [hv, h4], fun _ q => absurd (Classical.not_not.mp g3) q⟩
      · exact ⟨fun _ => by rw [hv, h5], fun q => absurd ((Classical.not_not.mp g2).symm.trans q) (by decide), fun q => absurd (Classical.not_not.mp g2) q⟩
    · rw [i_le, hx, kI_toInt (by decide) (by decide)] at g
      rw [ix_of (ix_2380 h2 hx (by omega) (by omega)), hW24 k (by omega)] at hs
      have s4 : x4 + kI (ctF R k : Nat) = kI (nS (ctF R) (k + 1) : Nat) := by
        rw [h4, ← kI_n1]
        rfl
      rcases hs with ⟨g2, hs⟩ | ⟨g2, _, hs⟩
      · rw [i_lt, hx, h3] at g2
        refine hs (k + 1) (n_add1 hx (by omega)) (by omega) rfl h2 h3 s4 ?_
        rw [h5, nF_s, if_neg (by omega)]
        rfl
      · rw [i_lt, hx, h3] at g2
        refine hs (k + 1) (n_add1 hx (by omega)) (by omega) rfl h2 h3 s4 ?_
        rw [h5, nF_s, if_pos (by omega), kI_n1]
theorem D_130_v {Ma M2 : pMem} {n : Nat} (hn : rNb Ma n) (hb : ∀ i, i < 24 → bo (Ma 191 i)) (hk : okN Ma) {p1 v2 v : Int32} {u : Unit} {M3 N : pMem} (h129 : D_129 Ma u M2) (h53 : D_53 (kI 0) M2 v2 M3) (h : L_130_3 p1 v2 (kI 0) (kI 0) M3 v N) :
    (p1 = 0 → v = kI (nF (ctF Ma) (ctO Ma) 2380 : Nat)) ∧ (p1 = kI 1 → v = kI (nS (ctF Ma) 2380 : Nat)) ∧ (¬ p1 = 0 → ¬ p1 = kI 1 → v = Int64.toInt32 (((Int64.ofInt 1000) * (Int32.toInt64 (kI (nF (ctF Ma) (ctO Ma) 2380 : Nat)))) / (Int32.toInt64 (kI (nS (ctF Ma) 2380 : Nat))))) := by
  obtain ⟨w1, w2⟩ := D_129_w hn hk h129
  have n2 : rNb M2 n := ⟨hn.1, by rw [w2 188 (by decide)]; exact hn.2.1, fun i q1 q2 => by rw [w2 191 (by decide)]; exact hn.2.2 i q1 q2⟩
  have b2 : ∀ i, i < 24 → bo (M2 191 i) := fun i hi => by rw [w2 191 (by decide)]; exact hb i hi
  have k2 : okN M2 := fun i hi => by rw [w2 193 (by decide)]; exact hk i hi
  obtain ⟨z1, z2⟩ := D_53_w n2 b2 h53
  have eT : thV M2 = thV Ma := thV_c (w2 191 (by decide))
  have eX : xnV M2 = xnV Ma := funext fun i => by unfold xnV; rw [w2 193 (by decide)]
  have eL : inL M2 (kI 0) = inL Ma (kI 0) := inL_c (w2 191 (by decide)) (w2 189 (by decide))
  have eA : ctA M2 = ctA Ma := by unfold ctA; rw [eL]
  have eO : ctO M2 = ctO Ma := by unfold ctO; rw [eL, eX]
  have eF : ctF M2 = ctF Ma := funext fun s => by unfold ctF; rw [eT, eX, eA]
  have W2 : wwV M2 (M2 228) n := fun c s hc hs => by rw [eT, eX]; exact w1 c s hc hs
  rw [z2] at h
  have a24 : ctA M2 ≤ 24 := cN_le
  have r := L_130_v n2 b2 k2 W2 h (by rw [z1]; exact kI_toInt (by omega) (by unfold ctA at a24; omega)) rfl rfl
  rw [eF, eO] at r
  exact r
