/-! cut: the reference's ways -/
theorem i_dn {x : Int32} {n : Int} (h : x.toInt = n) (h0 : 0 ≤ n) : (x + kI (-1)).toInt = n - 1 := by
  have r := i_rg x
  have k : (kI (-1)).toInt = -1 := kI_toInt (by decide) (by decide)
  rw [i_add (by rw [k]; omega) (by rw [k]; omega), k, h]
  omega
def xnV (V : pMem) (i : Nat) : Nat := (V 193 i).toInt.toNat
def okN (V : pMem) : Prop := ∀ i, i < 24 → 0 ≤ (V 193 i).toInt ∧ (V 193 i).toInt ≤ 99
theorem xnV_i {V : pMem} (h : okN V) {i : Nat} (hi : i < 24) : (V 193 i).toInt = (xnV V i : Nat) ∧ xnV V i ≤ 99 := by
  have q := h i hi
  unfold xnV
  omega
theorem ix_2380 {x y : Int32} {q s : Nat} (hx : x.toInt = q) (hy : y.toInt = s) (hq : q ≤ 25) (hs : s < 2380) : (kI 2380 * x + y).toInt = ((2380 * q + s : Nat) : Int) := by
  have k : (kI 2380).toInt = 2380 := kI_toInt (by decide) (by decide)
  have m : (kI 2380 * x).toInt = 2380 * q := by rw [i_mul (by rw [k, hx]; omega) (by rw [k, hx]; omega), k, hx]
  rw [i_add (by rw [m, hy]; omega) (by rw [m, hy]; omega), m, hy]
  omega
theorem i_dq {x : Int32} {q : Nat} (h : x.toInt = ((q + 1 : Nat) : Int)) : (x + kI (-1)).toInt = q := by
  rw [i_dn h (by omega)]
  omega
theorem i_mq {x : Int32} {q : Nat} (h : x.toInt = ((q + 1 : Nat) : Int)) (hq : q ≤ 100000) : (x - kI 1).toInt = q := by
  rw [i_sub (by rw [h, kI1]; omega) (by rw [h, kI1]; omega), h, kI1]
  omega
theorem i_dr {x : Int32} {r : Nat} (h : x.toInt = ((r + 1 : Nat) : Int) - 1) : x.toInt = (r : Nat) := by
  rw [h]
  omega
theorem ix_sub {x y : Int32} {a b : Nat} (hx : x.toInt = a) (hy : y.toInt = b) (h : b ≤ a) (ha : a ≤ 1000000) : ix (x - y) = a - b := by
  refine ix_of ?_
  rw [i_sub (by rw [hx, hy]; omega) (by rw [hx, hy]; omega), hx, hy]
  omega
theorem ix_a {x y : Int32} {q s : Nat} (hx : x.toInt = q) (hy : y.toInt = s) (hq : q ≤ 25) (hs : s < 2380) : ix (kI 2380 * x + y) = 2380 * q + s := ix_of (ix_2380 hx hy hq hs)
theorem ix_b {x y z : Int32} {q s X : Nat} (hx : x.toInt = ((q + 1 : Nat) : Int)) (hy : y.toInt = s) (hz : z.toInt = X) (hX : X ≤ s) (hq : q ≤ 25) (hs : s < 2380) : ix (kI 2380 * (x - kI 1) + y - z) = 2380 * q + (s - X) := by
  rw [ix_sub (ix_2380 (i_mq hx (by omega)) hy hq hs) hz (by omega) (by omega)]
  omega
section RC
variable (V : pMem)
def wwV (W : Nat → Int32) (i : Nat) : Prop := ∀ c s, c ≤ 24 → s < 2380 → W (2380 * c + s) = kI (wyB (thV V) (xnV V) i c s : Nat)
def wX (W : Nat → Int32) (i q : Nat) : Prop := ∀ c s, c ≤ 24 → s < 2380 → W (2380 * c + s) = kI (wyB (thV V) (xnV V) (if q < c then i + 1 else i) c s : Nat)
def wY (W : Nat → Int32) (i q r : Nat) : Prop := ∀ c s, c ≤ 24 → s < 2380 → W (2380 * c + s) = kI (wyB (thV V) (xnV V) (if q < c ∨ (c = q ∧ r ≤ s) then i + 1 else i) c s : Nat)
end RC
theorem wX_0 {V : pMem} {W : Nat → Int32} {i : Nat} (h : wwV V W i) : wX V W i (cN (thV V) i + 1) := fun c s hc hs => by
  rw [h c s hc hs]
  by_cases q : cN (thV V) i + 1 < c
  · have z1 : wyB (thV V) (xnV V) i c s = 0 := wy_0 (Or.inl (by omega))
    have z2 : wyB (thV V) (xnV V) (i + 1) c s = 0 := wy_0 (Or.inl (by rw [cN_s]; split <;> omega))
    rw [if_pos q, z1, z2]
  · rw [if_neg q]
theorem wX_z {V : pMem} {W : Nat → Int32} {i : Nat} (h : wX V W i 0) : wwV V W (i + 1) := fun c s hc hs => by
  rw [h c s hc hs]
  by_cases q : 0 < c
  · rw [if_pos q]
  · have e : wyB (thV V) (xnV V) (i + 1) c s = wyB (thV V) (xnV V) i c s := by
      rw [wy_s, if_neg (fun z => q z.2.1)]
      exact Nat.add_zero _
    rw [if_neg q, e]
theorem wY_0 {V : pMem} {W : Nat → Int32} {i q : Nat} (h : wX V W i q) : wY V W i q 2380 := fun c s hc hs => by
  rw [h c s hc hs]
  by_cases g : q < c
  · rw [if_pos g, if_pos (Or.inl g)]
  · rw [if_neg g, if_neg (fun z => by omega)]
theorem wY_z {V : pMem} {W : Nat → Int32} {i q r : Nat} (h : wY V W i (q + 1) r) (hr : r ≤ xnV V i) : wX V W i q := fun c s hc hs => by
  rw [h c s hc hs]
  by_cases g : q + 1 < c ∨ (c = q + 1 ∧ r ≤ s)
  · rw [if_pos g, if_pos (by omega)]
  · rw [if_neg g]
    by_cases g2 : q < c
    · have e : wyB (thV V) (xnV V) (i + 1) c s = wyB (thV V) (xnV V) i c s := by
        rw [wy_s, if_neg (fun z => by have := z.2.2; omega)]
        exact Nat.add_zero _
      rw [if_pos g2, e]
    · rw [if_neg g2]
theorem wY_s {V : pMem} {W W' : Nat → Int32} {i q s0 : Nat} (h : wY V W i (q + 1) (s0 + 1)) (t : thV V i = true) (hq : q + 1 ≤ 24) (hs0 : s0 < 2380) (hX : xnV V i ≤ s0) (e : ∀ j, W' j = if j = 2380 * (q + 1) + s0 then W (2380 * (q + 1) + s0) + W (2380 * q + (s0 - xnV V i)) else W j) : wY V W' i (q + 1) s0 := fun c s hc hs => by
  rw [e]
  by_cases g : 2380 * c + s = 2380 * (q + 1) + s0
  · have g1 : c = q + 1 := by omega
    have g2 : s = s0 := by omega
    have a := h (q + 1) s0 hq hs0
    have b := h q (s0 - xnV V i) (by omega) (by omega)
    rw [if_neg (by omega)] at a
    rw [if_neg (by omega)] at b
    have w : wyB (thV V) (xnV V) (i + 1) (q + 1) s0 = wyB (thV V) (xnV V) i (q + 1) s0 + wyB (thV V) (xnV V) i q (s0 - xnV V i) := by
      rw [wy_s, if_pos ⟨t, by omega, hX⟩]
      rfl
    rw [if_pos g, a, b, g1, g2, if_pos (by omega), w, kI_n1]
  · rw [if_neg g, h c s hc hs]
    by_cases g1 : q + 1 < c ∨ (c = q + 1 ∧ s0 + 1 ≤ s)
    · rw [if_pos g1, if_pos (by omega)]
    · rw [if_neg g1, if_neg (by omega)]
theorem wwV_no {V : pMem} {W : Nat → Int32} {i : Nat} (h : wwV V W i) (t : thV V i = false) : wwV V W (i + 1) := fun c s hc hs => by
  have e : wyB (thV V) (xnV V) (i + 1) c s = wyB (thV V) (xnV V) i c s := by
    rw [wy_s, if_neg (fun z => by rw [t] at z; cases z.1)]
    exact Nat.add_zero _
  rw [h c s hc hs, e]
theorem D_129_w {M : pMem} {n : Nat} (hn : rNb M n) (hk : okN M) {v : Unit} {N : pMem} (h : D_129 M v N) : wwV M (N 228) n ∧ ∀ b, b ≠ 228 → N b = M b := by
  obtain ⟨n24, hn2, _⟩ := hn
  refine h (fun x1 M' v N => ∀ k : Nat, x1.toInt = k → k ≤ 59500 → (∀ j, j < k → M' 228 j = 0) → (∀ b, b ≠ 228 → M' b = M b) → wwV M (N 228) n ∧ ∀ b, b ≠ 228 → N b = M b,
    fun x1 x2 M' v N => ∀ i : Nat, x2.toInt = i → i ≤ n → x1.toInt = (cN (thV M) i : Nat) → wwV M (M' 228) i → (∀ b, b ≠ 228 → M' b = M b) → wwV M (N 228) n ∧ ∀ b, b ≠ 228 → N b = M b,
    fun x1 x2 x3 M' v N => ∀ i q : Nat, x2.toInt = i → i < n → thV M i = true → x1.toInt = ((cN (thV M) i + 1 : Nat) : Int) → x3.toInt = q → q ≤ cN (thV M) i + 1 → wX M (M' 228) i q → (∀ b, b ≠ 228 → M' b = M b) → wwV M (N 228) n ∧ ∀ b, b ≠ 228 → N b = M b,
    fun x1 x2 x3 x4 M' v N => ∀ i q r : Nat, x2.toInt = i → i < n → thV M i = true → x1.toInt = ((cN (thV M) i + 1 : Nat) : Int) → x3.toInt = ((q + 1 : Nat) : Int) → q + 1 ≤ cN (thV M) i + 1 → x4.toInt = (r : Int) - 1 → r ≤ 2380 → wY M (M' 228) i (q + 1) r → (∀ b, b ≠ 228 → M' b = M b) → wwV M (N 228) n ∧ ∀ b, b ≠ 228 → N b = M b) ⟨?_, ?_, ?_, ?_⟩ 0 rfl (Nat.zero_le _) (fun j hj => absurd hj (Nat.not_lt_zero j)) (fun _ _ => rfl)
  · intro x1 M' v N hs k hx hk5 hz hb
    rcases hs with ⟨g, _, M1, e1, hs⟩ | ⟨g, _, M1, e1, hs⟩
    · rw [i_le, hx, kI_toInt (by decide) (by decide)] at g
      refine hs 0 rfl (Nat.zero_le _) rfl (fun c s hc hs => ?_) (fun b hb2 => by rw [e1, apR hb2]; exact hb b hb2)
      rw [e1, aPut_row, show ix (kI 0) = 0 from rfl]
      show _ = kI ((if c = 0 ∧ s = 0 then 1 else 0 : Nat) : Int)
      by_cases q : c = 0 ∧ s = 0
      · rw [if_pos (by omega), if_pos q]
        rfl
      · rw [if_neg (by omega), if_neg q, hz _ (by omega)]
        rfl
    · rw [i_le, hx, kI_toInt (by decide) (by decide)] at g
      rw [ix_of hx] at e1
      refine hs (k + 1) (n_add1 hx (by omega)) (by omega) (fun j hj => ?_) (fun b hb2 => by rw [e1, apR hb2]; exact hb b hb2)
      rw [e1, aPut_row]
      by_cases e : j = k
      · rw [if_pos e]
        rfl
      · rw [if_neg e]
        exact hz j (by omega)
  · intro x1 x2 M' v N hs i hx2 hi hx1 hw hb
    have cl := cN_le (p := thV M) (n := i)
    rcases hs with ⟨g, _, hN⟩ | ⟨g, _, hs⟩
    · rw [hb 188 (by decide), i_le, hn2, hx2] at g
      have e : i = n := by omega
      rw [hN, ← e]
      exact ⟨hw, hb⟩
    · rw [hb 188 (by decide), i_le, hn2, hx2] at g
      rw [ix_of hx2, hb 191 (by decide)] at hs
      rcases hs with ⟨g2, hs⟩ | ⟨g2, hs⟩
      · have t : thV M i = true := by
          unfold thV
          rw [decide_eq_false g2]
          rfl
        exact hs i (cN (thV M) i + 1) hx2 (by omega) t (n_add1 hx1 (by omega)) (n_add1 hx1 (by omega)) (Nat.le_refl _) (wX_0 hw) hb
      · have t : thV M i = false := by
          unfold thV
          rw [decide_eq_true (Classical.not_not.mp g2)]
          rfl
        refine hs (i + 1) (n_add1 hx2 (by omega)) (by omega) ?_ (wwV_no hw t) hb
        rw [cN_s, if_neg (by rw [t]; decide)]
        exact hx1
  · intro x1 x2 x3 M' v N hs i q hx2 hi t hx1 hx3 hq hw hb
    rcases hs with ⟨g, hs⟩ | ⟨g, hs⟩
    · rw [i_le, hx3, i_0] at g
      have e : q = 0 := by omega
      rw [e] at hw
      refine hs (i + 1) (n_add1 hx2 (by omega)) (by omega) ?_ (wX_z hw) hb
      rw [cN_s, if_pos t]
      exact hx1
    · rw [i_le, hx3, i_0] at g
      obtain ⟨p, rfl⟩ : ∃ p, q = p + 1 := ⟨q - 1, by omega⟩
      exact hs i p 2380 hx2 hi t hx1 hx3 hq (kI_toInt (by decide) (by decide)) (Nat.le_refl _) (wY_0 hw) hb
  · intro x1 x2 x3 x4 M' v N hs i q r hx2 hi t hx1 hx3 hq hx4 hr hw hb
    have cl := cN_le (p := thV M) (n := i)
    obtain ⟨hX, hX9⟩ := xnV_i hk (i := i) (by omega)
    obtain ⟨_, hs⟩ := hs
    rw [ix_of hx2, hb 193 (by decide)] at hs
    rcases hs with ⟨g, hs⟩ | ⟨g, _, _, _, _, M1, e1, hs⟩
    · rw [i_lt, hx4, hX] at g
      exact hs i q hx2 hi t hx1 (i_dq hx3) (by omega) (wY_z hw (by omega)) hb
    · rw [i_lt, hx4, hX] at g
      obtain ⟨s0, rfl⟩ : ∃ s0, r = s0 + 1 := ⟨r - 1, by omega⟩
      have X0 : xnV M i ≤ s0 := by omega
      have q24 : q + 1 ≤ 24 := by omega
      have s23 : s0 < 2380 := by omega
      rw [ix_a hx3 (i_dr hx4) (by omega) s23, ix_b hx3 (i_dr hx4) hX X0 (by omega) s23] at e1
      refine hs i q s0 hx2 hi t hx1 hx3 hq (i_dn (i_dr hx4) (Int.natCast_nonneg _)) (Nat.le_of_lt s23) (wY_s hw t q24 s23 X0 fun j => ?_) (fun b hb2 => by rw [e1, apR hb2]; exact hb b hb2)
      rw [e1, aPut_row]
/-- cut, by the reference -/
def ctA (V : pMem) : Nat := cN (inL V (kI 0)) 24
def ctO (V : pMem) : Nat := smT (inL V (kI 0)) (xnV V) 24
def ctF (V : pMem) (s : Nat) : Nat := wyB (thV V) (xnV V) 24 (ctA V) s
theorem th_ext {V : pMem} {n : Nat} (hn : rNb V n) : ∀ i, n ≤ i → i < 24 → thV V i = false := fun i h1 h2 => thV_0 hn h1 h2
theorem L_130_v {R : pMem} {n : Nat} (hn : rNb R n) (hb : ∀ i, i < 24 → bo (R 191 i)) (hk : okN R) (hW : wwV R (R 228) n) {p1 x2 x3 x4 : Int32} {v : Int32} {N : pMem} (h : L_130_3 p1 x2 x3 x4 R v N) (h2 : x2.toInt = (ctA R : Nat)) (h3 : x3.toInt = 0) (h4 : x4.toInt = 0) :
    (p1 = 0 → v = kI (nF (ctF R) (ctO R) 2380 : Nat)) ∧ (p1 = kI 1 → v = kI (nS (ctF R) 2380 : Nat)) ∧ (¬ p1 = 0 → ¬ p1 = kI 1 → v = Int64.toInt32 (((Int64.ofInt 1000) * (Int32.toInt64 (kI (nF (ctF R) (ctO R) 2380 : Nat)))) / (Int32.toInt64 (kI (nS (ctF R) 2380 : Nat))))) := by
  obtain ⟨n24, hn2, hn3⟩ := id hn
  have a24 : ctA R ≤ 24 := cN_le
  have oN : smT (inL R (kI 0)) (xnV R) n = ctO R := (smT_ext (T := inL R (kI 0)) n24 fun i q1 q2 => inL_0 hn q1 q2).symm
  have hW24 : ∀ s, s < 2380 → R 228 (2380 * ctA R + s) = kI (ctF R s : Nat) := fun s hs => by
    rw [hW (ctA R) s a24 hs]
    unfold ctF
    rw [wy_ext (T := thV R) n24 (th_ext hn)]
  have oB : ∀ i, i ≤ 24 → smT (inL R (kI 0)) (xnV R) i ≤ 99 * 24 := fun i hi => by
    have q1 := smT_le (T := inL R (kI 0)) (X := xnV R) (B := 99) (fun i hi => (xnV_i hk hi).2) (n := i) hi
    have q2 : cN (inL R (kI 0)) i ≤ i := cN_le
    omega
  have r := h (fun x2 x3 x4 M' v N => ∀ i : Nat, x4.toInt = i → i ≤ n → M' = R → x2.toInt = (ctA R : Nat) → x3.toInt = (smT (inL R (kI 0)) (xnV R) i : Nat) →
      (p1 = 0 → v = kI (nF (ctF R) (ctO R) 2380 : Nat)) ∧ (p1 = kI 1 → v = kI (nS (ctF R) 2380 : Nat)) ∧ (¬ p1 = 0 → ¬ p1 = kI 1 → v = Int64.toInt32 (((Int64.ofInt 1000) * (Int32.toInt64 (kI (nF (ctF R) (ctO R) 2380 : Nat)))) / (Int32.toInt64 (kI (nS (ctF R) 2380 : Nat))))),
    fun x2 x3 x4 x5 x6 M' v N => ∀ k : Nat, x6.toInt = k → k ≤ 2380 → M' = R → x2.toInt = (ctA R : Nat) → x3.toInt = (ctO R : Nat) → x4 = kI (nS (ctF R) k : Nat) → x5 = kI (nF (ctF R) (ctO R) k : Nat) →
      (p1 = 0 → v = kI (nF (ctF R) (ctO R) 2380 : Nat)) ∧ (p1 = kI 1 → v = kI (nS (ctF R) 2380 : Nat)) ∧ (¬ p1 = 0 → ¬ p1 = kI 1 → v = Int64.toInt32 (((Int64.ofInt 1000) * (Int32.toInt64 (kI (nF (ctF R) (ctO R) 2380 : Nat)))) / (Int32.toInt64 (kI (nS (ctF R) 2380 : Nat)))))) ⟨?_, ?_⟩
  · exact r 0 h4 (Nat.zero_le _) rfl h2 h3
  · intro x2 x3 x4 M' v N hs i hx hi hM h2 h3
    rw [hM] at hs
    rcases hs with ⟨g, hs⟩ | ⟨g, _, hs⟩
    · rw [i_le, hn2, hx] at g
      have e : i = n := by omega
      rw [e, oN] at h3
      exact hs 0 rfl (Nat.zero_le _) rfl h2 h3 rfl rfl
    · rw [i_le, hn2, hx] at g
      rw [ix_of hx] at hs
      have no : inL R (kI 0) i = false → x3.toInt = (smT (inL R (kI 0)) (xnV R) (i + 1) : Nat) := fun e => by
        rw [h3, smT_s, if_neg (by rw [e]; decide)]
        rfl
      rcases hs with ⟨g2, hs⟩ | ⟨g2, _, hs⟩
      · refine hs (i + 1) (n_add1 hx (by omega)) (by omega) rfl h2 (no ?_)
        have e : R 191 i = 0 := (hb i (by omega)).resolve_right g2
        unfold inL thV
        rw [decide_eq_true e]
        rfl
      · rcases hs with ⟨g3, hs⟩ | ⟨g3, _, hs⟩
        · refine hs (i + 1) (n_add1 hx (by omega)) (by omega) rfl h2 (no ?_)
          unfold inL
          rw [decide_eq_false (show ¬ R 189 i = kI 0 from g3), Bool.and_false]
        · refine hs (i + 1) (n_add1 hx (by omega)) (by omega) rfl h2 ?_
          have e : inL R (kI 0) i = true := by
            unfold inL thV
            rw [decide_eq_true (show R 189 i = kI 0 from Classical.not_not.mp g3), Classical.not_not.mp g2]
            decide
          obtain ⟨y1, y2⟩ := xnV_i hk (i := i) (by omega)
          have yb := oB i (by omega)
          rw [smT_s, if_pos e, i_add (by rw [h3, y1]; omega) (by rw [h3, y1]; omega), h3, y1]
          omega
  · intro x2 x3 x4 x5 x6 M' v N hs k hx hk2 hM h2 h3 h4 h5
    rw [hM] at hs
    rcases hs with ⟨g, hs⟩ | ⟨g, _, hs⟩
    · rw [i_le, hx, kI_toInt (by decide) (by decide)] at g
      have e : k = 2380 := by omega
      rw [e] at h4 h5
      rcases hs with ⟨g2, hs⟩ | ⟨g2, hv, _⟩
      · rcases hs with ⟨g3, _, hv, _⟩ | ⟨g3, hv, _⟩
        · exact ⟨fun q => absurd q g2, fun q => absurd q g3, fun _ _ => by rw [hv, h4, h5]⟩
        · exact ⟨fun q => absurd q g2, fun _ => by rw [hv, h4], fun _ q => absurd (Classical.not_not.mp g3) q⟩
      · exact ⟨fun _ => by rw [hv, h5], fun q => absurd ((Classical.not_not.mp g2).symm.trans q) (by decide), fun q => absurd (Classical.not_not.mp g2) q⟩
    · rw [i_le, hx, kI_toInt (by decide) (by decide)] at g
      rw [ix_of (ix_2380 h2 hx (by omega) (by omega)), hW24 k (by omega)] at hs
      have s4 : x4 + kI (ctF R k : Nat) = kI (nS (ctF R) (k + 1) : Nat) := by
        rw [h4, ← kI_n1]
        rfl
      rcases hs with ⟨g2, hs⟩ | ⟨g2, _, hs⟩
      · rw [i_lt, hx, h3] at g2
        refine hs (k + 1) (n_add1 hx (by omega)) (by omega) rfl h2 h3 s4 ?_
        rw [h5, nF_s, if_neg (by omega)]
        rfl
      · rw [i_lt, hx, h3] at g2
        refine hs (k + 1) (n_add1 hx (by omega)) (by omega) rfl h2 h3 s4 ?_
        rw [h5, nF_s, if_pos (by omega), kI_n1]
theorem D_130_v {Ma M2 : pMem} {n : Nat} (hn : rNb Ma n) (hb : ∀ i, i < 24 → bo (Ma 191 i)) (hk : okN Ma) {p1 v2 v : Int32} {u : Unit} {M3 N : pMem} (h129 : D_129 Ma u M2) (h53 : D_53 (kI 0) M2 v2 M3) (h : L_130_3 p1 v2 (kI 0) (kI 0) M3 v N) :
    (p1 = 0 → v = kI (nF (ctF Ma) (ctO Ma) 2380 : Nat)) ∧ (p1 = kI 1 → v = kI (nS (ctF Ma) 2380 : Nat)) ∧ (¬ p1 = 0 → ¬ p1 = kI 1 → v = Int64.toInt32 (((Int64.ofInt 1000) * (Int32.toInt64 (kI (nF (ctF Ma) (ctO Ma) 2380 : Nat)))) / (Int32.toInt64 (kI (nS (ctF Ma) 2380 : Nat))))) := by
  obtain ⟨w1, w2⟩ := D_129_w hn hk h129
  have n2 : rNb M2 n := ⟨hn.1, by rw [w2 188 (by decide)]; exact hn.2.1, fun i q1 q2 => by rw [w2 191 (by decide)]; exact hn.2.2 i q1 q2⟩
  have b2 : ∀ i, i < 24 → bo (M2 191 i) := fun i hi => by rw [w2 191 (by decide)]; exact hb i hi
  have k2 : okN M2 := fun i hi => by rw [w2 193 (by decide)]; exact hk i hi
  obtain ⟨z1, z2⟩ := D_53_w n2 b2 h53
  have eT : thV M2 = thV Ma := thV_c (w2 191 (by decide))
  have eX : xnV M2 = xnV Ma := funext fun i => by unfold xnV; rw [w2 193 (by decide)]
  have eL : inL M2 (kI 0) = inL Ma (kI 0) := inL_c (w2 191 (by decide)) (w2 189 (by decide))
  have eA : ctA M2 = ctA Ma := by unfold ctA; rw [eL]
  have eO : ctO M2 = ctO Ma := by unfold ctO; rw [eL, eX]
  have eF : ctF M2 = ctF Ma := funext fun s => by unfold ctF; rw [eT, eX, eA]
  have W2 : wwV M2 (M2 228) n := fun c s hc hs => by rw [eT, eX]; exact w1 c s hc hs
  rw [z2] at h
  have a24 : ctA M2 ≤ 24 := cN_le
  have r := L_130_v n2 b2 k2 W2 h (by rw [z1]; exact kI_toInt (by omega) (by unfold ctA at a24; omega)) rfl rfl
  rw [eF, eO] at r
  exact r
/-! cut: the class's ways -/
theorem wy_cg {T A : Nat → Bool} {X : Nat → Nat} : ∀ {n c s : Nat}, (∀ i, i < n → T i = A i) → wyB T X n c s = wyB A X n c s
  | 0, _, _, _ => rfl
  | n + 1, c, s, h => by
    rw [wy_s, wy_s, wy_cg (n := n) (c := c) (s := s) (fun i hi => h i (by omega)), wy_cg (n := n) (c := c - 1) (s := s - X n) (fun i hi => h i (by omega)), h n (by omega)]
def cuI (x : Int32) : Nat → Int64
  | 0 => Int64.ofNat 1
  | i + 1 => (cuI x i * Int32.toInt64 (x - kI i)) / Int32.toInt64 (kI i + kI 1)
theorem cuI_ok : ∀ n, n < 25 → ∀ a, a < n + 1 → Int64.toInt32 (cuI (kI (n : Nat)) a) = kI (gCh n a : Nat) := by decide +kernel
theorem D_147_w {w a b : Nat} {M : pMem} (ha : f_227 w (kI 0) M = kI (a : Nat)) (hb : f_227 w (kI 1) M = kI (b : Nat)) (hab : a + b ≤ 24) {v : Int32} {N : pMem} (h : D_147 w M v N) : v = kI (gCh (a + b) a : Nat) ∧ N = M := by
  have hn : f_227 w (kI 0) M + f_227 w (kI 1) M = kI ((a + b : Nat) : Int) := by rw [ha, hb, kI_n1]
  have r := h (fun x2 x3 x4 x6 M' v N => ∀ i : Nat, x6 = kI (i : Nat) → i ≤ a → x2 = kI (a : Nat) → x3 = kI ((a + b : Nat) : Int) → x4 = cuI (kI ((a + b : Nat) : Int)) i → M' = M → v = kI (gCh (a + b) a : Nat) ∧ N = M) ?_
  · exact r 0 rfl (Nat.zero_le _) ha hn rfl rfl
  · intro x2 x3 x4 x6 M' v N hs i h6 hi h2 h3 h4 hM
    have t6 : x6.toInt = i := by rw [h6, kI_toInt (by omega) (by omega)]
    have t2 : x2.toInt = a := by rw [h2, kI_toInt (by omega) (by omega)]
    rcases hs with ⟨g, hv, hN⟩ | ⟨g, _, hs⟩
    · rw [i_le, t2, t6] at g
      have e : i = a := by omega
      rw [hv, h4, e, hN, hM]
      exact ⟨cuI_ok (a + b) (by omega) a (by omega), rfl⟩
    · rw [i_le, t2, t6] at g
      refine hs (i + 1) (kI_inj (n_add1 t6 (by omega))) (by omega) h2 h3 ?_ hM
      rw [h3, h4, h6]
      rfl
theorem D_149_w {p0 : Int32} {X : Nat → Nat} {M : pMem} (hX : ∀ i, i < 24 → M 29 i = kI (X i : Nat)) {v : Int32} {N : pMem} (h : D_149 p0 M v N) : v = kI (smT (bt p0) X 24 : Nat) ∧ N = M := by
  refine h (fun x2 x3 M' v N => ∀ i : Nat, x3.toInt = i → i ≤ 24 → M' = M → x2 = kI (smT (bt p0) X i : Nat) → v = kI (smT (bt p0) X 24 : Nat) ∧ N = M) ?_ 0 rfl (by decide) rfl rfl
  intro x2 x3 M' v N hs i hx hi hM h2
  rw [hM] at hs
  rcases hs with ⟨g, hv, hN⟩ | ⟨g, hs⟩
  · rw [i_le, hx, kI_toInt (by decide) (by decide)] at g
    have e : i = 24 := by omega
    rw [hv, h2, e, hN]
    exact ⟨rfl, rfl⟩
  · rw [i_le, hx, kI_toInt (by decide) (by decide)] at g
    rcases hs with ⟨g2, hs⟩ | ⟨g2, _, hs⟩
    · have b := (f37_n hx (by omega)).mp g2
      refine hs (i + 1) (n_add1 hx (by omega)) (by omega) rfl ?_
      rw [h2, smT_s, if_neg (by rw [b]; decide)]
      exact Int32.add_zero _
    · have b := (f37_y hx (by omega)).mp g2
      rw [ix_of hx, hX i (by omega)] at hs
      refine hs (i + 1) (n_add1 hx (by omega)) (by omega) rfl ?_
      rw [h2, smT_s, if_pos b, kI_n1]
theorem filr_w {row : Nat} {p1 : Int32} {M v N} (h : D_240_r row p1 M v N) : (∀ k, k < 1189 → N row k = p1) ∧ ∀ b, b ≠ row → N b = M b := by
  have q := h (fun x2 x3 M' v N => ∀ i : Nat, x2.toInt = i → i ≤ 1189 → x3 = Int32.ofNat 1189 → (∀ k, k < i → M' row k = p1) → (∀ b, b ≠ row → M' b = M b) → (∀ k, k < 1189 → N row k = p1) ∧ ∀ b, b ≠ row → N b = M b) ?_
  · exact q 0 rfl (Nat.zero_le _) rfl (fun k hk => absurd hk (Nat.not_lt_zero k)) (fun _ _ => rfl)
  · intro x2 x3 M' v N hs i hi hi14 h3 hk hb
    have k14 : (Int32.ofNat 1189).toInt = 1189 := rfl
    rcases hs with ⟨g, _, hN⟩ | ⟨g, _, M1, e1, hs⟩
    · rw [h3, i_le, hi, k14] at g
      rw [hN]
      exact ⟨fun k hk2 => hk k (by omega), hb⟩
    · rw [h3, i_le, hi, k14] at g
      rw [ix_of hi] at e1
      refine hs (i + 1) (n_add1 hi (by omega)) (by omega) h3 (fun k hk2 => ?_) (fun b hb2 => ?_)
      · rw [e1, aPut_row]
        by_cases e : k = i
        · rw [if_pos e]
        · rw [if_neg e]
          exact hk k (by omega)
      · rw [← hb b hb2, e1]
        funext j
        exact aPut_cell hb2
section CC
variable (T : Nat → Bool) (X : Nat → Nat) (Q t : Nat)
def wwC (M : pMem) (i : Nat) : Prop := ∀ c s, c ≤ Q → s < t → M (175 + c) s = kI (wyB T X i c s : Nat)
def wD (M : pMem) (i q : Nat) : Prop := ∀ c s, c ≤ Q → s < t → M (175 + c) s = kI (wyB T X (if q < c then i + 1 else i) c s : Nat)
def wE (M : pMem) (i q r : Nat) : Prop := ∀ c s, c ≤ Q → s < t → M (175 + c) s = kI (wyB T X (if q < c ∨ (c = q ∧ r ≤ s) then i + 1 else i) c s : Nat)
end CC
section CD
variable {T : Nat → Bool} {X : Nat → Nat} {Q t : Nat}
theorem wD_0 {M : pMem} {i : Nat} (h : wwC T X Q t M i) : wD T X Q t M i Q := fun c s hc hs => by
  rw [h c s hc hs, if_neg (by omega)]
theorem wD_z {M : pMem} {i : Nat} (h : wD T X Q t M i 0) : wwC T X Q t M (i + 1) := fun c s hc hs => by
  rw [h c s hc hs]
  by_cases q : 0 < c
  · rw [if_pos q]
  · have e : wyB T X (i + 1) c s = wyB T X i c s := by
      rw [wy_s, if_neg (fun z => q z.2.1)]
      exact Nat.add_zero _
    rw [if_neg q, e]
theorem wE_0 {M : pMem} {i q : Nat} (h : wD T X Q t M i q) : wE T X Q t M i q t := fun c s hc hs => by
  rw [h c s hc hs]
  by_cases g : q < c
  · rw [if_pos g, if_pos (Or.inl g)]
  · rw [if_neg g, if_neg (fun z => by omega)]
theorem wE_z {M : pMem} {i q r : Nat} (h : wE T X Q t M i (q + 1) r) (hr : r ≤ X i) : wD T X Q t M i q := fun c s hc hs => by
  rw [h c s hc hs]
  by_cases g : q + 1 < c ∨ (c = q + 1 ∧ r ≤ s)
  · rw [if_pos g, if_pos (by omega)]
  · rw [if_neg g]
    by_cases g2 : q < c
    · have e : wyB T X (i + 1) c s = wyB T X i c s := by
        rw [wy_s, if_neg (fun z => by have := z.2.2; omega)]
        exact Nat.add_zero _
      rw [if_pos g2, e]
    · rw [if_neg g2]
theorem wE_s {M M1 : pMem} {i q s0 : Nat} (h : wE T X Q t M i (q + 1) (s0 + 1)) (ht : T i = true) (hq : q + 1 ≤ Q) (hs0 : s0 < t) (hX : X i ≤ s0) (e : M1 = aPut M (175 + (q + 1)) s0 (M (175 + (q + 1)) s0 + M (175 + q) (s0 - X i))) : wE T X Q t M1 i (q + 1) s0 := fun c s hc hs => by
  rw [e]
  by_cases g : c = q + 1 ∧ s = s0
  · obtain ⟨g1, g2⟩ := g
    have a := h (q + 1) s0 hq hs0
    have b := h q (s0 - X i) (by omega) (by omega)
    rw [if_neg (by omega)] at a
    rw [if_neg (by omega)] at b
    have w : wyB T X (i + 1) (q + 1) s0 = wyB T X i (q + 1) s0 + wyB T X i q (s0 - X i) := by
      rw [wy_s, if_pos ⟨ht, by omega, hX⟩]
      rfl
    rw [g1, g2, aPut_same, a, b, if_pos (by omega), w, kI_n1]
  · have e1 : aPut M (175 + (q + 1)) s0 (M (175 + (q + 1)) s0 + M (175 + q) (s0 - X i)) (175 + c) s = M (175 + c) s := by
      by_cases ec : c = q + 1
      · exact aPut_at (fun z => g ⟨ec, z⟩)
      · exact aPut_cell (by omega)
    rw [e1, h c s hc hs]
    by_cases g1 : q + 1 < c ∨ (c = q + 1 ∧ s0 + 1 ≤ s)
    · rw [if_pos g1, if_pos (by omega)]
    · rw [if_neg g1, if_neg (by omega)]
theorem wwC_no {M : pMem} {i : Nat} (h : wwC T X Q t M i) (ht : T i = false) : wwC T X Q t M (i + 1) := fun c s hc hs => by
  have e : wyB T X (i + 1) c s = wyB T X i c s := by
    rw [wy_s, if_neg (fun z => by rw [ht] at z; cases z.1)]
    exact Nat.add_zero _
  rw [h c s hc hs, e]
/-- one boy more -/
theorem D_151_w {M : pMem} {i : Nat} (hw : wwC T X Q t M i) (ht : T i = true) (hX : X i ≤ 99) (hQ : Q ≤ 12) (h1t : t ≤ 1189) {p1 p2 p3 : Int32} (h1 : p1.toInt = (X i : Nat)) (h2 : p2.toInt = (Q : Nat)) (h3 : p3.toInt = (t : Int) - 1) {v : Unit} {N : pMem} (h : D_151 p1 p2 p3 M v N) : wwC T X Q t N (i + 1) ∧ ∀ b, (b < 175 ∨ 188 ≤ b) → N b = M b := by
  refine h (fun x4 M' v N => ∀ q : Nat, x4.toInt = q → q ≤ Q → wD T X Q t M' i q → (∀ b, (b < 175 ∨ 188 ≤ b) → M' b = M b) → wwC T X Q t N (i + 1) ∧ ∀ b, (b < 175 ∨ 188 ≤ b) → N b = M b,
    fun x4 x5 M' v N => ∀ q r : Nat, x4.toInt = ((q + 1 : Nat) : Int) → q + 1 ≤ Q → x5.toInt = (r : Int) - 1 → r ≤ t → wE T X Q t M' i (q + 1) r → (∀ b, (b < 175 ∨ 188 ≤ b) → M' b = M b) → wwC T X Q t N (i + 1) ∧ ∀ b, (b < 175 ∨ 188 ≤ b) → N b = M b) ⟨?_, ?_⟩ Q h2 (Nat.le_refl _) (wD_0 hw) (fun _ _ => rfl)
  · intro x4 M' v N hs q hx hq hD hb
    rcases hs with ⟨g, _, hN⟩ | ⟨g, hs⟩
    · rw [i_le, hx, i_0] at g
      have e : q = 0 := by omega
      rw [e] at hD
      rw [hN]
      exact ⟨wD_z hD, hb⟩
    · rw [i_le, hx, i_0] at g
      obtain ⟨p, rfl⟩ : ∃ p, q = p + 1 := ⟨q - 1, by omega⟩
      exact hs p t hx hq h3 (Nat.le_refl _) (wE_0 hD) hb
  · intro x4 x5 M' v N hs q r hx hq hx5 hr hE hb
    rcases hs with ⟨g, hs⟩ | ⟨g, _, _, _, _, _, M1, e1, hs⟩
    · rw [i_lt, hx5, h1] at g
      exact hs q (i_dq hx) (by omega) (wE_z hE (by omega)) hb
    · rw [i_lt, hx5, h1] at g
      obtain ⟨s0, rfl⟩ : ∃ s0, r = s0 + 1 := ⟨r - 1, by omega⟩
      have X0 : X i ≤ s0 := by omega
      have st : s0 < t := by omega
      rw [ix_of hx, ix_of (i_dr hx5), ix_of (i_mq hx (by omega)), ix_sub (i_dr hx5) h1 X0 (by omega), Nat.one_mul, Nat.one_mul] at e1
      refine hs q s0 hx hq (i_dn (i_dr hx5) (Int.natCast_nonneg _)) (Nat.le_of_lt st) (wE_s hE ht hq st X0 e1) (fun b hb2 => ?_)
      rw [e1, apR (by omega)]
      exact hb b hb2
end CD
theorem D_150_w {X : Nat → Nat} {Q t : Nat} (hQ : Q ≤ 12) (h1t : t ≤ 1189) {M : pMem} (hX : ∀ i, i < 24 → M 29 i = kI (X i : Nat)) (hX9 : ∀ i, i < 24 → X i ≤ 99) {p1 p3 p4 : Int32} (h3 : p3.toInt = (Q : Nat)) (h4 : p4.toInt = (t : Int) - 1) {v : Int32} {N : pMem} (h : D_150 p1 p3 p4 M v N) :
    v = kI (nS (fun s => wyB (bt p1) X 24 Q s) t : Nat) := by
  have h := tIf_n (show ¬ p3 < 0 by rw [i_lt, h3, i_0]; omega) h
  have h := tIf_n (show ¬ kI 12 < p3 by rw [i_lt, h3, kI_toInt (by decide) (by decide)]; omega) h
  by_cases t0 : t = 0
  · have h := tIf_p (show p4 < 0 by rw [i_lt, h4, i_0]; omega) h
    rw [h.1, t0]
    rfl
  have h := tIf_n (show ¬ p4 < 0 by rw [i_lt, h4, i_0]; omega) h
  have h := tIf_p (show p4 ≤ kI 1188 by rw [i_le, h4, kI_toInt (by decide) (by decide)]; omega) h
  refine h (fun x5 M' v N => ∀ c : Nat, x5.toInt = c → c ≤ Q + 1 → (∀ d s, d < c → s < 1189 → M' (175 + d) s = 0) → (∀ b, (b < 175 ∨ 188 ≤ b) → M' b = M b) → v = kI (nS (fun s => wyB (bt p1) X 24 Q s) t : Nat),
    fun x5 M' v N => ∀ i : Nat, x5.toInt = i → i ≤ 24 → wwC (bt p1) X Q t M' i → (∀ b, (b < 175 ∨ 188 ≤ b) → M' b = M b) → v = kI (nS (fun s => wyB (bt p1) X 24 Q s) t : Nat),
    fun x5 x6 M' v N => ∀ k : Nat, x6.toInt = k → k ≤ t → wwC (bt p1) X Q t M' 24 → x5 = kI (nS (fun s => wyB (bt p1) X 24 Q s) k : Nat) → v = kI (nS (fun s => wyB (bt p1) X 24 Q s) t : Nat)) ⟨?_, ?_, ?_⟩ 0 rfl (Nat.zero_le _) (fun d s hd => absurd hd (Nat.not_lt_zero d)) (fun _ _ => rfl)
  · intro x5 M' v N hs c hx hc hz hb
    rcases hs with ⟨g, _, M1, e1, hs⟩ | ⟨g, _, _, M1, h240, hs⟩
    · rw [i_lt, h3, hx] at g
      refine hs 0 rfl (by decide) (fun d s hd hs => ?_) (fun b hb2 => by rw [e1, apR (by omega)]; exact hb b hb2)
      show M1 (175 + d) s = kI ((if d = 0 ∧ s = 0 then 1 else 0 : Nat) : Int)
      rw [e1, show ix (kI 0) = 0 from rfl]
      by_cases q : d = 0 ∧ s = 0
      · rw [if_pos q, q.1, q.2]
        exact aPut_same
      · rw [if_neg q]
        have e2 : aPut M' 175 0 (kI 1) (175 + d) s = M' (175 + d) s := by
          by_cases ed : d = 0
          · exact aPut_at (fun z => q ⟨ed, z⟩)
          · exact aPut_cell (by omega)
        rw [e2, hz d s (by omega) (by omega)]
        rfl
    · rw [i_lt, h3, hx] at g
      rw [ix_of hx, Nat.one_mul] at h240
      obtain ⟨f1, f2⟩ := filr_w h240
      refine hs (c + 1) (n_add1 hx (by omega)) (by omega) (fun d s hd hs => ?_) (fun b hb2 => by rw [f2 b (by omega)]; exact hb b hb2)
      by_cases e : d = c
      · rw [e, f1 s hs]
        rfl
      · rw [f2 (175 + d) (by omega)]
        exact hz d s (by omega) hs
  · intro x5 M' v N hs i hx hi hw hb
    rcases hs with ⟨g, hs⟩ | ⟨g, hs⟩
    · rw [i_le, hx, kI_toInt (by decide) (by decide)] at g
      have e : i = 24 := by omega
      rw [e] at hw
      exact hs 0 rfl (Nat.zero_le _) hw rfl
    · rw [i_le, hx, kI_toInt (by decide) (by decide)] at g
      rcases hs with ⟨g2, hs⟩ | ⟨g2, _, _, M1, h151, hs⟩
      · have b := (f37_n hx (by omega)).mp g2
        exact hs (i + 1) (n_add1 hx (by omega)) (by omega) (wwC_no hw b) hb
      · have b := (f37_y hx (by omega)).mp g2
        rw [ix_of hx, hb 29 (by omega), hX i (by omega)] at h151
        have x9 := hX9 i (by omega)
        obtain ⟨d1, d2⟩ := D_151_w hw b x9 hQ h1t (kI_toInt (by omega) (by omega)) h3 h4 h151
        exact hs (i + 1) (n_add1 hx (by omega)) (by omega) d1 (fun b hb2 => by rw [d2 b hb2]; exact hb b hb2)
  · intro x5 x6 M' v N hs k hx hk hw h5
    rcases hs with ⟨g, hv, _⟩ | ⟨g, _, _, hs⟩
    · rw [i_lt, h4, hx] at g
      have e : k = t := by omega
      rw [hv, h5, e]
    · rw [i_lt, h4, hx] at g
      rw [ix_of h3, ix_of hx, Nat.one_mul, hw Q k (Nat.le_refl _) (by omega)] at hs
      refine hs (k + 1) (n_add1 hx (by omega)) (by omega) hw ?_
      rw [h5, ← kI_n1]
      rfl
theorem gCh_rg {n a : Nat} (hn : n < 25) (ha : a ≤ n) : 1 ≤ gCh n a ∧ gCh n a ≤ 3000000 := by
  have q := List.all_eq_true.mp gCh_ok n (List.mem_range.mpr hn)
  have q := List.all_eq_true.mp q a (List.mem_range.mpr (by omega))
  exact of_decide_eq_true q
/-- cut: both sides say the same -/
theorem op_cut_v {p1 v u : Int32} {M M1 M2 : pMem} (h : rF M) (h1 : D_26 p1 M v M1) (h2 : D_130 p1 M1 u M2) : v = u := by
  have c8 := fr_188 (F_26 h1) (by decide +kernel)
  have hT := h.2.1
  obtain ⟨⟨hV, _⟩, ⟨hW, _⟩, _, _, _, _, _, hN⟩ := hT
  have hW : rW 19 M M := hW
  have hN : ∀ i, i < 24 → M 29 i = M 193 i ∧ 0 ≤ (M 193 i).toInt ∧ (M 193 i).toInt ≤ 99 := hN
  have hk : okN M := fun i hi => (hN i hi).2
  have hX : ∀ i, i < 24 → M 29 i = kI (xnV M i : Nat) := fun i hi => by rw [(hN i hi).1]; exact kI_inj (xnV_i hk hi).1
  have hX9 : ∀ i, i < 24 → xnV M i ≤ 99 := fun i hi => (xnV_i hk hi).2
  obtain ⟨n, hn⟩ := hV.1
  -- two camps
  obtain ⟨m0, nb0⟩ := mem_w hV hW (p := kI 0) (Or.inl rfl)
  obtain ⟨m1, nb1⟩ := mem_w hV hW (p := kI 1) (Or.inr rfl)
  obtain ⟨a, ha⟩ : ∃ a, a = cN (inL M (kI 0)) 24 := ⟨_, rfl⟩
  obtain ⟨b, hb⟩ : ∃ b, b = cN (inL M (kI 1)) 24 := ⟨_, rfl⟩
  have za : f_227 19 (kI 0) M = kI (a : Nat) := by
    show f_239 (f_226 19 (kI 0) M) = _
    rw [f239_24 nb0, cN_cg m0, ha]
  have zb : f_227 19 (kI 1) M = kI (b : Nat) := by
    show f_239 (f_226 19 (kI 1) M) = _
    rw [f239_24 nb1, cN_cg m1, hb]
  have nab : cN (thV M) 24 = a + b := by rw [ha, hb]; exact cN_lots hV
  have n24 : a + b ≤ 24 := by rw [← nab]; exact cN_le
  have two : ∀ i, i < 24 → ∀ x : Nat, (if thV M i = true then x else 0) = (if inL M (kI 0) i = true then x else 0) + (if inL M (kI 1) i = true then x else 0) := fun i hi x => by
    unfold inL
    rcases (hV.2.1 i hi).1 with q | q
    · rw [q]
      cases thV M i
      · rfl
      · exact (Nat.add_zero x).symm
    · rw [q]
      cases thV M i
      · rfl
      · exact (Nat.zero_add x).symm
  have s2 : smT (thV M) (xnV M) 24 = smT (inL M (kI 0)) (xnV M) 24 + smT (inL M (kI 1)) (xnV M) 24 := smT_two two (Nat.le_refl _)
  have l0 : smT (inL M (kI 0)) (xnV M) 24 ≤ 99 * a := by rw [ha]; exact smT_le hX9 (Nat.le_refl _)
  have l1 : smT (inL M (kI 1)) (xnV M) 24 ≤ 99 * b := by rw [hb]; exact smT_le hX9 (Nat.le_refl _)
  have eA : ctA M = a := ha.symm
  have eO : ctO M = smT (inL M (kI 0)) (xnV M) 24 := rfl
  have eF : ctF M = fun s => wyB (thV M) (xnV M) 24 a s := funext fun s => by unfold ctF; rw [eA]
  have tot : nS (ctF M) 2380 = gCh (a + b) a := by
    rw [eF, ← nab]
    exact wy_tot (by rw [s2]; omega)
  have thB' : ∀ i, i < 24 → bt (M 19 2) i = thV M i := fun i hi => by rw [(hW.2.2.1 i hi).2.1, ← thV_y hV hi]
  -- the reference
  obtain ⟨Ma, ea, h2⟩ := h2
  have c188 : ∀ x j, 188 ≤ x → x < 230 → pScr x j = false → Ma x j = M x j := fun x j q1 q2 q3 => by rw [ea, p0_sc x j q1 q2 q3]; exact c8 x j q1 q2 q3
  have cR : ∀ x, 188 < x → x < 230 → pScrA x = false → Ma x = M x := fun x q1 q2 q3 => funext fun j => c188 x j (by omega) q2 (pScr_of q3 (by omega) j)
  have na : rNb Ma n := ⟨hn.1, by rw [c188 188 2 (by decide) (by decide) rfl]; exact hn.2.1, fun i q1 q2 => by rw [cR 191 (by decide) (by decide) rfl]; exact hn.2.2 i q1 q2⟩
  have ba : ∀ i, i < 24 → bo (Ma 191 i) := fun i hi => by rw [cR 191 (by decide) (by decide) rfl]; exact (hV.2.1 i hi).2
  have ka : okN Ma := fun i hi => by rw [cR 193 (by decide) (by decide) rfl]; exact hk i hi
  have xa : xnV Ma = xnV M := funext fun i => by unfold xnV; rw [cR 193 (by decide) (by decide) rfl]
  have la : inL Ma (kI 0) = inL M (kI 0) := inL_c (cR 191 (by decide) (by decide) rfl) (cR 189 (by decide) (by decide) rfl)
  have ta : thV Ma = thV M := thV_c (cR 191 (by decide) (by decide) rfl)
  have aa : ctA Ma = ctA M := by unfold ctA; rw [la]
  have oa : ctO Ma = ctO M := by unfold ctO; rw [la, xa]
  have fa : ctF Ma = ctF M := funext fun s => by unfold ctF; rw [ta, xa, aa]
  by_cases g : 0 ≤ p1.toInt ∧ p1.toInt ≤ 2
  · have h1 := tIf_n (show ¬ p1 < 0 by rw [i_lt, i_0]; omega) h1
    have h1 := tIf_p (show p1 ≤ kI 2 by rw [i_le, kI_toInt (by decide) (by decide)]; omega) h1
    have h2 := tIf_p (f_42_iff.mpr ⟨by rw [i_le, kI_toInt (by decide) (by decide)]; exact g.1, by rw [i_le, kI_toInt (by decide) (by decide)]; exact g.2⟩) h2
    obtain ⟨_, Mb, h129, v2, Mc, h53, h130⟩ := h2
    obtain ⟨r0, r1, r2⟩ := D_130_v na ba ka h129 h53 h130
    rw [fa, oa] at r0
    rw [fa] at r1
    rw [fa, oa] at r2
    obtain ⟨v1, X, h147, h1⟩ := h1
    obtain ⟨e1, eX⟩ := D_147_w za zb n24 h147
    rw [e1, eX] at h1
    by_cases c1 : p1 = kI 1
    · obtain ⟨hv, _⟩ := tIf_n (nn c1) h1
      rw [hv, r1 c1, tot]
    · obtain ⟨w, Y, h148, h1⟩ := tIf_p c1 h1
      have ew : w = kI (nF (ctF M) (ctO M) 2380 : Nat) := by
        rcases h148 with ⟨g2, v3, Z, h149, v4, Z2, h150, hw, _⟩ | ⟨g2, v3, Z, h149, v4, Z2, h150, hw, _⟩
        · rw [za, zb, i_lt, kI_toInt (by omega) (by omega), kI_toInt (by omega) (by omega)] at g2
          obtain ⟨f1, f2⟩ := D_149_w hX h149
          rw [f2, zb] at h150
          rw [smT_cg (X := xnV M) m1] at f1
          have q := D_150_w (Q := b) (t := smT (inL M (kI 1)) (xnV M) 24 + 1) (by omega) (by omega) hX hX9 (kI_toInt (by omega) (by omega)) (by rw [f1, kI_toInt (by omega) (by omega)]; omega) h150
          rw [hw, q]
          have e2 : nS (fun s => wyB (bt (M 19 2)) (xnV M) 24 b s) (smT (inL M (kI 1)) (xnV M) 24 + 1) = nS (fun s => wyB (thV M) (xnV M) 24 b s) (smT (inL M (kI 1)) (xnV M) 24 + 1) := nS_cg fun s _ => wy_cg thB'
          rw [e2, wy_low (T := thV M) (X := xnV M) (a := a) (b := b) (own := ctO M) (m := 2380) nab.symm (by rw [eO]; exact s2.symm) (by rw [eO]; omega), eF]
        · rw [za, zb, i_lt, kI_toInt (by omega) (by omega), kI_toInt (by omega) (by omega)] at g2
          obtain ⟨f1, f2⟩ := D_149_w hX h149
          rw [f2, za] at h150
          rw [smT_cg (X := xnV M) m0] at f1
          have q := D_150_w (Q := a) (t := ctO M) (by omega) (by rw [eO]; omega) hX hX9 (kI_toInt (by omega) (by omega)) (by
            have k := kI_toInt (n := (smT (inL M (kI 0)) (xnV M) 24 : Nat)) (by omega) (by omega)
            rw [eO, f1, i_sub (by rw [k, kI1]; omega) (by rw [k, kI1]; omega), k, kI1]) h150
          have e2 : nS (fun s => wyB (bt (M 19 2)) (xnV M) 24 a s) (ctO M) = nS (ctF M) (ctO M) := by
            rw [eF]
            exact nS_cg fun s _ => wy_cg thB'
          have e3 := nS_cut (f := ctF M) (own := ctO M) (m := 2380) (by rw [eO]; omega)
          rw [hw, q, e2, ← tot, e3, kI_n1]
          exact i_asc
      obtain ⟨q1, q2⟩ := gCh_rg (n := a + b) (a := a) (by omega) (by omega)
      rcases h1 with ⟨c0, hv, _⟩ | ⟨c0, h1⟩
      · rw [hv, ew, r0 c0]
      · have h1 := tIf_p (show 0 < kI (gCh (a + b) a : Nat) by rw [i_lt, i_0, kI_toInt (by omega) (by omega)]; omega) h1
        obtain ⟨_, hv, _⟩ := h1
        rw [hv, ew, r2 c0 c1, tot]
  · have h2 := tIf_n (fun q => g (by
      obtain ⟨q1, q2⟩ := f_42_iff.mp q
      rw [i_le, kI_toInt (by decide) (by decide)] at q1
      rw [i_le, kI_toInt (by decide) (by decide)] at q2
      exact ⟨q1, q2⟩)) h2
    rcases h1 with ⟨_, hv, _⟩ | ⟨g3, h1⟩
    · rw [hv, h2.1]
    · rcases h1 with ⟨g4, _⟩ | ⟨_, hv, _⟩
      · rw [i_lt, i_0] at g3
        rw [i_le, kI_toInt (by decide) (by decide)] at g4
        exact absurd ⟨by omega, g4⟩ g
      · rw [hv, h2.1]
