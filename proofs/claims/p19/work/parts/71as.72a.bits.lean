/-! sets as numbers: their bits, and how many -/
abbrev bt (x : Int32) (i : Nat) : Bool := x.toBitVec.getLsbD i
theorem bt_ext {x y : Int32} (h : ∀ i, i < 32 → bt x i = bt y i) : x = y := Int32.toBitVec.inj (BitVec.eq_of_getLsbD_eq h)
theorem bt_hi {x : Int32} {i : Nat} (h : 32 ≤ i) : bt x i = false := BitVec.getLsbD_of_ge _ _ h
theorem bt_and {x y : Int32} {i : Nat} : bt (x &&& y) i = (bt x i && bt y i) := BitVec.getLsbD_and
theorem bt_or {x y : Int32} {i : Nat} : bt (x ||| y) i = (bt x i || bt y i) := BitVec.getLsbD_or
theorem bt_xor {x y : Int32} {i : Nat} : bt (x ^^^ y) i = (bt x i ^^ bt y i) := BitVec.getLsbD_xor
theorem bt_m1 {i : Nat} (h : i < 32) : bt (kI (-1)) i = true := (by decide +kernel : ∀ i, i < 32 → bt (kI (-1)) i = true) i h
theorem bt_not {x : Int32} {i : Nat} (h : i < 32) : bt (x ^^^ kI (-1)) i = !bt x i := by
  rw [bt_xor, bt_m1 h, Bool.xor_true]
theorem bt_0 {i : Nat} : bt (kI 0) i = false := by
  by_cases h : i < 32
  · exact (by decide +kernel : ∀ i, i < 32 → bt (kI 0) i = false) i h
  · exact bt_hi (by omega)
theorem bt_1 {i : Nat} : bt (kI 1) i = decide (i = 0) := by
  by_cases h : i < 32
  · exact (by decide +kernel : ∀ i, i < 32 → bt (kI 1) i = decide (i = 0)) i h
  · rw [bt_hi (by omega), decide_eq_false (by omega)]
/-- 1 << p -/
theorem bt_sh {p : Int32} {k i : Nat} (hp : p.toInt = k) (hk : k < 32) : bt (kI 1 <<< (p &&& 31)) i = decide (i = k) := by
  rw [show p = kI (k : Nat) from kI_inj hp]
  by_cases h : i < 32
  · exact (by decide +kernel : ∀ k, k < 32 → ∀ i, i < 32 → bt (kI 1 <<< (kI (k : Nat) &&& 31)) i = decide (i = k)) k hk i h
  · rw [bt_hi (by omega), decide_eq_false (by omega)]
theorem sh_0 {p : Int32} : kI 0 <<< p = kI 0 := Int32.zero_shiftLeft
theorem usr_bv {x y : Int32} {k : Nat} (hy : y.toInt = k) (hk : k < 32) : (pUsr x y).toBitVec = x.toBitVec >>> k := by
  rw [show y = kI (k : Nat) from kI_inj hy]
  have e : ((kI (k : Nat)).toUInt32 &&& Int32.toUInt32 31).toBitVec % 32 = BitVec.ofNat 32 k := (by decide +kernel : ∀ k, k < 32 → ((kI (k : Nat)).toUInt32 &&& Int32.toUInt32 31).toBitVec % 32 = BitVec.ofNat 32 k) k hk
  show x.toBitVec >>> (((kI (k : Nat)).toUInt32 &&& Int32.toUInt32 31).toBitVec % 32) = _
  rw [e, BitVec.ushiftRight_eq', BitVec.toNat_ofNat, Nat.mod_eq_of_lt (by omega)]
theorem usr1 {x y : Int32} {k : Nat} (hy : y.toInt = k) (hk : k < 32) : (pUsr x y) &&& kI 1 = if bt x k = true then kI 1 else kI 0 := by
  refine bt_ext fun i hi => ?_
  rw [bt_and, bt_1]
  show ((pUsr x y).toBitVec.getLsbD i && _) = _
  rw [usr_bv hy hk, BitVec.getLsbD_ushiftRight]
  by_cases h : i = 0
  · subst h
    by_cases b : bt x k = true
    · have b' : x.toBitVec.getLsbD (k + 0) = true := b
      rw [if_pos b, b', bt_1]
      rfl
    · have b' : x.toBitVec.getLsbD (k + 0) = false := Bool.eq_false_iff.mpr b
      rw [if_neg b, b', bt_0]
      rfl
  · rw [decide_eq_false h, Bool.and_false]
    by_cases b : bt x k = true
    · rw [if_pos b, bt_1, decide_eq_false h]
    · rw [if_neg b, bt_0]
theorem f37_n {x y : Int32} {k : Nat} (hy : y.toInt = k) (hk : k < 32) : f_37 x y = 0 ↔ bt x k = false := by
  unfold f_37
  rw [usr1 hy hk]
  by_cases b : bt x k = true
  · rw [if_pos b, if_neg (nn rfl), b]
    exact ⟨fun q => absurd q (by decide), fun q => by cases q⟩
  · rw [if_neg b, if_pos (by decide)]
    exact ⟨fun _ => Bool.eq_false_iff.mpr b, fun _ => rfl⟩
theorem f37_y {x y : Int32} {k : Nat} (hy : y.toInt = k) (hk : k < 32) : ¬ f_37 x y = 0 ↔ bt x k = true := by
  rw [f37_n hy hk]
  cases bt x k <;> simp
/-! how many -/
def cN (p : Nat → Bool) : Nat → Nat
  | 0 => 0
  | n + 1 => cN p n + (if p n = true then 1 else 0)
theorem cN_cg {p q : Nat → Bool} : ∀ {n : Nat}, (∀ i, i < n → p i = q i) → cN p n = cN q n
  | 0, _ => rfl
  | n + 1, h => by
    show cN p n + _ = cN q n + _
    rw [cN_cg (n := n) (fun i hi => h i (by omega)), h n (by omega)]
theorem cN_le {p : Nat → Bool} : ∀ {n : Nat}, cN p n ≤ n
  | 0 => Nat.le_refl _
  | n + 1 => by
    show cN p n + (if p n = true then 1 else 0) ≤ n + 1
    have := cN_le (p := p) (n := n)
    split <;> omega
theorem cN_ext {p : Nat → Bool} {n m : Nat} (h : n ≤ m) (hp : ∀ i, n ≤ i → i < m → p i = false) : cN p m = cN p n := by
  obtain ⟨d, rfl⟩ := Nat.exists_eq_add_of_le h
  induction d with
  | zero => rfl
  | succ d ih =>
    show cN p (n + d) + (if p (n + d) = true then 1 else 0) = cN p n
    rw [ih (by omega) (fun i h1 h2 => hp i h1 (by omega)), hp (n + d) (by omega) (by omega)]
    rfl
theorem cN_front {p : Nat → Bool} : ∀ {n : Nat}, cN p (n + 1) = (if p 0 = true then 1 else 0) + cN (fun i => p (i + 1)) n
  | 0 => by
    show 0 + (if p 0 = true then 1 else 0) = (if p 0 = true then 1 else 0) + 0
    rw [Nat.zero_add, Nat.add_zero]
  | n + 1 => by
    show cN p (n + 1) + (if p (n + 1) = true then 1 else 0) = _
    rw [cN_front (n := n)]
    show _ = (if p 0 = true then 1 else 0) + (cN (fun i => p (i + 1)) n + (if p (n + 1) = true then 1 else 0))
    omega
/-! digits -/
def dm (B : Nat) (f : Nat → Nat) : Nat → Nat → Nat
  | 0, _ => 0
  | n + 1, X => f (X % B) + B * dm B f n (X / B)
def mkD (B m : Nat) : Nat → Nat
  | 0 => 0
  | n + 1 => m + B * mkD B m n
section DM
variable {B k m : Nat} {f g : Nat → Nat}
theorem dm_s {n X : Nat} : dm B f (n + 1) X = f (X % B) + B * dm B f n (X / B) := rfl
theorem dm_cg (hB : 0 < B) (h : ∀ d, d < B → f d = g d) : ∀ {n X : Nat}, dm B f n X = dm B g n X := by
  intro n
  induction n with
  | zero => intro X; rfl
  | succ n ih => intro X; rw [dm_s, dm_s, h _ (Nat.mod_lt _ hB), ih]
theorem dm_id (hB : 0 < B) : ∀ {n X : Nat}, X < B ^ n → dm B (fun d => d) n X = X := by
  intro n
  induction n with
  | zero =>
    intro X h
    rw [Nat.pow_zero] at h
    show 0 = X
    omega
  | succ n ih =>
    intro X h
    rw [dm_s, ih (Nat.div_lt_of_lt_mul (by rw [Nat.mul_comm, ← Nat.pow_succ]; exact h))]
    exact Nat.mod_add_div X B
theorem dm_add : ∀ {n X : Nat}, dm B f n X + dm B g n X = dm B (fun d => f d + g d) n X := by
  intro n
  induction n with
  | zero => intro X; rfl
  | succ n ih =>
    intro X
    rw [dm_s, dm_s, dm_s, ← ih, Nat.mul_add]
    omega
theorem dm_dm (hB : 0 < B) (h : ∀ d, d < B → f d < B) : ∀ {n X : Nat}, dm B g n (dm B f n X) = dm B (fun d => g (f d)) n X := by
  intro n
  induction n with
  | zero => intro X; rfl
  | succ n ih =>
    intro X
    have hf := h _ (Nat.mod_lt X hB)
    rw [dm_s (f := f), dm_s, dm_s, Nat.add_mul_mod_self_left, Nat.mod_eq_of_lt hf, Nat.add_mul_div_left _ _ hB, Nat.div_eq_of_lt hf, Nat.zero_add, ih]
theorem and_sp {a b c d : Nat} (hB : B = 2 ^ k) (ha : a < B) (hc : c < B) : (a + B * b) &&& (c + B * d) = (a &&& c) + B * (b &&& d) := by
  subst hB
  rw [Nat.add_comm a, Nat.add_comm c, Nat.add_comm (a &&& c)]
  have hac : a &&& c < 2 ^ k := Nat.and_lt_two_pow _ hc
  refine Nat.eq_of_testBit_eq fun i => ?_
  rw [Nat.testBit_and, Nat.testBit_two_pow_mul_add _ ha, Nat.testBit_two_pow_mul_add _ hc, Nat.testBit_two_pow_mul_add _ hac]
  by_cases h : i < k
  · simp only [if_pos h, Nat.testBit_and]
  · simp only [if_neg h, Nat.testBit_and]
theorem dm_and (hB : B = 2 ^ k) (hm : m < B) : ∀ {n X : Nat}, X &&& mkD B m n = dm B (fun d => d &&& m) n X := by
  have hB0 : 0 < B := by omega
  intro n
  induction n with
  | zero => intro X; exact Nat.and_zero X
  | succ n ih =>
    intro X
    rw [dm_s, ← ih, ← and_sp hB (Nat.mod_lt _ hB0) hm, Nat.mod_add_div]
    rfl
end DM
def pp2 (d : Nat) : Nat := d % 2 + d / 2
def pp4 (e : Nat) : Nat := pp2 (e % 4) + pp2 (e / 4)
def pp8 (e : Nat) : Nat := pp4 (e % 16) + pp4 (e / 16)
theorem sw1 {X : Nat} (hX : X < 4294967296) : (X / 2 &&& 1431655765) ≤ X ∧ X - (X / 2 &&& 1431655765) = dm 4 pp2 16 X := by
  have m : (1431655765 : Nat) = mkD 4 1 16 := by decide +kernel
  have sh : ∀ {n X : Nat}, dm 4 (fun d => d &&& 1) n (X / 2) = dm 4 (fun d => d / 2) n X := by
    intro n
    induction n with
    | zero => intro X; rfl
    | succ n ih =>
      intro X
      have e : (X / 2) % 4 &&& 1 = X % 4 / 2 := by
        rw [(by decide +kernel : ∀ d, d < 4 → d &&& 1 = d % 2) _ (Nat.mod_lt _ (by decide))]
        omega
      rw [dm_s, dm_s, show X / 2 / 4 = X / 4 / 2 by omega, ih, e]
  have a := sh (n := 16) (X := X)
  rw [← dm_and (k := 2) rfl (by decide), ← m] at a
  have b : dm 4 (fun d => d / 2) 16 X + dm 4 pp2 16 X = X := by
    rw [dm_add, dm_cg (g := fun d => d) (by decide) (fun d _ => by show d / 2 + pp2 d = d; unfold pp2; omega)]
    exact dm_id (by decide) (by have : (4 : Nat) ^ 16 = 4294967296 := by decide
                                omega)
  omega
theorem dm_grp4 {f : Nat → Nat} : ∀ {n X : Nat}, dm 4 f (2 * n) X = dm 16 (fun e => f (e % 4) + 4 * f (e / 4)) n X := by
  intro n
  induction n with
  | zero => intro X; rfl
  | succ n ih =>
    intro X
    show dm 4 f (2 * n + 1 + 1) X = _
    rw [dm_s, dm_s, dm_s, show X / 4 / 4 = X / 16 by omega, ih, show X % 16 % 4 = X % 4 by omega, show X % 16 / 4 = X / 4 % 4 by omega]
    omega
theorem dm_grp16 {f : Nat → Nat} : ∀ {n X : Nat}, dm 16 f (2 * n) X = dm 256 (fun e => f (e % 16) + 16 * f (e / 16)) n X := by
  intro n
  induction n with
  | zero => intro X; rfl
  | succ n ih =>
    intro X
    show dm 16 f (2 * n + 1 + 1) X = _
    rw [dm_s, dm_s, dm_s, show X / 16 / 16 = X / 256 by omega, ih, show X % 256 % 16 = X % 16 by omega, show X % 256 / 16 = X / 16 % 16 by omega]
    omega
theorem pp2_le : ∀ d, d < 4 → pp2 d ≤ 2 := by decide +kernel
theorem pp4_le : ∀ d, d < 16 → pp4 d ≤ 4 := by decide +kernel
theorem pp8_le : ∀ d, d < 256 → pp8 d ≤ 8 := by decide +kernel
theorem sw2 {X A : Nat} (hA : A = dm 4 pp2 16 X) : (A &&& 858993459) + (A / 4 &&& 858993459) = dm 16 pp4 8 X := by
  have m : (858993459 : Nat) = mkD 16 3 8 := by decide +kernel
  have a3 : ∀ d, d < 16 → d &&& 3 = d % 4 := by decide +kernel
  have sh : ∀ {n X : Nat}, dm 16 (fun d => d &&& 3) n (X / 4) = dm 16 (fun d => d / 4) n X := by
    intro n
    induction n with
    | zero => intro X; rfl
    | succ n ih =>
      intro X
      have e : (X / 4) % 16 &&& 3 = X % 16 / 4 := by
        rw [a3 _ (Nat.mod_lt _ (by decide))]
        omega
      rw [dm_s, dm_s, show X / 4 / 16 = X / 16 / 4 by omega, ih, e]
  rw [m, dm_and (k := 4) rfl (by decide), dm_and (k := 4) rfl (by decide), sh, dm_cg (g := fun d => d % 4) (by decide) (fun d hd => a3 d hd), dm_add, hA, show (16 : Nat) = 2 * 8 from rfl, dm_grp4]
  show dm 16 _ 8 (dm 16 _ 8 X) = _
  rw [dm_dm (by decide) (fun d hd => by have := pp2_le (d % 4) (by omega); have := pp2_le (d / 4) (by omega); show pp2 (d % 4) + 4 * pp2 (d / 4) < 16; omega)]
  refine dm_cg (by decide) (fun d hd => ?_)
  have := pp2_le (d % 4) (by omega)
  have := pp2_le (d / 4) (by omega)
  show (pp2 (d % 4) + 4 * pp2 (d / 4)) % 4 + (pp2 (d % 4) + 4 * pp2 (d / 4)) / 4 = pp4 d
  unfold pp4
  omega
theorem sw3 {X S : Nat} (hS : S = dm 16 pp4 8 X) : (S + S / 16) &&& 252645135 = dm 256 pp8 4 X := by
  have m : (252645135 : Nat) = mkD 256 15 4 := by decide +kernel
  have a15 : ∀ d, d < 256 → d &&& 15 = d % 16 := by decide +kernel
  have key : ∀ {n X : Nat}, (dm 256 (fun e => pp4 (e % 16) + 16 * pp4 (e / 16)) n X) % 16 ≤ 4 ∧ ((dm 256 (fun e => pp4 (e % 16) + 16 * pp4 (e / 16)) n X) + (dm 256 (fun e => pp4 (e % 16) + 16 * pp4 (e / 16)) n X) / 16) &&& mkD 256 15 n = dm 256 pp8 n X := by
    intro n
    induction n with
    | zero => intro X; exact ⟨by show 0 % 16 ≤ 4; omega, Nat.and_zero _⟩
    | succ n ih =>
      intro X
      obtain ⟨i1, i2⟩ := ih (X := X / 256)
      have b1 := pp4_le (X % 256 % 16) (by omega)
      have b2 := pp4_le (X % 256 / 16) (by omega)
      rw [dm_s, dm_s]
      generalize dm 256 (fun e => pp4 (e % 16) + 16 * pp4 (e / 16)) n (X / 256) = R at i1 i2 ⊢
      have e8 : pp8 (X % 256) = pp4 (X % 256 % 16) + pp4 (X % 256 / 16) := rfl
      rw [e8]
      generalize pp4 (X % 256 % 16) = a at b1 ⊢
      generalize pp4 (X % 256 / 16) = b at b2 ⊢
      refine ⟨by omega, ?_⟩
      show _ &&& (15 + 256 * mkD 256 15 n) = _
      rw [show a + 16 * b + 256 * R + (a + 16 * b + 256 * R) / 16 = (a + 16 * b + b + 16 * (R % 16)) + 256 * (R + R / 16) by omega, and_sp (k := 8) rfl (by omega) (by decide), i2, a15 _ (by omega)]
      omega
  rw [hS, show (8 : Nat) = 2 * 4 from rfl, dm_grp16, m]
  exact key.2
def cnt : Nat → Nat → Nat
  | 0, _ => 0
  | n + 1, X => X % 2 + cnt n (X / 2)
theorem cnt_8 : ∀ e, e < 256 → pp8 e = cnt 8 e := by decide +kernel
theorem cnt_sp {n X : Nat} : cnt (n + 8) X = cnt 8 (X % 256) + cnt n (X / 256) := by
  have e1 : cnt (n + 8) X = X % 2 + (X / 2 % 2 + (X / 2 / 2 % 2 + (X / 2 / 2 / 2 % 2 + (X / 2 / 2 / 2 / 2 % 2 + (X / 2 / 2 / 2 / 2 / 2 % 2 + (X / 2 / 2 / 2 / 2 / 2 / 2 % 2 + (X / 2 / 2 / 2 / 2 / 2 / 2 / 2 % 2 + cnt n (X / 2 / 2 / 2 / 2 / 2 / 2 / 2 / 2)))))))) := rfl
  have e2 : ∀ Y, cnt 8 Y = Y % 2 + (Y / 2 % 2 + (Y / 2 / 2 % 2 + (Y / 2 / 2 / 2 % 2 + (Y / 2 / 2 / 2 / 2 % 2 + (Y / 2 / 2 / 2 / 2 / 2 % 2 + (Y / 2 / 2 / 2 / 2 / 2 / 2 % 2 + (Y / 2 / 2 / 2 / 2 / 2 / 2 / 2 % 2 + 0))))))) := fun _ => rfl
  rw [e1, e2, show X / 2 / 2 / 2 / 2 / 2 / 2 / 2 / 2 = X / 256 by omega]
  omega
theorem cnt_cN : ∀ {n X : Nat}, cN (fun i => X.testBit i) n = cnt n X
  | 0, _ => rfl
  | n + 1, X => by
    rw [cN_front]
    have e : (fun i => X.testBit (i + 1)) = fun i => (X / 2).testBit i := funext fun i => Nat.testBit_succ X i
    show (if X.testBit 0 = true then 1 else 0) + cN (fun i => X.testBit (i + 1)) n = X % 2 + cnt n (X / 2)
    rw [e, cnt_cN, Nat.testBit_zero]
    by_cases h : X % 2 = 1
    · rw [decide_eq_true h, if_pos rfl, h]
    · rw [decide_eq_false h, if_neg (by decide)]
      omega
theorem sw4 {e0 e1 e2 e3 C D E : Nat} (h0 : e0 ≤ 8) (h1 : e1 ≤ 8) (h2 : e2 ≤ 8) (h3 : e3 ≤ 8) (hC : C = e0 + 256 * (e1 + 256 * (e2 + 256 * (e3 + 256 * 0)))) (hD : D = C + C / 256) (hE : E = D + D / 65536) : E % 64 = e0 + (e1 + (e2 + e3)) := by
  have c1 : C / 256 = e1 + 256 * e2 + 65536 * e3 := by omega
  have d0 : D = (e0 + e1) + 256 * (e1 + e2) + 65536 * (e2 + e3) + 16777216 * e3 := by omega
  have d1 : D / 65536 = (e2 + e3) + 256 * e3 := by omega
  have e : E = (e0 + e1 + e2 + e3) + 256 * ((e1 + e2 + e3) + 256 * (e2 + e3) + 65536 * e3) := by omega
  omega
theorem f239_n {x : Int32} : f_239 x = kI ((cN (bt x) 32 : Nat) : Int) := by
  have n2 : ∀ {a b : Int32}, (a &&& b).toBitVec.toNat = a.toBitVec.toNat &&& b.toBitVec.toNat := fun {a b} => BitVec.toNat_and a.toBitVec b.toBitVec
  have us : ∀ {a : Int32} (k : Nat), k < 32 → (pUsr a (kI (k : Nat))).toBitVec.toNat = a.toBitVec.toNat / 2 ^ k := fun {a} k hk => by
    rw [usr_bv (k := k) (kI_toInt (by omega) (by omega)) hk, BitVec.toNat_ushiftRight, Nat.shiftRight_eq_div_pow]
  have us1 : ∀ {a : Int32}, (pUsr a (kI 1)).toBitVec.toNat = a.toBitVec.toNat / 2 := fun {a} => us (a := a) 1 (by decide)
  have us2 : ∀ {a : Int32}, (pUsr a (kI 2)).toBitVec.toNat = a.toBitVec.toNat / 4 := fun {a} => us (a := a) 2 (by decide)
  have m1 : (kI 1431655765).toBitVec.toNat = 1431655765 := by decide
  have m2 : (kI 858993459).toBitVec.toNat = 858993459 := by decide
  have m3 : (kI 252645135).toBitVec.toNat = 252645135 := by decide
  have m4 : (kI 63).toBitVec.toNat = 63 := by decide
  have ad : ∀ {a b : Int32}, a.toBitVec.toNat + b.toBitVec.toNat < 4294967296 → (a + b).toBitVec.toNat = a.toBitVec.toNat + b.toBitVec.toNat := fun {a b} h => BitVec.toNat_add_of_lt (x := a.toBitVec) (y := b.toBitVec) h
  have sb : ∀ {a b : Int32}, b.toBitVec.toNat ≤ a.toBitVec.toNat → (a - b).toBitVec.toNat = a.toBitVec.toNat - b.toBitVec.toNat := fun {a b} h => BitVec.toNat_sub_of_le (x := a.toBitVec) (y := b.toBitVec) h
  have hX := x.toBitVec.isLt
  unfold f_239
  generalize hA : x - ((pUsr x (kI 1)) &&& (kI 1431655765)) = A
  generalize hB : (A &&& (kI 858993459)) + ((pUsr A (kI 2)) &&& (kI 858993459)) = B
  generalize hC : (B + (pUsr B (kI 4))) &&& (kI 252645135) = C
  generalize hD : C + (pUsr C (kI 8)) = D
  generalize hE : D + (pUsr D (kI 16)) = E
  generalize hx : x.toBitVec.toNat = X at hX
  have hX : X < 4294967296 := hX
  obtain ⟨s1, s1'⟩ := sw1 hX
  have qA : A.toBitVec.toNat = dm 4 pp2 16 X := by
    have e : ((pUsr x (kI 1)) &&& (kI 1431655765)).toBitVec.toNat = X / 2 &&& 1431655765 := by
      rw [n2, us1, hx, m1]
    rw [← hA, sb (by rw [e, hx]; exact s1), e, hx]
    exact s1'
  have s2 := sw2 qA
  have b2 : dm 16 pp4 8 X < 268435456 * 5 := by
    have h : ∀ Y, pp4 (Y % 16) ≤ 4 := fun Y => pp4_le _ (Nat.mod_lt _ (by decide))
    have e : dm 16 pp4 8 X = pp4 (X % 16) + 16 * (pp4 (X / 16 % 16) + 16 * (pp4 (X / 16 / 16 % 16) + 16 * (pp4 (X / 16 / 16 / 16 % 16) + 16 * (pp4 (X / 16 / 16 / 16 / 16 % 16) + 16 * (pp4 (X / 16 / 16 / 16 / 16 / 16 % 16) + 16 * (pp4 (X / 16 / 16 / 16 / 16 / 16 / 16 % 16) + 16 * (pp4 (X / 16 / 16 / 16 / 16 / 16 / 16 / 16 % 16) + 16 * 0))))))) := rfl
    rw [e]
    have h0 := h X
    have h1 := h (X / 16)
    have h2 := h (X / 16 / 16)
    have h3 := h (X / 16 / 16 / 16)
    have h4 := h (X / 16 / 16 / 16 / 16)
    have h5 := h (X / 16 / 16 / 16 / 16 / 16)
    have h6 := h (X / 16 / 16 / 16 / 16 / 16 / 16)
    have h7 := h (X / 16 / 16 / 16 / 16 / 16 / 16 / 16)
    omega
  have qB : B.toBitVec.toNat = dm 16 pp4 8 X := by
    have e1 : (A &&& (kI 858993459)).toBitVec.toNat = A.toBitVec.toNat &&& 858993459 := by rw [n2, m2]
    have e2 : ((pUsr A (kI 2)) &&& (kI 858993459)).toBitVec.toNat = A.toBitVec.toNat / 4 &&& 858993459 := by
      rw [n2, us2, m2]
    rw [← hB, ad (by rw [e1, e2, s2]; omega), e1, e2, s2]
  have s3 := sw3 qB
  have qC : C.toBitVec.toNat = dm 256 pp8 4 X := by
    have e2 : (pUsr B (kI 4)).toBitVec.toNat = B.toBitVec.toNat / 16 := us 4 (by decide)
    rw [← hC, n2, ad (by rw [e2, qB]; omega), e2, m3]
    exact s3
  have h : ∀ Y, pp8 (Y % 256) ≤ 8 := fun Y => pp8_le _ (Nat.mod_lt _ (by decide))
  have eC : dm 256 pp8 4 X = pp8 (X % 256) + 256 * (pp8 (X / 256 % 256) + 256 * (pp8 (X / 256 / 256 % 256) + 256 * (pp8 (X / 256 / 256 / 256 % 256) + 256 * 0))) := rfl
  have h0 := h X
  have h1 := h (X / 256)
  have h2 := h (X / 256 / 256)
  have h3 := h (X / 256 / 256 / 256)
  have ec : cN (bt x) 32 = pp8 (X % 256) + (pp8 (X / 256 % 256) + (pp8 (X / 256 / 256 % 256) + pp8 (X / 256 / 256 / 256 % 256))) := by
    have e0 : cN (bt x) 32 = cnt 32 X := by
      rw [← cnt_cN, ← hx]
      rfl
    have hz : X / 256 / 256 / 256 % 256 = X / 256 / 256 / 256 := by omega
    have c32 : cnt 32 X = cnt 8 (X % 256) + cnt 24 (X / 256) := cnt_sp
    have c24 : cnt 24 (X / 256) = cnt 8 (X / 256 % 256) + cnt 16 (X / 256 / 256) := cnt_sp
    have c16 : cnt 16 (X / 256 / 256) = cnt 8 (X / 256 / 256 % 256) + cnt 8 (X / 256 / 256 / 256) := cnt_sp
    rw [e0, c32, c24, c16, cnt_8 (X % 256) (Nat.mod_lt _ (by decide)), cnt_8 (X / 256 % 256) (Nat.mod_lt _ (by decide)), cnt_8 (X / 256 / 256 % 256) (Nat.mod_lt _ (by decide)), hz, cnt_8 (X / 256 / 256 / 256) (by omega)]
  rw [eC] at qC
  have qD : D.toBitVec.toNat = C.toBitVec.toNat + C.toBitVec.toNat / 256 := by
    have e2 : (pUsr C (kI 8)).toBitVec.toNat = C.toBitVec.toNat / 256 := us 8 (by decide)
    rw [← hD, ad (by rw [e2]; omega), e2]
  have qE : E.toBitVec.toNat = D.toBitVec.toNat + D.toBitVec.toNat / 65536 := by
    have e2 : (pUsr D (kI 16)).toBitVec.toNat = D.toBitVec.toNat / 65536 := us 16 (by decide)
    rw [← hE, ad (by rw [e2]; omega), e2]
  have q : (E &&& kI 63).toBitVec.toNat = cN (bt x) 32 := by
    have e1 : (E &&& kI 63).toBitVec.toNat = E.toBitVec.toNat % 64 := by
      rw [n2, m4]
      exact Nat.and_two_pow_sub_one_eq_mod E.toBitVec.toNat 6
    rw [e1, ec]
    exact sw4 h0 h1 h2 h3 qC qD qE
  refine kI_inj ?_
  have le := cN_le (p := bt x) (n := 32)
  have t : (E &&& kI 63).toBitVec.toInt = ((E &&& kI 63).toBitVec.toNat : Int) := BitVec.toInt_eq_toNat_of_lt (by rw [q]; omega)
  show (E &&& kI 63).toBitVec.toInt = _
  rw [t, q]
